/-! ===== the ways of the class, asked ===== -/
theorem b9K {α1 α2 α3 α4 α5 α6 α7 α8 α9 β : Type} (a : α1) (b : α2) (c : α3) (d : α4) (e : α5) (f : α6) (g : α7) (h : α8) (i : α9) (k : α1 → α2 → α3 → α4 → α5 → α6 → α7 → α8 → α9 → Option β) : bd9 (some (a, b, c, d, e, f, g, h, i)) k = k a b c d e f g h i := rfl
def KW (G : Gr) (known found : Nat → Int32) (sets : Nat → Int64) : Prop := (∀ way, way < 4 → known way = 0 ∨ (known way = 1 ∧ WR G way (found way) (sets way))) ∧ (known 4 = 0 ∨ (known 4 = 1 ∧ WC G (found 4) (sets 4)))
def WaO (G : Gr) (age : Int32) (sl so se later laters : Nat → Int32) (am : Int32) (known found : Nat → Int32) (sets : Nat → Int64) (wage : Int32) : Prop := (∃ e a b, RI sl so se 0 e a b) ∧ (wage = age → ∃ n e, am = nI n ∧ Tab (allN G) 1 (adj G) n e sl so se later laters ∧ KW G known found sets)
theorem RI_fresh (se : Nat → Int32) : RI (fun _ => 0) (fun _ => 0) se 0 (fun _ => 0) (fun _ => 0) (fun _ => 0) := ⟨by omega, fun i _ => ⟨show 0 < 2584 by decide, rfl⟩, fun i _ => ⟨show 0 < 4096 by decide, rfl⟩, fun p hp => absurd hp (Nat.not_lt_zero _), fun p q hp => absurd hp (Nat.not_lt_zero _)⟩
theorem WaO_fresh {G : Gr} {age : Int32} (h : -1 ≠ age) : WaO G age (fun _ => 0) (fun _ => 0) (fun _ => 0) (fun _ => 0) (fun _ => 0) 0 (fun _ => 0) (fun _ => 0) (fun _ => 0) (-1) := ⟨⟨_, _, _, RI_fresh _⟩, fun e => absurd e h⟩
theorem known52_L {kk : (Nat → Int32) → Option (Int32 × Int32 × Int32 × (Nat → Int32) × (Nat → Int32) × (Nat → Int32) × (Nat → Int32) × (Nat → Int32) × (Nat → Int32))} : ∀ (k m w : Nat) (kn : Nat → Int32), w + k = 5 → k < m → (∀ i, i < w → kn i = 0) → ∃ kn', f_X10_refresh_L52 kk m (nI w) kn = kk kn' ∧ ∀ i, i < 5 → kn' i = 0 := by
  intro k
  induction k with
  | zero =>
    intro m w kn e1 hm h
    obtain ⟨m, rfl⟩ : ∃ k, m = k + 1 := ⟨m - 1, by omega⟩
    refine ⟨kn, ?_, fun i hi => h i (by omega)⟩
    unfold f_X10_refresh_L52
    rw [if_pos (show (4 : Int32) < nI w from (nI_ltI (a := 4) (by decide) (by omega)).mpr (by omega))]
  | succ k ih =>
    intro m w kn e1 hm h
    obtain ⟨m, rfl⟩ : ∃ k, m = k + 1 := ⟨m - 1, by omega⟩
    unfold f_X10_refresh_L52
    rw [if_neg (show ¬ (4 : Int32) < nI w from fun h => by rw [show (4 : Int32) = nI 4 from rfl, nI_ltI (by decide) (by omega)] at h; omega), wr_nI (by omega) (by decide), nI_1]
    refine ih m (w + 1) _ (by omega) (by omega) (fun i hi => ?_)
    by_cases c : i = w
    · rw [c, up_s]
    · rw [up_n c]; exact h i (by omega)
theorem wref_eq {F : Nat} (hF : 100000 ≤ F) {G : Gr} (hW : Wf G) {nodes made : Int32} {one oth wts alv joined : Nat → Int32} (hC : CG G nodes made one oth wts alv joined) {age : Int32} {sl so se later laters : Nat → Int32} {ml am : Int32} {known found : Nat → Int32} {sets : Nat → Int64} {wage : Int32} (h : WaO G age sl so se later laters am known found sets wage) :
    ∃ ml' n e sl' so' se' later' laters' known', f_X10_refresh F nodes age joined sl so se later laters ml am known wage = some (age, ml', nI n, sl', so', se', later', laters', known') ∧ Tab (allN G) 1 (adj G) n e sl' so' se' later' laters' ∧ KW G known' found sets := by
  obtain ⟨⟨e0, a, b, hR⟩, hcur⟩ := h
  have hnod := hC.1
  have hj := hC.2.2.2
  unfold f_X10_refresh
  by_cases c : wage = age
  · obtain ⟨n, e, rfl, t1, t2⟩ := hcur c
    rw [if_pos c, c]
    exact ⟨ml, n, e, sl, so, se, later, laters, known, rfl, t1, t2⟩
  · rw [if_neg c, hnod, allNodes_eq hW]
    obtain ⟨n, e, sl', so', se', later', laters', q1, q2⟩ := build_eq hF (allN_lt hW) (ml := 1) (Or.inr rfl) (adj := adj G) (fun v _ => adj_lt hW v) (p2 := joined) hj hR later laters
    rw [q1, b7S]
    simp only [jn]
    rw [z32]
    obtain ⟨kn, k1, k2⟩ := known52_L (kk := fun k => some (age, 1, nI n, sl', so', se', later', laters', k)) 5 F 0 known (by omega) (by omega) (fun i hi => by omega)
    rw [k1]
    exact ⟨1, n, e, sl', so', se', later', laters', kn, rfl, q2, fun way hw => Or.inl (k2 way (by omega)), Or.inl (k2 4 (by omega))⟩
theorem ask_eq {F : Nat} (hF : 100000 ≤ F) {G : Gr} (hW : Wf G) {nodes made : Int32} {one oth wts alv joined : Nat → Int32} (hC : CG G nodes made one oth wts alv joined) {n : Nat} {e : Nat → Nat} {sl so se later laters : Nat → Int32} (hT : Tab (allN G) 1 (adj G) n e sl so se later laters) {way : Nat} (hw : way < 4) (gain : Nat → Int32) (mark : Nat → Int64) (bg : Nat → Int32) (bm : Nat → Int64) {known found : Nat → Int32} {sets : Nat → Int64} (hK : KW G known found sets) :
    ∃ fd g1 m1 b1 c1 k1 f1 s1, f_X10_exists F (nI way) made one oth wts alv sl so se later laters (nI n) gain mark bg bm known found sets = some (fd, g1, m1, b1, c1, k1, f1, s1) ∧ KW G k1 f1 s1 ∧ ((fd = 0 ∧ ∀ Y, Mt G (allN G) Y → (1 < way → Pf G (allN G) Y) → False) ∨ (fd = 1 ∧ ∃ X g2 m2 b2 c2 k2 f2 s2, IsW G way X ∧ f_X10_chosen F (nI way) made one oth wts alv sl so se later laters (nI n) g1 m1 b1 c1 k1 f1 s1 = some (lN X, g2, m2, b2, c2, k2, f2, s2) ∧ KW G k2 f2 s2)) := by
  have keep : ∀ (kn fo : Nat → Int32) (st : Nat → Int64) (kn' fo' : Nat → Int32) (st' : Nat → Int64), KW G kn fo st → kn' way = 1 → WR G way (fo' way) (st' way) → (∀ w, w ≠ way → kn' w = kn w ∧ fo' w = fo w ∧ st' w = st w) → KW G kn' fo' st' := by
    intro kn fo st kn' fo' st' hk h1 h2 h3
    refine ⟨fun w hw2 => ?_, ?_⟩
    · by_cases c : w = way
      · subst c; exact Or.inr ⟨h1, h2⟩
      · obtain ⟨x1, x2, x3⟩ := h3 w c
        rw [x1, x2, x3]; exact hk.1 w hw2
    · obtain ⟨x1, x2, x3⟩ := h3 4 (by omega)
      rw [x1, x2, x3]; exact hk.2
  obtain ⟨g1, m1, b1, c1, k1, f1, s1, h1, h2, h3, h4⟩ := exists_eq hF hW hC hT hw gain mark bg bm known found sets (hK.1 way hw)
  have hK1 := keep known found sets k1 f1 s1 hK h2 h3 h4
  refine ⟨f1 way, g1, m1, b1, c1, k1, f1, s1, h1, hK1, ?_⟩
  rcases h3 with ⟨x1, X, x2, x3⟩ | ⟨x1, x2⟩
  · right
    obtain ⟨g2, m2, b2, c2, k2, f2, s2, q1, q2, q3, q4⟩ := chosen_eq hF hW hC hT hw g1 m1 b1 c1 k1 f1 s1 (hK1.1 way hw)
    refine ⟨x1, X, g2, m2, b2, c2, k2, f2, s2, x3, ?_, keep k1 f1 s1 k2 f2 s2 hK1 q2 q3 q4⟩
    rcases q3 with ⟨y1, Y, y2, y3⟩ | ⟨y1, y2⟩
    · rw [q1, y2, isW_one y3 x3]
    · exact absurd (y2 X x3.1 x3.2.1) id
  · exact Or.inl ⟨x1, x2⟩
theorem isC_one {G : Gr} {X Y : Nat} (h : IsC G X) (h' : IsC G Y) : X = Y := by
  have := h.2 Y h'.1
  have := h'.2 X h.1
  omega
theorem ask4_eq {F : Nat} (hF : 100000 ≤ F) {G : Gr} (hW : Wf G) {nodes made : Int32} {one oth wts alv joined : Nat → Int32} (hC : CG G nodes made one oth wts alv joined) {n : Nat} {e : Nat → Nat} {sl so se later laters : Nat → Int32} (hT : Tab (allN G) 1 (adj G) n e sl so se later laters) (gain : Nat → Int32) (mark : Nat → Int64) (bg : Nat → Int32) (bm : Nat → Int64) {known found : Nat → Int32} {sets : Nat → Int64} (hK : KW G known found sets) :
    ∃ fd g1 m1 b1 c1 k1 f1 s1, f_X10_exists F (nI 4) made one oth wts alv sl so se later laters (nI n) gain mark bg bm known found sets = some (fd, g1, m1, b1, c1, k1, f1, s1) ∧ KW G k1 f1 s1 ∧ ((fd = 0 ∧ ∀ Y, ¬ Cw G (allN G) Y) ∨ (fd = 1 ∧ ∃ X g2 m2 b2 c2 k2 f2 s2, IsC G X ∧ f_X10_chosen F (nI 4) made one oth wts alv sl so se later laters (nI n) g1 m1 b1 c1 k1 f1 s1 = some (lN X, g2, m2, b2, c2, k2, f2, s2) ∧ KW G k2 f2 s2)) := by
  have keep : ∀ (kn fo : Nat → Int32) (st : Nat → Int64) (kn' fo' : Nat → Int32) (st' : Nat → Int64), KW G kn fo st → kn' 4 = 1 → WC G (fo' 4) (st' 4) → (∀ w, w ≠ 4 → kn' w = kn w ∧ fo' w = fo w ∧ st' w = st w) → KW G kn' fo' st' := by
    intro kn fo st kn' fo' st' hk h1 h2 h3
    refine ⟨fun w hw2 => ?_, Or.inr ⟨h1, h2⟩⟩
    obtain ⟨x1, x2, x3⟩ := h3 w (by omega)
    rw [x1, x2, x3]; exact hk.1 w hw2
  obtain ⟨g1, m1, b1, c1, k1, f1, s1, h1, h2, h3, h4⟩ := exists4_eq hF hW hC hT gain mark bg bm known found sets hK.2
  have hK1 := keep known found sets k1 f1 s1 hK h2 h3 h4
  refine ⟨f1 4, g1, m1, b1, c1, k1, f1, s1, h1, hK1, ?_⟩
  rcases h3 with ⟨x1, X, x2, x3⟩ | ⟨x1, x2⟩
  · right
    obtain ⟨g2, m2, b2, c2, k2, f2, s2, q1, q2, q3, q4⟩ := chosen4_eq hF hW hC hT g1 m1 b1 c1 k1 f1 s1 hK1.2
    refine ⟨x1, X, g2, m2, b2, c2, k2, f2, s2, x3, ?_, keep k1 f1 s1 k2 f2 s2 hK1 q2 q3 q4⟩
    rcases q3 with ⟨y1, Y, y2, y3⟩ | ⟨y1, y2⟩
    · rw [q1, y2, isC_one y3 x3]
    · exact absurd x3.1 (y2 X)
  · exact Or.inl ⟨x1, x2⟩
/-- an answer that is told of the pairs of a way -/
def SpW (G : Gr) (way : Nat) (val : Nat → Int32) (a : Int32) : Prop := (∃ X, IsW G way X ∧ a = val X) ∨ ((∀ Y, Mt G (allN G) Y → (1 < way → Pf G (allN G) Y) → False) ∧ a = -3)
theorem SpW_one {G : Gr} {way : Nat} {val : Nat → Int32} {a b : Int32} (h : SpW G way val a) (h' : SpW G way val b) : a = b := by
  rcases h with ⟨X, x1, x2⟩ | ⟨x1, x2⟩
  · rcases h' with ⟨Y, y1, y2⟩ | ⟨y1, y2⟩
    · rw [x2, y2, isW_one x1 y1]
    · exact absurd (y1 X x1.1 x1.2.1) id
  · rcases h' with ⟨Y, y1, y2⟩ | ⟨y1, y2⟩
    · exact absurd (x1 Y y1.1 y1.2.1) id
    · rw [x2, y2]
def SpC (G : Gr) (val : Nat → Int32) (a : Int32) : Prop := (∃ X, IsC G X ∧ a = val X) ∨ ((∀ Y, ¬ Cw G (allN G) Y) ∧ a = -3)
theorem SpC_one {G : Gr} {val : Nat → Int32} {a b : Int32} (h : SpC G val a) (h' : SpC G val b) : a = b := by
  rcases h with ⟨X, x1, x2⟩ | ⟨x1, x2⟩
  · rcases h' with ⟨Y, y1, y2⟩ | ⟨y1, y2⟩
    · rw [x2, y2, isC_one x1 y1]
    · exact absurd x1.1 (y1 X)
  · rcases h' with ⟨Y, y1, y2⟩ | ⟨y1, y2⟩
    · exact absurd y1.1 (x1 Y)
    · rw [x2, y2]
theorem way_of {p : Int32} (h : f_X11_isWay p ≠ 0) : ∃ way, way < 4 ∧ p = nI way := by
  unfold f_X11_isWay at h
  by_cases c : p < 0
  · rw [if_pos c] at h; exact absurd rfl h
  · rw [if_neg c] at h
    by_cases d : (4 : Int32) ≤ p
    · rw [if_pos d] at h; exact absurd rfl h
    · obtain ⟨j, j1, j2⟩ := nI_of c
      subst j2
      rw [show (4 : Int32) = nI 4 from rfl, nI_leI (by decide) (by omega)] at d
      exact ⟨j, by omega, rfl⟩
theorem node_of {p : Int32} {n : Nat} (hn : n ≤ 16) (h : f_X2_isNode p (nI n) ≠ 0) : ∃ v, v < n ∧ p = nI v := by
  unfold f_X2_isNode at h
  by_cases c : p < 0
  · rw [if_pos c] at h; exact absurd rfl h
  · rw [if_neg c] at h
    by_cases d : nI n ≤ p
    · rw [if_pos d] at h; exact absurd rfl h
    · obtain ⟨j, j1, j2⟩ := nI_of c
      subst j2
      rw [nI_leI (by omega) (by omega)] at d
      exact ⟨j, by omega, rfl⟩
/-! the class's calls on ways (the object Ways is there) -/
theorem pairsS_eq {F : Nat} (hF : 100000 ≤ F) {G : Gr} (hW : Wf G) {nodes made : Int32} {one oth wts alv joined : Nat → Int32} (hC : CG G nodes made one oth wts alv joined) {age : Int32} {sl so se later laters : Nat → Int32} {ml am : Int32} (gain : Nat → Int32) (mark : Nat → Int64) (bg : Nat → Int32) (bm : Nat → Int64) {known found : Nat → Int32} {sets : Nat → Int64} {wage : Int32} (h : WaO G age sl so se later laters am known found sets wage) {way : Nat} (hw : way < 4) :
    ∃ a ml' am' sl' so' se' later' laters' g' m' bg' bm' known' found' sets', f_X11_pairsS F (nI way) nodes made age one oth wts alv joined sl so se later laters ml am gain mark bg bm known found sets wage = some (a, age, ml', am', sl', so', se', later', laters', g', m', bg', bm', known', found', sets') ∧ WaO G age sl' so' se' later' laters' am' known' found' sets' age ∧ SpW G way (fun X => nI (cX X 60)) a := by
  obtain ⟨ml1, n, e, sl1, so1, se1, la1, ls1, kn1, r1, r2, r3⟩ := wref_eq hF hW hC (ml := ml) h
  obtain ⟨fd, g1, m1, b1, c1, k1, f1, s1, q1, q2, q3⟩ := ask_eq hF hW hC r2 hw gain mark bg bm r3
  have hRI : ∃ e a b, RI sl1 so1 se1 0 e a b := by obtain ⟨⟨a, b, hR⟩, -⟩ := r2; exact ⟨e, a, b, RI.zero hR⟩
  have hway : ¬ f_X11_isWay (nI way) = 0 := (by decide : ∀ w, w < 4 → ¬ f_X11_isWay (nI w) = 0) way hw
  unfold f_X11_pairsS f_X11_currentWaysS
  rw [if_neg hway, r1, b9K, b9K, q1, b8K]
  rcases q3 with ⟨x1, x2⟩ | ⟨x1, X, g2, m2, b2, c2, k2, f2, s2, y1, y2, y3⟩
  · rw [x1, if_pos rfl]
    exact ⟨_, _, _, _, _, _, _, _, _, _, _, _, _, _, _, rfl, ⟨hRI, fun _ => ⟨n, e, rfl, r2, q2⟩⟩, Or.inr ⟨x2, rfl⟩⟩
  · rw [x1, if_neg (by decide), y2, b8K]
    exact ⟨_, _, _, _, _, _, _, _, _, _, _, _, _, _, _, rfl, ⟨hRI, fun _ => ⟨n, e, rfl, r2, y3⟩⟩, Or.inl ⟨X, y1, bc_X y1.1.1⟩⟩
theorem weightS_eq {F : Nat} (hF : 100000 ≤ F) {G : Gr} (hW : Wf G) {nodes made : Int32} {one oth wts alv joined : Nat → Int32} (hC : CG G nodes made one oth wts alv joined) {age : Int32} {sl so se later laters : Nat → Int32} {ml am : Int32} (gain : Nat → Int32) (mark : Nat → Int64) (bg : Nat → Int32) (bm : Nat → Int64) {known found : Nat → Int32} {sets : Nat → Int64} {wage : Int32} (h : WaO G age sl so se later laters am known found sets wage) {way : Nat} (hw : way < 4) :
    ∃ a ml' am' sl' so' se' later' laters' g' m' bg' bm' known' found' sets', f_X11_weightS F (nI way) nodes made age one oth wts alv joined sl so se later laters ml am gain mark bg bm known found sets wage = some (a, age, ml', am', sl', so', se', later', laters', g', m', bg', bm', known', found', sets') ∧ WaO G age sl' so' se' later' laters' am' known' found' sets' age ∧ SpW G way (fun X => nI (wX G X (md G))) a := by
  obtain ⟨ml1, n, e, sl1, so1, se1, la1, ls1, kn1, r1, r2, r3⟩ := wref_eq hF hW hC (ml := ml) h
  obtain ⟨fd, g1, m1, b1, c1, k1, f1, s1, q1, q2, q3⟩ := ask_eq hF hW hC r2 hw gain mark bg bm r3
  have hRI : ∃ e a b, RI sl1 so1 se1 0 e a b := by obtain ⟨⟨a, b, hR⟩, -⟩ := r2; exact ⟨e, a, b, RI.zero hR⟩
  have hway : ¬ f_X11_isWay (nI way) = 0 := (by decide : ∀ w, w < 4 → ¬ f_X11_isWay (nI w) = 0) way hw
  unfold f_X11_weightS f_X11_currentWaysS
  rw [if_neg hway, r1, b9K, b9K, q1, b8K]
  rcases q3 with ⟨x1, x2⟩ | ⟨x1, X, g2, m2, b2, c2, k2, f2, s2, y1, y2, y3⟩
  · rw [x1, if_pos rfl]
    exact ⟨_, _, _, _, _, _, _, _, _, _, _, _, _, _, _, rfl, ⟨hRI, fun _ => ⟨n, e, rfl, r2, q2⟩⟩, Or.inr ⟨x2, rfl⟩⟩
  · have hX := y1.1.1
    rw [x1, if_neg (by decide), y2, b8K, weightOf_eq hF hW hC.2.1 (fun i hi => (hC.2.2.1 i hi).2.2.1) (X := X) (by omega), bS]
    exact ⟨_, _, _, _, _, _, _, _, _, _, _, _, _, _, _, rfl, ⟨hRI, fun _ => ⟨n, e, rfl, r2, y3⟩⟩, Or.inl ⟨X, y1, rfl⟩⟩
theorem mateS_eq {F : Nat} (hF : 100000 ≤ F) {G : Gr} (hW : Wf G) {nodes made : Int32} {one oth wts alv joined : Nat → Int32} (hC : CG G nodes made one oth wts alv joined) {age : Int32} {sl so se later laters : Nat → Int32} {ml am : Int32} (gain : Nat → Int32) (mark : Nat → Int64) (bg : Nat → Int32) (bm : Nat → Int64) {known found : Nat → Int32} {sets : Nat → Int64} {wage : Int32} (h : WaO G age sl so se later laters am known found sets wage) {way v : Nat} (hw : way < 4) (hv : v < nd G) :
    ∃ a ml' am' sl' so' se' later' laters' g' m' bg' bm' known' found' sets', f_X11_mateS F (nI way) (nI v) nodes made age one oth wts alv joined sl so se later laters ml am gain mark bg bm known found sets wage = some (a, age, ml', am', sl', so', se', later', laters', g', m', bg', bm', known', found', sets') ∧ WaO G age sl' so' se' later' laters' am' known' found' sets' age ∧ SpW G way (fun X => arcF G X v (md G) 0) a := by
  have hn := hW.1
  obtain ⟨ml1, n, e, sl1, so1, se1, la1, ls1, kn1, r1, r2, r3⟩ := wref_eq hF hW hC (ml := ml) h
  obtain ⟨fd, g1, m1, b1, c1, k1, f1, s1, q1, q2, q3⟩ := ask_eq hF hW hC r2 hw gain mark bg bm r3
  have hRI : ∃ e a b, RI sl1 so1 se1 0 e a b := by obtain ⟨⟨a, b, hR⟩, -⟩ := r2; exact ⟨e, a, b, RI.zero hR⟩
  have hway : ¬ f_X11_isWay (nI way) = 0 := (by decide : ∀ w, w < 4 → ¬ f_X11_isWay (nI w) = 0) way hw
  have hnode : ¬ f_X2_isNode (nI v) nodes = 0 := by
    rw [hC.1]
    unfold f_X2_isNode
    rw [if_neg (nI_pos (by omega)), if_neg (fun h => by rw [nI_leI (by omega) (by omega)] at h; omega)]
    decide
  unfold f_X11_mateS f_X11_currentWaysS
  rw [if_neg hway, if_neg hnode, r1, b9K, b9K, q1, b8K]
  rcases q3 with ⟨x1, x2⟩ | ⟨x1, X, g2, m2, b2, c2, k2, f2, s2, y1, y2, y3⟩
  · rw [x1, if_pos rfl]
    exact ⟨_, _, _, _, _, _, _, _, _, _, _, _, _, _, _, rfl, ⟨hRI, fun _ => ⟨n, e, rfl, r2, q2⟩⟩, Or.inr ⟨x2, rfl⟩⟩
  · have hX := y1.1.1
    rw [x1, if_neg (by decide), y2, b8K, arcAt_eq hF hW hC.2.1 (fun i hi => ⟨(hC.2.2.1 i hi).1, (hC.2.2.1 i hi).2.1⟩) (X := X) (v := v) (by omega) (by omega), bS]
    exact ⟨_, _, _, _, _, _, _, _, _, _, _, _, _, _, _, rfl, ⟨hRI, fun _ => ⟨n, e, rfl, r2, y3⟩⟩, Or.inl ⟨X, y1, rfl⟩⟩
theorem coverS_eq {F : Nat} (hF : 100000 ≤ F) {G : Gr} (hW : Wf G) {nodes made : Int32} {one oth wts alv joined : Nat → Int32} (hC : CG G nodes made one oth wts alv joined) {age : Int32} {sl so se later laters : Nat → Int32} {ml am : Int32} (gain : Nat → Int32) (mark : Nat → Int64) (bg : Nat → Int32) (bm : Nat → Int64) {known found : Nat → Int32} {sets : Nat → Int64} {wage : Int32} (h : WaO G age sl so se later laters am known found sets wage) :
    ∃ a ml' am' sl' so' se' later' laters' g' m' bg' bm' known' found' sets', f_X11_coverS F nodes made age one oth wts alv joined sl so se later laters ml am gain mark bg bm known found sets wage = some (a, age, ml', am', sl', so', se', later', laters', g', m', bg', bm', known', found', sets') ∧ WaO G age sl' so' se' later' laters' am' known' found' sets' age ∧ SpC G (fun X => nI (cX X 60)) a := by
  obtain ⟨ml1, n, e, sl1, so1, se1, la1, ls1, kn1, r1, r2, r3⟩ := wref_eq hF hW hC (ml := ml) h
  obtain ⟨fd, g1, m1, b1, c1, k1, f1, s1, q1, q2, q3⟩ := ask4_eq hF hW hC r2 gain mark bg bm r3
  have hRI : ∃ e a b, RI sl1 so1 se1 0 e a b := by obtain ⟨⟨a, b, hR⟩, -⟩ := r2; exact ⟨e, a, b, RI.zero hR⟩
  rw [show nI 4 = (4 : Int32) from rfl] at q1 q3
  unfold f_X11_coverS f_X11_currentWaysS
  rw [r1, b9K, b9K, q1, b8K]
  rcases q3 with ⟨x1, x2⟩ | ⟨x1, X, g2, m2, b2, c2, k2, f2, s2, y1, y2, y3⟩
  · rw [x1, if_pos rfl]
    exact ⟨_, _, _, _, _, _, _, _, _, _, _, _, _, _, _, rfl, ⟨hRI, fun _ => ⟨n, e, rfl, r2, q2⟩⟩, Or.inr ⟨x2, rfl⟩⟩
  · rw [x1, if_neg (by decide), y2, b8K]
    exact ⟨_, _, _, _, _, _, _, _, _, _, _, _, _, _, _, rfl, ⟨hRI, fun _ => ⟨n, e, rfl, r2, y3⟩⟩, Or.inl ⟨X, y1, bc_X y1.1.1⟩⟩
theorem coverArcS_eq {F : Nat} (hF : 100000 ≤ F) {G : Gr} (hW : Wf G) {nodes made : Int32} {one oth wts alv joined : Nat → Int32} (hC : CG G nodes made one oth wts alv joined) {age : Int32} {sl so se later laters : Nat → Int32} {ml am : Int32} (gain : Nat → Int32) (mark : Nat → Int64) (bg : Nat → Int32) (bm : Nat → Int64) {known found : Nat → Int32} {sets : Nat → Int64} {wage : Int32} (h : WaO G age sl so se later laters am known found sets wage) (p : Int32) :
    ∃ a ml' am' sl' so' se' later' laters' g' m' bg' bm' known' found' sets', f_X11_coverArcS F p nodes made age one oth wts alv joined sl so se later laters ml am gain mark bg bm known found sets wage = some (a, age, ml', am', sl', so', se', later', laters', g', m', bg', bm', known', found', sets') ∧ WaO G age sl' so' se' later' laters' am' known' found' sets' age ∧ SpC G (fun X => plF X p (md G) 0 0) a := by
  obtain ⟨ml1, n, e, sl1, so1, se1, la1, ls1, kn1, r1, r2, r3⟩ := wref_eq hF hW hC (ml := ml) h
  obtain ⟨fd, g1, m1, b1, c1, k1, f1, s1, q1, q2, q3⟩ := ask4_eq hF hW hC r2 gain mark bg bm r3
  have hRI : ∃ e a b, RI sl1 so1 se1 0 e a b := by obtain ⟨⟨a, b, hR⟩, -⟩ := r2; exact ⟨e, a, b, RI.zero hR⟩
  rw [show nI 4 = (4 : Int32) from rfl] at q1 q3
  unfold f_X11_coverArcS f_X11_currentWaysS
  rw [r1, b9K, b9K, q1, b8K]
  rcases q3 with ⟨x1, x2⟩ | ⟨x1, X, g2, m2, b2, c2, k2, f2, s2, y1, y2, y3⟩
  · rw [x1, if_pos rfl]
    exact ⟨_, _, _, _, _, _, _, _, _, _, _, _, _, _, _, rfl, ⟨hRI, fun _ => ⟨n, e, rfl, r2, q2⟩⟩, Or.inr ⟨x2, rfl⟩⟩
  · rw [x1, if_neg (by decide), y2, b8K, arcInPlace_eq hF hW y1.1.1 (fun i hi hx => (y1.1.2.1 i hi hx).1) p, bS]
    exact ⟨_, _, _, _, _, _, _, _, _, _, _, _, _, _, _, rfl, ⟨hRI, fun _ => ⟨n, e, rfl, r2, y3⟩⟩, Or.inl ⟨X, y1, rfl⟩⟩
