/-! ===== the class's sorts, asked ===== -/
def Qs (G : Gr) (c L B : Nat) (cm cn : Nat → Nat) : Prop := c ≤ 8 ∧ L < 65536 ∧ BL G (Mt G (allN G)) (allN G) c L ∧ Bes G L B ∧ CM G (dif (allN G) B) cm ∧ CM G (allN G) cn
theorem spl_congr {W : Nat} {cm cm' : Nat → Nat} (h : ∀ a, W.testBit a = true → cm a = cm' a) : ∀ k, spl W cm k = spl W cm' k := by
  intro k
  induction k with
  | zero => rfl
  | succ k ih =>
    by_cases c : W.testBit k = true ∧ (spl W cm k).1.testBit k = false
    · have c' : W.testBit k = true ∧ (spl W cm' k).1.testBit k = false := by rw [← ih]; exact c
      rw [spl_new c.1 c.2, spl_new c'.1 c'.2, ih, h k c.1]
    · have c' : ¬ (W.testBit k = true ∧ (spl W cm' k).1.testBit k = false) := by rw [← ih]; exact c
      rw [spl_old c, spl_old c', ih]
theorem Flg_congr {G : Gr} {W : Nat} {cm cm' : Nat → Nat} (h : ∀ k, spl W cm k = spl W cm' k) (k : Nat) : Flg G W cm k ↔ Flg G W cm' k := by
  unfold Flg
  constructor
  · intro q v hv h1 h2; exact q v hv h1 (by rw [h v]; exact h2)
  · intro q v hv h1 h2; exact q v hv h1 (by rw [← h v]; exact h2)
theorem Qs_one {G : Gr} {c L B c' L' B' : Nat} {cm cn cm' cn' : Nat → Nat} (h : Qs G c L B cm cn) (h' : Qs G c' L' B' cm' cn') : c = c' ∧ L = L' ∧ B = B' ∧ spl (dif (allN G) B) cm (nd G) = spl (dif (allN G) B') cm' (nd G) ∧ spl (allN G) cn (nd G) = spl (allN G) cn' (nd G) ∧ (Flg G (allN G) cn (nd G) ↔ Flg G (allN G) cn' (nd G)) := by
  obtain ⟨-, -, b1, b2, b3, b4⟩ := h
  obtain ⟨-, -, d1, d2, d3, d4⟩ := h'
  have e1 : c = c' := Mx_one ⟨b1.1, b1.2.1⟩ ⟨d1.1, d1.2.1⟩
  subst e1
  have e2 : L = L' := Nat.eq_of_testBit_eq fun v => by rw [Bool.eq_iff_iff, b1.2.2, d1.2.2]
  subst e2
  have e3 : B = B' := Nat.eq_of_testBit_eq fun v => by rw [Bool.eq_iff_iff, b2, d2]
  subst e3
  have e4 := spl_congr (fun a ha => CP_one (b3.2 a ha) (d3.2 a ha))
  have e5 := spl_congr (fun a ha => CP_one (b4.2 a ha) (d4.2 a ha))
  exact ⟨rfl, rfl, rfl, e4 _, e5 _, Flg_congr e5 _⟩
def SrC (G : Gr) (lefts besides uncovered podd : Int32) (ppart : Nat → Int32) (wam wtwo : Int32) : Prop := ∃ c L B cm cn, Qs G c L B cm cn ∧ lefts = nI L ∧ besides = nI B ∧ uncovered = nI (nd G) - 2 * nI c ∧ podd = nI (spl (dif (allN G) B) cm (nd G)).2.2.2 ∧ (∀ u, (spl (dif (allN G) B) cm (nd G)).1.testBit u = true → ppart u = nI ((spl (dif (allN G) B) cm (nd G)).2.1 u)) ∧ wam = nI (spl (allN G) cn (nd G)).2.2.1 ∧ (Flg G (allN G) cn (nd G) → wtwo = 1) ∧ (¬ Flg G (allN G) cn (nd G) → wtwo = 0)
def SrO (G : Gr) (age lefts besides uncovered sage podd : Int32) (ppart : Nat → Int32) (wam wtwo : Int32) : Prop := sage = age → SrC G lefts besides uncovered podd ppart wam wtwo
theorem b13K {α1 α2 α3 α4 α5 α6 α7 α8 α9 α10 α11 α12 α13 β : Type} (a : α1) (b : α2) (c : α3) (d : α4) (e : α5) (f : α6) (g : α7) (h : α8) (i : α9) (j : α10) (l : α11) (m : α12) (o : α13) (k : α1 → α2 → α3 → α4 → α5 → α6 → α7 → α8 → α9 → α10 → α11 → α12 → α13 → Option β) : bd13 (some (a, b, c, d, e, f, g, h, i, j, l, m, o)) k = k a b c d e f g h i j l m o := rfl
theorem sref_eq {F : Nat} (hF : 100000 ≤ F) {G : Gr} (hW : Wf G) {joined : Nat → Int32} (hj : ∀ v, v < 16 → joined v = nI (adj G v)) {n : Nat} {e : Nat → Nat} {sl so se later laters : Nat → Int32} (hT : Tab (allN G) 1 (adj G) n e sl so se later laters) {age : Int32} (ppart : Nat → Int32) (pam podd ptwo : Int32) (wpart : Nat → Int32) (wam wodd wtwo : Int32) (sz : Nat → Int32) (lefts besides uncovered sage : Int32) (h : SrO G age lefts besides uncovered sage podd ppart wam wtwo) :
    ∃ lefts' besides' uncovered' pam' podd' ptwo' ppart' wam' wodd' wtwo' wpart' sz', f_X8_refresh F (nI (nd G)) age joined ppart pam podd ptwo wpart wam wodd wtwo sz lefts besides uncovered sage sl so se later laters (nI n) = some (lefts', besides', uncovered', age, pam', podd', ptwo', ppart', wam', wodd', wtwo', wpart', sz') ∧ SrC G lefts' besides' uncovered' podd' ppart' wam' wtwo' := by
  unfold f_X8_refresh
  by_cases c : sage = age
  · rw [if_pos c, c]
    exact ⟨_, _, _, _, _, _, _, _, _, _, _, _, rfl, h c⟩
  · rw [if_neg c]
    obtain ⟨c0, L, sz', a1, a2, a3, a4⟩ := findLefts_eq hF hW hT sz
    obtain ⟨B, b1, b2⟩ := findBesides_eq hF hW hj a3
    have hWa : ∀ v, (allN G).testBit v = true → v < nd G := fun v h => by rw [allN_bit] at h; exact of_decide_eq_true h
    obtain ⟨cm, hcm⟩ := CM_ex hF hW (W := dif (allN G) B) (fun v h => hWa v (by rw [dif_bit, Bool.and_eq_true] at h; exact h.1))
    obtain ⟨cn, hcn⟩ := CM_ex hF hW (W := allN G) hWa
    obtain ⟨f1, p1, q1, q2, -, -⟩ := split_eq hF hW hj hcm ppart
    obtain ⟨f2, p2, r1, r2, r3, r4⟩ := split_eq hF hW hj hcn wpart
    rw [a1, b3S, b1, bS, allNodes_eq hW, nI_dif, q1, b4S, r1, b4S]
    exact ⟨_, _, _, _, _, _, _, _, _, _, _, _, rfl, c0, L, B, cm, cn, ⟨a2, a3, a4, b2, hcm, hcn⟩, rfl, rfl, rfl, rfl, q2, rfl, r3, r4⟩
theorem csorts_eq {F : Nat} (hF : 100000 ≤ F) {G : Gr} (hW : Wf G) {nodes made : Int32} {one oth wts alv joined : Nat → Int32} (hC : CG G nodes made one oth wts alv joined) {age : Int32} {sl so se later laters : Nat → Int32} {ml am : Int32} {known found : Nat → Int32} {sets : Nat → Int64} {wage : Int32} (h : WaO G age sl so se later laters am known found sets wage) (ppart : Nat → Int32) (pam podd ptwo : Int32) (wpart : Nat → Int32) (wam wodd wtwo : Int32) (sz : Nat → Int32) (lefts besides uncovered sage : Int32) (hs : SrO G age lefts besides uncovered sage podd ppart wam wtwo) :
    ∃ ml' am' sl' so' se' later' laters' known' lefts' besides' uncovered' pam' podd' ptwo' ppart' wam' wodd' wtwo' wpart' sz', f_X11_currentSortsSS F nodes age joined sl so se later laters ml am known wage ppart pam podd ptwo wpart wam wodd wtwo sz lefts besides uncovered sage = some (age, ml', am', sl', so', se', later', laters', known', lefts', besides', uncovered', age, pam', podd', ptwo', ppart', wam', wodd', wtwo', wpart', sz') ∧ WaO G age sl' so' se' later' laters' am' known' found sets age ∧ SrC G lefts' besides' uncovered' podd' ppart' wam' wtwo' := by
  obtain ⟨ml1, n, e, sl1, so1, se1, la1, ls1, kn1, r1, r2, r3⟩ := wref_eq hF hW hC (ml := ml) h
  have hRI : ∃ e a b, RI sl1 so1 se1 0 e a b := by obtain ⟨⟨a, b, hR⟩, -⟩ := r2; exact ⟨e, a, b, RI.zero hR⟩
  obtain ⟨l', b', u', pa, po, pt, pp, wa, wo, wt', wp, sz', q1, q2⟩ := sref_eq hF hW hC.2.2.2 r2 ppart pam podd ptwo wpart wam wodd wtwo sz lefts besides uncovered sage hs
  have hnod := hC.1
  subst hnod
  unfold f_X11_currentSortsSS f_X11_currentWaysS
  rw [r1, b9K, b9K, q1, b13K]
  exact ⟨_, _, _, _, _, _, _, _, _, _, _, _, _, _, _, _, _, _, _, _, rfl, ⟨hRI, fun _ => ⟨n, e, rfl, r2, r3⟩⟩, q2⟩
/-- an answer that is told of sorts, pieces and parts -/
def SpS (G : Gr) (R : Nat → Nat → Nat → Nat × (Nat → Nat) × Nat × Nat → Nat × (Nat → Nat) × Nat × Nat → Prop → Int32 → Prop) (a : Int32) : Prop := ∃ c L B cm cn, Qs G c L B cm cn ∧ R c L B (spl (dif (allN G) B) cm (nd G)) (spl (allN G) cn (nd G)) (Flg G (allN G) cn (nd G)) a
theorem SpS_one {G : Gr} {R : Nat → Nat → Nat → Nat × (Nat → Nat) × Nat × Nat → Nat × (Nat → Nat) × Nat × Nat → Prop → Int32 → Prop} (hR : ∀ c L B s t P a b, R c L B s t P a → R c L B s t P b → a = b) {a b : Int32} (h : SpS G R a) (h' : SpS G R b) : a = b := by
  obtain ⟨c, L, B, cm, cn, h1, h2⟩ := h
  obtain ⟨c', L', B', cm', cn', k1, k2⟩ := h'
  obtain ⟨e1, e2, e3, e4, e5, e6⟩ := Qs_one h1 k1
  rw [← e4, ← e5, ← propext e6, ← e1, ← e2, ← e3] at k2
  exact hR _ _ _ _ _ _ _ _ h2 k2
/-- the rules of the five shapes, the sort and the piece -/
def rS (v : Nat) : Nat → Nat → Nat → Nat × (Nat → Nat) × Nat × Nat → Nat × (Nat → Nat) × Nat × Nat → Prop → Int32 → Prop := fun _ L B _ _ _ a => a = srt L B v
def rP (v : Nat) : Nat → Nat → Nat → Nat × (Nat → Nat) × Nat × Nat → Nat × (Nat → Nat) × Nat × Nat → Prop → Int32 → Prop := fun _ L B s _ _ a => a = if srt L B v = 1 then -3 else nI (s.2.1 v)
def rH (G : Gr) (w : Nat) : Nat → Nat → Nat → Nat × (Nat → Nat) × Nat × Nat → Nat × (Nat → Nat) × Nat × Nat → Prop → Int32 → Prop := fun c _ B s t P a => (w = 0 ∧ a = nI (pcF (nd G) B)) ∨ (w = 1 ∧ a = nI s.2.2.2) ∨ (w = 2 ∧ a = nI (nd G) - 2 * nI c) ∨ (w = 3 ∧ ((P ∧ a = 1) ∨ (¬ P ∧ a = 0))) ∨ (w = 4 ∧ a = nI t.2.2.1)
theorem rS_f (v : Nat) : ∀ c L B s t P a b, rS v c L B s t P a → rS v c L B s t P b → a = b := fun _ _ _ _ _ _ _ _ h h' => by unfold rS at h h'; rw [h, h']
theorem rP_f (v : Nat) : ∀ c L B s t P a b, rP v c L B s t P a → rP v c L B s t P b → a = b := fun _ _ _ _ _ _ _ _ h h' => by unfold rP at h h'; rw [h, h']
theorem rH_f (G : Gr) (w : Nat) : ∀ c L B s t P a b, rH G w c L B s t P a → rH G w c L B s t P b → a = b := by
  intro c L B s t P a b h h'
  rcases h with ⟨h1, h2⟩ | ⟨h1, h2⟩ | ⟨h1, h2⟩ | ⟨h1, h2⟩ | ⟨h1, h2⟩ <;> rcases h' with ⟨k1, k2⟩ | ⟨k1, k2⟩ | ⟨k1, k2⟩ | ⟨k1, k2⟩ | ⟨k1, k2⟩ <;> first | omega | skip
  · rw [h2, k2]
  · rw [h2, k2]
  · rw [h2, k2]
  · rcases h2 with ⟨x, y⟩ | ⟨x, y⟩ <;> rcases k2 with ⟨z, w⟩ | ⟨z, w⟩
    · rw [y, w]
    · exact absurd x z
    · exact absurd z x
    · rw [y, w]
  · rw [h2, k2]
theorem isNode_v {G : Gr} (hW : Wf G) {v : Nat} (hv : v < nd G) : ¬ f_X2_isNode (nI v) (nI (nd G)) = 0 := by
  have hn := hW.1
  unfold f_X2_isNode
  rw [if_neg (nI_pos (by omega)), if_neg (fun h => by rw [nI_leI (by omega) (by omega)] at h; omega)]
  decide
/-! the reference's answers -/
theorem SoK_sp {G : Gr} {pieceCount parts halves : Int32} {sorts pieces : Nat → Int32} (h : SoK G pieceCount parts halves sorts pieces) : ∃ c L B cm cn, Qs G c L B cm cn ∧ pieceCount = nI (spl (dif (allN G) B) cm (nd G)).2.2.1 ∧ parts = nI (spl (allN G) cn (nd G)).2.2.1 ∧ (∀ v, v < nd G → sorts v = srt L B v) ∧ PcI G (dif (allN G) B) cm (nd G) pieces ∧ (Flg G (allN G) cn (nd G) → halves = 1) ∧ (¬ Flg G (allN G) cn (nd G) → halves = 0) := by
  obtain ⟨c, L, B, cm, cn, h1, h2, h3, h4, h5, h6, h7⟩ := h
  exact ⟨c, L, B, cm, cn, ⟨h1, h2, h3, h4, h5, h6⟩, h7⟩
theorem mpiece_sp {G : Gr} (hW : Wf G) {pieceCount parts halves : Int32} {sorts pieces : Nat → Int32} (h : SoK G pieceCount parts halves sorts pieces) {v : Nat} (hv : v < nd G) : SpS G (rS v) (sorts v) ∧ SpS G (rP v) (if sorts v = 1 then -3 else pieces v) := by
  obtain ⟨c, L, B, cm, cn, hQ, -, -, h3, h4, -, -⟩ := SoK_sp h
  refine ⟨⟨c, L, B, cm, cn, hQ, h3 v hv⟩, c, L, B, cm, cn, hQ, ?_⟩
  show _ = if srt L B v = 1 then -3 else nI ((spl (dif (allN G) B) cm (nd G)).2.1 v)
  rw [h3 v hv]
  by_cases q : srt L B v = 1
  · rw [if_pos q, if_pos q]
  · rw [if_neg q, if_neg q, h4 v hv, if_pos]
    obtain ⟨-, -, -, hB, hcm, -⟩ := hQ
    refine spl_all hcm (nd G) v hv ?_
    rw [dif_bit, allN_bit, decide_eq_true hv]
    cases x : B.testBit v with
    | false => rfl
    | true => exact absurd ((srt1 (fun y => ((hB v).mp y).2.1)).mpr x) q
/-! the class's calls on sorts -/
theorem csort_sp {G : Gr} (hW : Wf G) {lefts besides uncovered podd : Int32} {ppart : Nat → Int32} {wam wtwo : Int32} (h : SrC G lefts besides uncovered podd ppart wam wtwo) {v : Nat} (hv : v < nd G) : SpS G (rS v) (f_X8_sortOf (nI v) lefts besides) ∧ SpS G (rP v) (if f_X8_sortOf (nI v) lefts besides = 1 then -3 else ppart v) := by
  have hn := hW.1
  obtain ⟨c, L, B, cm, cn, hQ, rfl, rfl, -, -, h5, -⟩ := h
  have hs := sortOf_eq (v := v) hQ.2.1 (Bes_lt hW hQ.2.2.2.1) (by omega)
  rw [hs]
  refine ⟨⟨c, L, B, cm, cn, hQ, rfl⟩, c, L, B, cm, cn, hQ, ?_⟩
  show _ = if srt L B v = 1 then -3 else nI ((spl (dif (allN G) B) cm (nd G)).2.1 v)
  by_cases q : srt L B v = 1
  · rw [if_pos q, if_pos q]
  · rw [if_neg q, if_neg q]
    obtain ⟨-, -, -, hB, hcm, -⟩ := hQ
    refine h5 v (spl_all hcm (nd G) v hv ?_)
    rw [dif_bit, allN_bit, decide_eq_true hv]
    cases x : B.testBit v with
    | false => rfl
    | true => exact absurd ((srt1 (fun y => ((hB v).mp y).2.1)).mpr x) q
theorem cshape_sp {G : Gr} (hW : Wf G) {lefts besides uncovered podd : Int32} {ppart : Nat → Int32} {wam wtwo : Int32} (h : SrC G lefts besides uncovered podd ppart wam wtwo) : SpS G (rH G 0) (f_J6_bitCount_0f7a4 besides) ∧ SpS G (rH G 1) podd ∧ SpS G (rH G 2) uncovered ∧ SpS G (rH G 3) (if wtwo = 0 then 0 else 1) ∧ SpS G (rH G 4) wam := by
  have hn := hW.1
  obtain ⟨c, L, B, cm, cn, hQ, rfl, rfl, h3, h4, -, h6, h7, h8⟩ := h
  have hB := Bes_lt hW hQ.2.2.2.1
  have hpc : pcF 16 B = pcF (nd G) B := by
    have := pcF_top (x := B) (n := nd G) (fun i hi => by
      cases x : B.testBit i with
      | false => rfl
      | true => have := ((hQ.2.2.2.1 i).mp x).1; omega) (16 - nd G)
    rw [show nd G + (16 - nd G) = 16 by omega] at this
    exact this
  refine ⟨⟨c, L, B, cm, cn, hQ, Or.inl ⟨rfl, by rw [bc_nI (by omega), pcF_32 hB, hpc]⟩⟩, ⟨c, L, B, cm, cn, hQ, Or.inr (Or.inl ⟨rfl, h4⟩)⟩, ⟨c, L, B, cm, cn, hQ, Or.inr (Or.inr (Or.inl ⟨rfl, h3⟩))⟩, ⟨c, L, B, cm, cn, hQ, Or.inr (Or.inr (Or.inr (Or.inl ⟨rfl, ?_⟩)))⟩, ⟨c, L, B, cm, cn, hQ, Or.inr (Or.inr (Or.inr (Or.inr ⟨rfl, h6⟩)))⟩⟩
  by_cases q : Flg G (allN G) cn (nd G)
  · left; rw [h7 q]; exact ⟨q, rfl⟩
  · right; rw [h8 q]; exact ⟨q, rfl⟩
