/-! ===== the cover as a way of the class ===== -/
theorem foF_spec {mr : Nat → Nat} {S : Nat} : ∀ (k w acc : Nat), acc ≤ foF mr S k w acc ∧ (∀ x, w ≤ x → x < w + k → S.testBit x = false → mr x ≤ foF mr S k w acc) ∧ (foF mr S k w acc = acc ∨ ∃ x, w ≤ x ∧ x < w + k ∧ S.testBit x = false ∧ foF mr S k w acc = mr x) := by
  intro k
  induction k with
  | zero => intro w acc; exact ⟨Nat.le_refl _, fun x h1 h2 => by omega, Or.inl rfl⟩
  | succ k ih =>
    intro w acc
    unfold foF
    cases c : S.testBit w with
    | true =>
      rw [if_pos rfl]
      obtain ⟨h1, h2, h3⟩ := ih (w + 1) acc
      refine ⟨h1, fun x x1 x2 x3 => ?_, ?_⟩
      · by_cases d : x = w
        · subst d; rw [c] at x3; cases x3
        · exact h2 x (by omega) (by omega) x3
      · rcases h3 with h3 | ⟨x, x1, x2, x3⟩
        · exact Or.inl h3
        · exact Or.inr ⟨x, by omega, by omega, x3⟩
    | false =>
      rw [if_neg (by decide)]
      by_cases d : mr w < acc
      · rw [if_pos d]
        obtain ⟨h1, h2, h3⟩ := ih (w + 1) acc
        refine ⟨h1, fun x x1 x2 x3 => ?_, ?_⟩
        · by_cases e : x = w
          · subst e; omega
          · exact h2 x (by omega) (by omega) x3
        · rcases h3 with h3 | ⟨x, x1, x2, x3⟩
          · exact Or.inl h3
          · exact Or.inr ⟨x, by omega, by omega, x3⟩
      · rw [if_neg d]
        obtain ⟨h1, h2, h3⟩ := ih (w + 1) (mr w)
        refine ⟨by omega, fun x x1 x2 x3 => ?_, ?_⟩
        · by_cases e : x = w
          · subst e; omega
          · exact h2 x (by omega) (by omega) x3
        · rcases h3 with h3 | ⟨x, x1, x2, x3⟩
          · exact Or.inr ⟨w, Nat.le_refl _, by omega, c, h3⟩
          · exact Or.inr ⟨x, by omega, by omega, x3⟩
theorem cX_mono {X : Nat} : ∀ (k d : Nat), cX X k ≤ cX X (k + d) := by
  intro k d
  induction d with
  | zero => exact Nat.le_refl _
  | succ d ih => rw [← Nat.add_assoc, cX_s]; omega
theorem cX_zero {X : Nat} (h : cX X 60 = 0) : ∀ i, i < 60 → inX X i = false := by
  intro i hi
  cases c : inX X i with
  | false => rfl
  | true =>
    have h1 := cX_mono (X := X) (i + 1) (60 - (i + 1))
    rw [show i + 1 + (60 - (i + 1)) = 60 by omega, cX_s, if_pos c] at h1
    omega
theorem cX_0 : ∀ k, cX 0 k = 0 := by
  intro k
  induction k with
  | zero => rfl
  | succ k ih => rw [cX_s, ih]; unfold inX; rw [Nat.zero_testBit]; rfl
/-- living arcs that touch all nodes of s -/
def Cw (G : Gr) (s X : Nat) : Prop := X < 2 ^ 60 ∧ (∀ i, i < 60 → inX X i = true → i < md G ∧ al G i = true) ∧ ∀ v, s.testBit v = true → Cov G X v
def Cs (G : Gr) (s X : Nat) : Prop := ∀ i, i < 60 → inX X i = true → s.testBit (fr G i) = true ∨ s.testBit (tt G i) = true
theorem Cw_add {G : Gr} {t s m j : Nat} (h : Cw G t m) (hj : j < 60) (hj2 : j < md G) (ha : al G j = true) (hn : inX m j = false) (hs : ∀ v, s.testBit v = true → t.testBit v = true ∨ fr G j = v ∨ tt G j = v) : Cw G s (m + mkA j) := by
  refine ⟨?_, fun i hi hx => ?_, fun v hv => ?_⟩
  · have e := add_bit (X := m) (j := 59 - j) hn
    show m + 2 ^ (59 - j) < 2 ^ 60
    rw [e]
    exact Nat.or_lt_two_pow h.1 mkA_lt
  · rw [inX_add hj hn hi] at hx
    rcases Bool.or_eq_true _ _ |>.mp hx with c | c
    · exact h.2.1 i hi c
    · have c := of_decide_eq_true c
      subst c
      exact ⟨hj2, ha⟩
  · rw [Cov_add hj hn]
    rcases hs v hv with c | c
    · exact Or.inl (h.2.2 v c)
    · exact Or.inr c
/-- the table tells the first living arc between any two nodes -/
def Mk4 (G : Gr) (mk : Nat → Nat → Nat) : Prop := ∀ v u, v < 16 → u < 16 → ((∀ i, i < md G → al G i = true → ¬ Jn G i v u) ∧ mk v u = 0) ∨ ∃ j, j < md G ∧ al G j = true ∧ Jn G j v u ∧ mk v u = mkA j ∧ ∀ i, i < md G → al G i = true → Jn G i v u → mkA i ≤ mkA j
theorem mkA_pos (i : Nat) : 0 < mkA i := Nat.two_pow_pos _
theorem fo_arc {G : Gr} {mk : Nat → Nat → Nat} (hm : Mk4 G mk) {s v : Nat} (hv : v < 16) (h : 0 < fo (mk v) s) : ∃ j u, j < md G ∧ al G j = true ∧ Jn G j v u ∧ s.testBit u = false ∧ fo (mk v) s = mkA j := by
  obtain ⟨-, -, h3⟩ := foF_spec (mr := mk v) (S := s) 16 0 0
  rcases h3 with h3 | ⟨x, -, x2, x3, x4⟩
  · unfold fo at h; omega
  · rcases hm v x hv (by omega) with ⟨-, h5⟩ | ⟨j, j1, j2, j3, j4, -⟩
    · unfold fo at h; omega
    · exact ⟨j, x, j1, j2, j3, x3, by unfold fo; rw [x4, j4]⟩
theorem fo_ge {G : Gr} {mk : Nat → Nat → Nat} (hm : Mk4 G mk) {s v u i : Nat} (hv : v < 16) (hu : u < 16) (hi : i < md G) (ha : al G i = true) (hJ : Jn G i v u) (hs : s.testBit u = false) : mkA i ≤ fo (mk v) s := by
  obtain ⟨-, h2, -⟩ := foF_spec (mr := mk v) (S := s) 16 0 0
  have h3 := h2 u (Nat.zero_le _) (by omega) hs
  rcases hm v u hv hu with ⟨h5, -⟩ | ⟨j, j1, j2, j3, j4, j5⟩
  · exact absurd hJ (h5 i hi ha)
  · have := j5 i hi ha hJ
    unfold fo
    omega
theorem Fam2_sound {G : Gr} (hW : Wf G) {gn : Nat → Nat → Int} {mk : Nat → Nat → Nat} (hB : Best G (fun _ => -1) gn mk) (hm : Mk4 G mk) : ∀ (k s : Nat) (g : Int) (m : Nat), s < 65536 → FmR 2 gn mk (adj G) k s g m → Cw G s m ∧ Cs G s m ∧ g = -(cX m 60 : Int) := by
  have h60 := hW.2.1
  have hz : ∀ i, inX 0 i = false := fun i => by unfold inX; exact Nat.zero_testBit _
  have empty : Cw G 0 0 ∧ Cs G 0 0 ∧ (0 : Int) = -(cX 0 60 : Int) := by
    refine ⟨⟨by decide, fun i _ h => (by rw [hz] at h; cases h), fun v hv => by rw [Nat.zero_testBit] at hv; cases hv⟩, fun i _ h => (by rw [hz] at h; cases h), ?_⟩
    rw [cX_0]; rfl
  intro k
  induction k with
  | zero => rintro s g m hs ⟨rfl, rfl, rfl⟩; exact empty
  | succ k ih =>
    rintro s g m hs (⟨rfl, rfl, rfl⟩ | ⟨h0, h | h⟩)
    · exact empty
    · have hl := low_lt (k := 16) h0 hs
      rcases h with ⟨h1, -⟩ | ⟨-, h1, g', m', h2, rfl, rfl⟩
      · exact absurd h1 (by decide)
      · have hrl := rst_lt h0 hs
        obtain ⟨a1, a2, a3⟩ := ih (rst s) g' m' (by omega) h2
        obtain ⟨j, u, j1, j2, j3, j4, j5⟩ := fo_arc hm hl h1
        have hlow : (rst s).testBit (low 16 s) = false := by rw [rst_bit]; simp
        have hu : (rst s).testBit u = false := by rw [rst_bit, j4]; rfl
        have hnot : inX m' j = false := by
          cases hh : inX m' j with
          | false => rfl
          | true =>
            have := a2 j (by omega) hh
            rcases j3 with ⟨x, y⟩ | ⟨x, y⟩ <;> rw [x, y, hlow, hu] at this <;> rcases this with c | c <;> cases c
        rw [j5]
        refine ⟨Cw_add a1 (by omega) j1 j2 hnot (fun v hv => ?_), fun i hi hx => ?_, ?_⟩
        · by_cases c : low 16 s = v
          · right
            rcases j3 with ⟨x, y⟩ | ⟨x, y⟩ <;> omega
          · left; rw [rst_bit, hv]; simp [c]
        · rw [inX_add (by omega) hnot hi] at hx
          rcases Bool.or_eq_true _ _ |>.mp hx with c | c
          · rcases a2 i hi c with d | d
            · rw [rst_bit] at d; simp at d; exact Or.inl d.1
            · rw [rst_bit] at d; simp at d; exact Or.inr d.1
          · have c := of_decide_eq_true c
            subst c
            have := low_bit (k := 16) h0 hs
            rcases j3 with ⟨x, y⟩ | ⟨x, y⟩
            · left; rw [x]; exact this
            · right; rw [y]; exact this
        · rw [cX_add (by omega) hnot, a3]; omega
    · have hl := low_lt (k := 16) h0 hs
      obtain ⟨u, u1, u2, u3, u4, g', m', u5, rfl, rfl⟩ := CL_to hl h
      obtain ⟨j, j1, j2, j3, j4, j5, -⟩ := hB _ _ u3
      have hrl := rst_lt h0 hs
      have hle := dif_le (rst s) (2 ^ u)
      obtain ⟨a1, a2, a3⟩ := ih _ g' m' (by omega) u5
      have hlow : (dif (rst s) (2 ^ u)).testBit (low 16 s) = false := by rw [rst2_bit]; simp
      have hu : (dif (rst s) (2 ^ u)).testBit u = false := by rw [rst2_bit]; simp
      have hnot : inX m' j = false := by
        cases hh : inX m' j with
        | false => rfl
        | true =>
          have := a2 j (by omega) hh
          rcases j3 with ⟨x, y⟩ | ⟨x, y⟩ <;> rw [x, y, hlow, hu] at this <;> rcases this with c | c <;> cases c
      rw [j5, j4]
      refine ⟨Cw_add a1 (by omega) j1 j2 hnot (fun v hv => ?_), fun i hi hx => ?_, ?_⟩
      · by_cases c : low 16 s = v
        · right
          rcases j3 with ⟨x, y⟩ | ⟨x, y⟩ <;> omega
        · by_cases d : u = v
          · right
            rcases j3 with ⟨x, y⟩ | ⟨x, y⟩ <;> omega
          · left; rw [rst2_bit, hv]; simp [c, d]
      · rw [inX_add (by omega) hnot hi] at hx
        rcases Bool.or_eq_true _ _ |>.mp hx with c | c
        · rcases a2 i hi c with d | d
          · rw [rst2_bit] at d; simp at d; exact Or.inl d.1.1
          · rw [rst2_bit] at d; simp at d; exact Or.inr d.1.1
        · have c := of_decide_eq_true c
          subst c
          have := low_bit (k := 16) h0 hs
          rcases j3 with ⟨x, y⟩ | ⟨x, y⟩
          · left; rw [x]; exact this
          · right; rw [y]; exact this
      · rw [cX_add (by omega) hnot, a3]
        show -(cX m' 60 : Int) + -1 = _
        omega
theorem Cw_dif {G : Gr} {s t X i : Nat} (h : Cw G s X) (hi : i < 60) (ht : ∀ v, t.testBit v = true → s.testBit v = true ∧ fr G i ≠ v ∧ tt G i ≠ v) : Cw G t (dif X (mkA i)) := by
  refine ⟨Nat.lt_of_le_of_lt (dif_le _ _) h.1, fun l hl hx => ?_, fun v hv => ?_⟩
  · rw [inX_dif hi hl] at hx
    simp at hx
    exact h.2.1 l hl hx.1
  · obtain ⟨h1, h2, h3⟩ := ht v hv
    obtain ⟨l, l1, l2, l3⟩ := h.2.2 v h1
    refine ⟨l, l1, ?_, l3⟩
    rw [inX_dif hi l1, l2]
    have : ¬ l = i := by
      intro x
      subst x
      rcases l3 with z | z
      · exact h2 z
      · exact h3 z
    simp [this]
theorem cX_dif {X i : Nat} (hi : i < 60) (h : inX X i = true) : cX X 60 = cX (dif X (mkA i)) 60 + 1 := by
  have h1 : inX (dif X (mkA i)) i = false := by rw [inX_dif hi hi]; simp
  have h2 := cX_add hi h1
  have h3 : dif X (mkA i) + mkA i = X := dif_add h
  rw [h3] at h2
  exact h2
theorem Fam2_complete {G : Gr} (hW : Wf G) {gn : Nat → Nat → Int} {mk : Nat → Nat → Nat} (hB : Best G (fun _ => -1) gn mk) (hm : Mk4 G mk) : ∀ (c s X : Nat), s ≤ c → s < 65536 → Cw G s X → ∃ g m, Fam 2 gn mk (adj G) s g m ∧ (-(cX X 60 : Int) < g ∨ (-(cX X 60 : Int) = g ∧ X ≤ m)) := by
  have h60 := hW.2.1
  have h16 := hW.1
  have zero : ∀ X, X < 2 ^ 60 → ∃ g m, Fam 2 gn mk (adj G) 0 g m ∧ (-(cX X 60 : Int) < g ∨ (-(cX X 60 : Int) = g ∧ X ≤ m)) := by
    intro X hX
    refine ⟨0, 0, (Fam_0 _ _ _ _ _ _).mpr ⟨rfl, rfl⟩, ?_⟩
    by_cases d : cX X 60 = 0
    · right
      refine ⟨by rw [d]; rfl, Nat.le_of_eq (setX_ext hX (by decide) (fun i hi => ?_))⟩
      rw [cX_zero d i hi]; unfold inX; rw [Nat.zero_testBit]
    · left; omega
  intro c
  induction c with
  | zero =>
    intro s X hc hs hM
    have : s = 0 := by omega
    subst this
    exact zero X hM.1
  | succ c ih =>
    intro s X hc hs hM
    by_cases h0 : s = 0
    · subst h0; exact zero X hM.1
    · have h0 : 0 < s := by omega
      have hl := low_lt (k := 16) h0 hs
      have hrl := rst_lt h0 hs
      obtain ⟨i, i1, i2, i3⟩ := hM.2.2 _ (low_bit (k := 16) h0 hs)
      obtain ⟨b1, b2⟩ := hM.2.1 i i1 i2
      obtain ⟨w1, w2, w3, -⟩ := hW.2.2 i b1
      obtain ⟨u, hJ, hun⟩ : ∃ u, Jn G i (low 16 s) u ∧ u < nd G := by
        rcases i3 with x | x
        · exact ⟨tt G i, Or.inl ⟨x, rfl⟩, w2⟩
        · exact ⟨fr G i, Or.inr ⟨rfl, x⟩, w1⟩
      have hne : low 16 s ≠ u := by rcases hJ with ⟨x, y⟩ | ⟨x, y⟩ <;> omega
      have hadj : (adj G (low 16 s)).testBit u = true := (adj_bit hW _ _).mpr ⟨i, b1, b2, hJ⟩
      have hXe : dif X (mkA i) + mkA i = X := dif_add i2
      have hcx := cX_dif i1 i2
      cases hub : s.testBit u with
      | false =>
        have hC' : Cw G (rst s) (dif X (mkA i)) := Cw_dif hM i1 (fun v hv => by
          rw [rst_bit] at hv
          simp at hv
          have : v ≠ u := fun e => by rw [e, hub] at hv; cases hv.1
          refine ⟨hv.1, ?_, ?_⟩ <;> rcases hJ with ⟨x, y⟩ | ⟨x, y⟩ <;> omega)
        obtain ⟨g, m, f1, f2⟩ := ih (rst s) _ (by omega) (by omega) hC'
        have hge := fo_ge hm (s := s) hl (by omega) b1 b2 hJ hub
        have hp := mkA_pos i
        refine ⟨g + -1, m + fo (mk (low 16 s)) s, (Fam_s _ _ _ _ h0 _ _).mpr (Or.inl (Or.inr ⟨rfl, by omega, g, m, f1, rfl, rfl⟩)), ?_⟩
        rcases f2 with f2 | ⟨f2, f3⟩
        · left; omega
        · right; exact ⟨by omega, by omega⟩
      | true =>
        have hlu : low 16 s < u := by
          rcases Nat.lt_trichotomy u (low 16 s) with x | x | x
          · rw [low_min (k := 16) h0 hs x] at hub; cases hub
          · exact absurd x.symm hne
          · exact x
        have hru : (rst s).testBit u = true := by
          rw [rst_bit, hub]
          simp [hne]
        have hle := dif_le (rst s) (2 ^ u)
        have hC' : Cw G (dif (rst s) (2 ^ u)) (dif X (mkA i)) := Cw_dif hM i1 (fun v hv => by
          rw [rst2_bit] at hv
          simp at hv
          refine ⟨hv.1.1, ?_, ?_⟩ <;> rcases hJ with ⟨x, y⟩ | ⟨x, y⟩ <;> omega)
        obtain ⟨g, m, f1, f2⟩ := ih _ _ (by omega) (by omega) hC'
        obtain ⟨j, j1, j2, j3, j4, j5, j6⟩ := hB _ _ hadj
        refine ⟨g + gn (low 16 s) u, m + mk (low 16 s) u, (Fam_s _ _ _ _ h0 _ _).mpr (Or.inr (CL_of hl hlu (by omega) hadj hru ⟨g, m, f1, rfl, rfl⟩)), ?_⟩
        rw [j4, j5]
        have hji : j ≤ i := by
          rcases j6 i b1 b2 hJ with x | ⟨-, x⟩
          · exact absurd x (Int.lt_irrefl _)
          · exact x
        have := mkA_le hji
        rcases f2 with f2 | ⟨f2, f3⟩
        · left; show _ < g + -1; omega
        · right; exact ⟨by show _ = g + -1; omega, by omega⟩
/-- the cover: no other one surpasses it -/
def IsC (G : Gr) (X : Nat) : Prop := Cw G (allN G) X ∧ ∀ Y, Cw G (allN G) Y → cX X 60 < cX Y 60 ∨ (cX X 60 = cX Y 60 ∧ Y ≤ X)
def WC (G : Gr) (fd : Int32) (st : Int64) : Prop := (fd = 1 ∧ ∃ X, st = lN X ∧ IsC G X) ∨ (fd = 0 ∧ ∀ Y, ¬ Cw G (allN G) Y)
theorem OT_4 {G : Gr} {gain : Nat → Int32} {mark : Nat → Int64} (hO : OT G (fun i => vw 4 (wt G i)) (md G) gain mark) : Mk4 G (mkT mark) := by
  intro v u hv hu
  rcases hO v u hv hu with ⟨h1, -, h2⟩ | ⟨j, j1, j2, j3, -, j5, j6⟩
  · exact Or.inl ⟨h1, mkT_of (by decide) h2⟩
  · have hm : mkA j < 2 ^ 60 := mkA_lt
    refine Or.inr ⟨j, j1, j2, j3, mkT_of (by omega) j5, fun i hi ha hJ => mkA_le ?_⟩
    rcases j6 i hi ha hJ with x | ⟨-, x⟩
    · exact absurd x (Int.lt_irrefl _)
    · exact x
theorem learn4_eq {F : Nat} (hF : 100000 ≤ F) {G : Gr} (hW : Wf G) {nodes made : Int32} {one oth wts alv joined : Nat → Int32} (hC : CG G nodes made one oth wts alv joined) {n : Nat} {e : Nat → Nat} {sl so se later laters : Nat → Int32} (hT : Tab (allN G) 1 (adj G) n e sl so se later laters) (gain : Nat → Int32) (mark : Nat → Int64) (bg : Nat → Int32) (bm : Nat → Int64) (known found : Nat → Int32) (sets : Nat → Int64) (hk : known 4 = 0 ∨ (known 4 = 1 ∧ WC G (found 4) (sets 4))) :
    ∃ gain' mark' bg' bm' known' found' sets', f_X10_learn F (nI 4) made one oth wts alv sl so se later laters (nI n) gain mark bg bm known found sets = some (gain', mark', bg', bm', known', found', sets') ∧ known' 4 = 1 ∧ WC G (found' 4) (sets' 4) ∧ ∀ w, w ≠ 4 → known' w = known w ∧ found' w = found w ∧ sets' w = sets w := by
  unfold f_X10_learn
  rw [rd_nI (by omega) (by decide)]
  rcases hk with hk | ⟨hk, hr⟩
  · rw [hk, if_pos rfl, wr_nI (by omega) (by decide)]
    obtain ⟨g1, m1, o1, o2⟩ := offers_eq hF hW hC (way := 4) (by omega) gain mark
    have hm4 := OT_4 o2
    have hB : Best G (fun _ => -1) (gnT g1) (mkT m1) := OT_best hW o2
    obtain ⟨bg1, bm1, o, c1, c2, c3, c4, c5⟩ := choose_eq hF hT (Fb := Fam 2 (gnT g1) (mkT m1) (adj G)) (gn := gnT g1) (mk := mkT m1) (gain := g1) (mark := m1) (fun v u _ _ _ => rfl) (fun v u hv hu => OT_tab o2 hv hu) (lv := 2) (by decide) (fun _ => rfl) (fun g m => Fam_0 _ _ _ _ g m) (fun s _ h0 g m => Fam_s _ _ _ _ h0 g m) (fun s hs g m ⟨k, h⟩ => by
      obtain ⟨s1, -, s2⟩ := Fam2_sound hW hB hm4 k s g m hs.1 h
      have := cX_le m 60
      have := s1.1
      exact ⟨by omega, by omega, by omega⟩) bg bm
    rw [o1, b2S, show f_X10_leavingOf (nI 4) = nI 2 by decide, c1, b2S, c4, bS, wr_nI (by omega) (by decide), c5, bS, wr_nI (by omega) (by decide)]
    refine ⟨_, _, _, _, _, _, _, rfl, up_s _ _ _, ?_, fun w hne => ⟨up_n hne, up_n hne, up_n hne⟩⟩
    rw [up_s, up_s]
    cases o with
    | none =>
      right
      rw [if_pos rfl]
      refine ⟨by decide, fun Y hY => ?_⟩
      obtain ⟨g, m, f1, -⟩ := Fam2_complete hW hB hm4 (allN G) (allN G) Y (Nat.le_refl _) (allN_lt hW) hY
      exact c2 g m f1
    | some x =>
      left
      rw [if_neg (fun h => by cases h)]
      obtain ⟨x1, x2⟩ := x
      obtain ⟨⟨k, h1⟩, h2⟩ := c2
      obtain ⟨s1, -, s2⟩ := Fam2_sound hW hB hm4 k _ _ _ (allN_lt hW) h1
      refine ⟨by decide, x2, c3.2.2.2.1, s1, fun Y hY => ?_⟩
      obtain ⟨g', m', f1, f2⟩ := Fam2_complete hW hB hm4 (allN G) (allN G) Y (Nat.le_refl _) (allN_lt hW) hY
      have := h2 g' m' f1
      have e1 : ((x1, x2) : Int × Nat).1 = x1 := rfl
      have e2 : ((x1, x2) : Int × Nat).2 = x2 := rfl
      rw [e1, e2] at this s2
      omega
  · rw [hk, if_neg (by decide)]
    exact ⟨_, _, _, _, _, _, _, rfl, hk, hr, fun w _ => ⟨rfl, rfl, rfl⟩⟩
theorem exists4_eq {F : Nat} (hF : 100000 ≤ F) {G : Gr} (hW : Wf G) {nodes made : Int32} {one oth wts alv joined : Nat → Int32} (hC : CG G nodes made one oth wts alv joined) {n : Nat} {e : Nat → Nat} {sl so se later laters : Nat → Int32} (hT : Tab (allN G) 1 (adj G) n e sl so se later laters) (gain : Nat → Int32) (mark : Nat → Int64) (bg : Nat → Int32) (bm : Nat → Int64) (known found : Nat → Int32) (sets : Nat → Int64) (hk : known 4 = 0 ∨ (known 4 = 1 ∧ WC G (found 4) (sets 4))) :
    ∃ gain' mark' bg' bm' known' found' sets', f_X10_exists F (nI 4) made one oth wts alv sl so se later laters (nI n) gain mark bg bm known found sets = some (found' 4, gain', mark', bg', bm', known', found', sets') ∧ known' 4 = 1 ∧ WC G (found' 4) (sets' 4) ∧ ∀ w, w ≠ 4 → known' w = known w ∧ found' w = found w ∧ sets' w = sets w := by
  obtain ⟨g1, m1, b1, b2, k1, f1, s1, h1, h2, h3, h4⟩ := learn4_eq hF hW hC hT gain mark bg bm known found sets hk
  refine ⟨g1, m1, b1, b2, k1, f1, s1, ?_, h2, h3, h4⟩
  unfold f_X10_exists gd
  rw [h1, b7S, rd_nI (by omega) (by decide)]
  have : f1 4 &&& 1 = f1 4 := by
    rcases h3 with ⟨x, -⟩ | ⟨x, -⟩ <;> rw [x] <;> rfl
  rw [if_pos this]
theorem chosen4_eq {F : Nat} (hF : 100000 ≤ F) {G : Gr} (hW : Wf G) {nodes made : Int32} {one oth wts alv joined : Nat → Int32} (hC : CG G nodes made one oth wts alv joined) {n : Nat} {e : Nat → Nat} {sl so se later laters : Nat → Int32} (hT : Tab (allN G) 1 (adj G) n e sl so se later laters) (gain : Nat → Int32) (mark : Nat → Int64) (bg : Nat → Int32) (bm : Nat → Int64) (known found : Nat → Int32) (sets : Nat → Int64) (hk : known 4 = 0 ∨ (known 4 = 1 ∧ WC G (found 4) (sets 4))) :
    ∃ gain' mark' bg' bm' known' found' sets', f_X10_chosen F (nI 4) made one oth wts alv sl so se later laters (nI n) gain mark bg bm known found sets = some (sets' 4, gain', mark', bg', bm', known', found', sets') ∧ known' 4 = 1 ∧ WC G (found' 4) (sets' 4) ∧ ∀ w, w ≠ 4 → known' w = known w ∧ found' w = found w ∧ sets' w = sets w := by
  obtain ⟨g1, m1, b1, b2, k1, f1, s1, h1, h2, h3, h4⟩ := learn4_eq hF hW hC hT gain mark bg bm known found sets hk
  refine ⟨g1, m1, b1, b2, k1, f1, s1, ?_, h2, h3, h4⟩
  unfold f_X10_chosen
  rw [h1, b7S, rd_nI (by omega) (by decide)]
