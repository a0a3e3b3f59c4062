/-! ===== the two values of a way part the sets of pairs alike ===== -/
theorem sumX_lin {G : Gr} {X : Nat} {val : Nat → Int} {a b : Int} (h : ∀ i, val i = a * (wt G i : Int) + b) : ∀ k, sumX val X k = a * (wX G X k : Int) + b * (cX X k : Int) := by
  intro k
  induction k with
  | zero => show (0 : Int) = a * ((0 : Nat) : Int) + b * ((0 : Nat) : Int); simp
  | succ k ih =>
    unfold sumX
    rw [ih, wX_s, cX_s]
    by_cases c : inX X k = true
    · rw [if_pos c, if_pos c, if_pos c, h k, Int.natCast_add, Int.natCast_add, Int.mul_add, Int.mul_add]
      show _ = _ + _ + (_ + b * 1)
      omega
    · rw [if_neg c, if_neg c, if_neg c]; simp
/-- the nodes of the first k arcs of a set -/
def ndX (G : Gr) (X : Nat) : Nat → Nat
  | 0 => 0
  | k + 1 => if inX X k = true then ndX G X k ||| (2 ^ fr G k ||| 2 ^ tt G k) else ndX G X k
theorem ndX_s (G : Gr) (X k : Nat) : ndX G X (k + 1) = if inX X k = true then ndX G X k ||| (2 ^ fr G k ||| 2 ^ tt G k) else ndX G X k := rfl
theorem ndX_bit {G : Gr} {X v : Nat} : ∀ k, (ndX G X k).testBit v = true ↔ ∃ i, i < k ∧ inX X i = true ∧ (fr G i = v ∨ tt G i = v) := by
  intro k
  induction k with
  | zero => show (0 : Nat).testBit v = true ↔ _; rw [Nat.zero_testBit]; simp
  | succ k ih =>
    rw [ndX_s]
    by_cases c : inX X k = true
    · rw [if_pos c, Nat.testBit_or, Nat.testBit_or, Nat.testBit_two_pow, Nat.testBit_two_pow, Bool.or_eq_true, Bool.or_eq_true, ih, decide_eq_true_eq, decide_eq_true_eq]
      constructor
      · rintro (⟨i, h1, h2⟩ | h)
        · exact ⟨i, by omega, h2⟩
        · exact ⟨k, by omega, c, h⟩
      · rintro ⟨i, h1, h2, h3⟩
        by_cases d : i = k
        · subst d; exact Or.inr h3
        · exact Or.inl ⟨i, by omega, h2, h3⟩
    · rw [if_neg c, ih]
      constructor
      · rintro ⟨i, h1, h2⟩; exact ⟨i, by omega, h2⟩
      · rintro ⟨i, h1, h2, h3⟩
        by_cases d : i = k
        · subst d; exact absurd h2 c
        · exact ⟨i, by omega, h2, h3⟩
theorem pcF_or {k s j : Nat} (hj : j < k) (h : s.testBit j = false) : pcF k (s ||| 2 ^ j) = pcF k s + 1 := by
  have h1 : (s ||| 2 ^ j).testBit j = true := by rw [Nat.testBit_or, Nat.testBit_two_pow_self]; simp
  have h2 := pcF_dif k (s ||| 2 ^ j) j hj h1
  have h3 : dif (s ||| 2 ^ j) (2 ^ j) = s := by
    apply Nat.eq_of_testBit_eq
    intro i
    rw [dif_bit, Nat.testBit_or, Nat.testBit_two_pow]
    by_cases c : j = i
    · subst c; simp [h]
    · simp [c]
  rw [h3] at h2
  exact h2.symm
theorem ndX_pc {G : Gr} (hW : Wf G) {S X : Nat} (hM : Mt G S X) : ∀ k, k ≤ 60 → pcF 16 (ndX G X k) = 2 * cX X k := by
  intro k
  induction k with
  | zero => intro _; show pcF 16 0 = 0; decide
  | succ k ih =>
    intro hk
    rw [ndX_s, cX_s]
    by_cases c : inX X k = true
    · rw [if_pos c, if_pos c]
      obtain ⟨b1, b2, b3, b4⟩ := hM.2.1 k (by omega) c
      obtain ⟨w1, w2, w3, -⟩ := hW.2.2 k b1
      have := hW.1
      have n1 : (ndX G X k).testBit (fr G k) = false := by
        cases h : (ndX G X k).testBit (fr G k) with
        | false => rfl
        | true =>
          obtain ⟨i, i1, i2, i3⟩ := (ndX_bit k).mp h
          obtain ⟨d1, d2, d3, d4⟩ := hM.2.2 i k (by omega) (by omega) i2 c (by omega)
          rcases i3 with x | x
          · exact absurd x d1
          · exact absurd x d3
      have n2 : (ndX G X k ||| 2 ^ fr G k).testBit (tt G k) = false := by
        rw [Nat.testBit_or, Nat.testBit_two_pow]
        cases h : (ndX G X k).testBit (tt G k) with
        | false => simp [w3]
        | true =>
          obtain ⟨i, i1, i2, i3⟩ := (ndX_bit k).mp h
          obtain ⟨d1, d2, d3, d4⟩ := hM.2.2 i k (by omega) (by omega) i2 c (by omega)
          rcases i3 with x | x
          · exact absurd x d2
          · exact absurd x d4
      rw [← Nat.or_assoc, pcF_or (by omega) n2, pcF_or (by omega) n1, ih (by omega)]
      omega
    · rw [if_neg c, if_neg c, ih (by omega)]; omega
theorem mt_c8 {G : Gr} (hW : Wf G) {S X : Nat} (hM : Mt G S X) : cX X 60 ≤ 8 := by
  have h := ndX_pc hW hM 60 (Nat.le_refl _)
  have := pcF_le 16 (ndX G X 60)
  omega
theorem vwm {way w : Nat} (h : way < 4) (h1 : way ≠ 1) : vm way w = vw way w := by
  unfold vm vw
  have : way = 0 ∨ way = 2 ∨ way = 3 := by omega
  rcases this with rfl | rfl | rfl <;> rfl
theorem vm1 {G : Gr} (X : Nat) : sumX (fun i => vm 1 (wt G i)) X 60 = 100 * (wX G X 60 : Int) + (-1) * (cX X 60 : Int) := sumX_lin (fun i => by show (wt G i : Int) * 100 - 1 = _; omega) 60
theorem vw1 {G : Gr} (X : Nat) : sumX (fun i => vw 1 (wt G i)) X 60 = 16 * (wX G X 60 : Int) + (-1) * (cX X 60 : Int) := sumX_lin (fun i => by show (wt G i : Int) * 16 - 1 = _; omega) 60
theorem isWV {G : Gr} (hW : Wf G) {way : Nat} (h : way < 4) (X : Nat) : IsW G way X ↔ IsV G way X := by
  by_cases h1 : way = 1
  · subst h1
    unfold IsW IsV
    constructor
    · rintro ⟨a, b, c⟩
      refine ⟨a, b, fun Y hY hP => ?_⟩
      have x := c Y hY hP
      have y1 := mt_c8 hW a
      have y2 := mt_c8 hW hY
      rw [vm1, vm1]
      rw [vw1, vw1] at x
      omega
    · rintro ⟨a, b, c⟩
      refine ⟨a, b, fun Y hY hP => ?_⟩
      have x := c Y hY hP
      have y1 := mt_c8 hW a
      have y2 := mt_c8 hW hY
      rw [vw1, vw1]
      rw [vm1, vm1] at x
      omega
  · have e : (fun i => vm way (wt G i)) = (fun i => vw way (wt G i)) := funext (fun i => vwm h h1)
    unfold IsW IsV
    rw [e]
theorem isW_one {G : Gr} {way X Y : Nat} (hX : IsW G way X) (hY : IsW G way Y) : X = Y := by
  have a := hX.2.2 Y hY.1 hY.2.1
  have b := hY.2.2 X hX.1 hX.2.1
  omega
/-! the class's size, weight and arc of a set -/
theorem pcF_cX : ∀ (j X : Nat), j ≤ 60 → cX X 60 = cX X (60 - j) + pcF j X := by
  intro j
  induction j with
  | zero => intro X _; rfl
  | succ j ih =>
    intro X hj
    have h1 := ih X (by omega)
    have h2 : pcF (j + 1) X = pcF j X + (if inX X (60 - (j + 1)) = true then 1 else 0) := by
      rw [pcF_add j 1 X]
      show _ + (X / 2 ^ j % 2 + 0) = _
      unfold inX
      rw [show 59 - (60 - (j + 1)) = j by omega, bit_dm]
      by_cases c : X / 2 ^ j % 2 = 1
      · rw [c]; simp
      · have : X / 2 ^ j % 2 = 0 := by omega
        rw [this]; simp
    have h3 : cX X (60 - j) = cX X (60 - (j + 1)) + (if inX X (60 - (j + 1)) = true then 1 else 0) := by
      rw [show 60 - j = (60 - (j + 1)) + 1 by omega, cX_s]
    omega
theorem pc64_60 {X : Nat} (hX : X < 2 ^ 60) : pcF (60 + 4) X = cX X 60 := by
  rw [pcF_add, Nat.div_eq_of_lt hX, pcF_cX 60 X (Nat.le_refl _), Nat.sub_self]
  have h3 : pcF 4 0 = 0 := by decide
  have h4 : cX X 0 = 0 := rfl
  rw [h3, h4]
  omega
theorem bc_X {X : Nat} (hX : X < 2 ^ 60) : f_J13_bitCount_95d88 (lN X) = nI (cX X 60) := by
  rw [bc_lN (Nat.lt_trans hX (by decide)), show (64 : Nat) = 60 + 4 from rfl, pc64_60 hX]
theorem cX_md {G : Gr} {X : Nat} (h60 : md G ≤ 60) (h : ∀ i, i < 60 → inX X i = true → i < md G) : ∀ j, md G + j ≤ 60 → cX X (md G + j) = cX X (md G) ∧ wX G X (md G + j) = wX G X (md G) := by
  intro j
  induction j with
  | zero => intro _; exact ⟨rfl, rfl⟩
  | succ j ih =>
    intro hj
    have hn : ¬ inX X (md G + j) = true := fun x => by have := h (md G + j) (by omega) x; omega
    rw [show md G + (j + 1) = (md G + j) + 1 from rfl, cX_s, wX_s, if_neg hn, if_neg hn]
    exact ih (by omega)
theorem lgc0 {X i : Nat} (hX : X < 2 ^ 62) (hi : i < 60) : lg_cmp (lN X &&& f_X11_markOf (nI i)) (0 : Int64) = 0 ↔ inX X i = false := by
  rw [← inX_mark hX hi, markOf_nI hi, wb_and (Nat.lt_trans hX (by decide)) (Nat.lt_trans mkA_lt (by decide)), show (0 : Int64) = lN 0 from rfl, cmp_eq (Nat.lt_of_le_of_lt Nat.and_le_left (Nat.lt_trans hX (by decide))) (by decide), lN_lt63 (Nat.lt_of_le_of_lt Nat.and_le_left (Nat.lt_trans hX (by decide))) (by decide)]
theorem weightOf_L {G : Gr} (hW : Wf G) {made : Int32} {wts : Nat → Int32} (hm : made = nI (md G)) (hw : ∀ i, i < md G → wts i = nI (wt G i)) {X : Nat} (hX : X < 2 ^ 62) {kk : Int32 → Option Int32} : ∀ (k m i : Nat), i + k = md G → k < m → f_X2_weightOf_L5 made wts (lN X) kk m (nI (wX G X i)) (nI i) = kk (nI (wX G X (md G))) := by
  have h60 := hW.2.1
  intro k
  induction k with
  | zero =>
    intro m i e hmm
    obtain ⟨m, rfl⟩ : ∃ k, m = k + 1 := ⟨m - 1, by omega⟩
    have : i = md G := by omega
    subst this
    unfold f_X2_weightOf_L5
    rw [hm, if_pos ((nI_leI (by omega) (by omega)).mpr (Nat.le_refl _))]
  | succ k ih =>
    intro m i e hmm
    obtain ⟨m, rfl⟩ : ∃ k, m = k + 1 := ⟨m - 1, by omega⟩
    unfold f_X2_weightOf_L5
    rw [hm, if_neg (fun h => by rw [nI_leI (by omega) (by omega)] at h; omega)]
    by_cases c : inX X i = true
    · have hc : ¬ lg_cmp (lN X &&& f_X11_markOf (nI i)) (0 : Int64) = 0 := fun h => by rw [lgc0 hX (by omega)] at h; rw [c] at h; cases h
      rw [if_neg hc, rd_nI (by omega) (by decide), hw i (by omega), nI_1, nI_add]
      have := ih m (i + 1) (by omega) (by omega)
      rw [wX_s, if_pos c, hm] at this
      exact this
    · have hc : lg_cmp (lN X &&& f_X11_markOf (nI i)) (0 : Int64) = 0 := (lgc0 hX (by omega)).mpr (by simpa using c)
      rw [if_pos hc, nI_1]
      have := ih m (i + 1) (by omega) (by omega)
      rw [wX_s, if_neg c, Nat.add_zero, hm] at this
      exact this
theorem weightOf_eq {F : Nat} (hF : 100000 ≤ F) {G : Gr} (hW : Wf G) {made : Int32} {wts : Nat → Int32} (hm : made = nI (md G)) (hw : ∀ i, i < md G → wts i = nI (wt G i)) {X : Nat} (hX : X < 2 ^ 62) : f_X2_weightOf F (lN X) made wts = some (nI (wX G X (md G))) := by
  have h60 := hW.2.1
  unfold f_X2_weightOf
  simp only [jn]
  exact weightOf_L hW hm hw hX (md G) F 0 (by omega) (by omega)
/-- the first arc of X below k at v, or none -/
def arcF (G : Gr) (X v : Nat) : Nat → Nat → Int32
  | 0, _ => -3
  | k + 1, i => if inX X i = true ∧ (fr G i = v ∨ tt G i = v) then nI i else arcF G X v k (i + 1)
theorem arcAt_L {G : Gr} (hW : Wf G) {made : Int32} {one oth : Nat → Int32} (hm : made = nI (md G)) (hw : ∀ i, i < md G → one i = nI (fr G i) ∧ oth i = nI (tt G i)) {X v : Nat} (hX : X < 2 ^ 62) (hv : v < 16) : ∀ (k m i : Nat), i + k = md G → k < m → f_X2_arcAt_L3 made one oth (lN X) (nI v) (some (-3)) m (nI i) = some (arcF G X v k i) := by
  have h60 := hW.2.1
  intro k
  induction k with
  | zero =>
    intro m i e hmm
    obtain ⟨m, rfl⟩ : ∃ k, m = k + 1 := ⟨m - 1, by omega⟩
    have : i = md G := by omega
    subst this
    unfold f_X2_arcAt_L3
    rw [hm, if_pos ((nI_leI (by omega) (by omega)).mpr (Nat.le_refl _))]
    rfl
  | succ k ih =>
    intro m i e hmm
    obtain ⟨m, rfl⟩ : ∃ k, m = k + 1 := ⟨m - 1, by omega⟩
    obtain ⟨w1, w2, -, -⟩ := hW.2.2 i (by omega)
    have := hW.1
    have ih2 := ih m (i + 1) (by omega) (by omega)
    rw [hm] at ih2
    unfold f_X2_arcAt_L3 arcF
    rw [hm, if_neg (fun h => by rw [nI_leI (by omega) (by omega)] at h; omega)]
    by_cases c : inX X i = true
    · have hc : ¬ lg_cmp (lN X &&& f_X11_markOf (nI i)) (0 : Int64) = 0 := fun h => by rw [lgc0 hX (by omega)] at h; rw [c] at h; cases h
      rw [if_neg hc, rd_nI (by omega) (by decide), (hw i (by omega)).1, nI_1]
      by_cases d : fr G i = v
      · rw [if_pos (by rw [d]), if_pos ⟨c, Or.inl d⟩]
      · rw [if_neg (fun h => d ((nI_eq (by omega) (by omega)).mp h)), rd_nI (by omega) (by decide), (hw i (by omega)).2]
        by_cases d2 : tt G i = v
        · rw [if_pos (by rw [d2]), if_pos ⟨c, Or.inr d2⟩]
        · rw [if_neg (fun h => d2 ((nI_eq (by omega) (by omega)).mp h)), if_neg (fun h => by rcases h.2 with x | x; exact d x; exact d2 x)]
          exact ih2
    · have hc : lg_cmp (lN X &&& f_X11_markOf (nI i)) (0 : Int64) = 0 := (lgc0 hX (by omega)).mpr (by simpa using c)
      rw [if_pos hc, if_neg (fun h => c h.1), nI_1]
      exact ih2
theorem arcAt_eq {F : Nat} (hF : 100000 ≤ F) {G : Gr} (hW : Wf G) {made : Int32} {one oth : Nat → Int32} (hm : made = nI (md G)) (hw : ∀ i, i < md G → one i = nI (fr G i) ∧ oth i = nI (tt G i)) {X v : Nat} (hX : X < 2 ^ 62) (hv : v < 16) : f_X2_arcAt F (lN X) (nI v) made one oth = some (arcF G X v (md G) 0) := by
  have h60 := hW.2.1
  unfold f_X2_arcAt
  simp only [jn]
  exact arcAt_L hW hm hw hX hv (md G) F 0 (by omega) (by omega)
theorem arcF_spec {G : Gr} {X v : Nat} : ∀ (k i : Nat), (∃ j, i ≤ j ∧ j < i + k ∧ inX X j = true ∧ (fr G j = v ∨ tt G j = v) ∧ arcF G X v k i = nI j ∧ ∀ l, i ≤ l → l < j → ¬ (inX X l = true ∧ (fr G l = v ∨ tt G l = v))) ∨ ((∀ j, i ≤ j → j < i + k → ¬ (inX X j = true ∧ (fr G j = v ∨ tt G j = v))) ∧ arcF G X v k i = -3) := by
  intro k
  induction k with
  | zero => intro i; exact Or.inr ⟨fun j h1 h2 => by omega, rfl⟩
  | succ k ih =>
    intro i
    unfold arcF
    by_cases c : inX X i = true ∧ (fr G i = v ∨ tt G i = v)
    · rw [if_pos c]; exact Or.inl ⟨i, Nat.le_refl _, by omega, c.1, c.2, rfl, fun l h1 h2 => by omega⟩
    · rw [if_neg c]
      rcases ih (i + 1) with ⟨j, h1, h2, h3, h4, h5, h6⟩ | ⟨h1, h2⟩
      · refine Or.inl ⟨j, by omega, by omega, h3, h4, h5, fun l l1 l2 => ?_⟩
        by_cases d : l = i
        · subst d; exact c
        · exact h6 l (by omega) l2
      · refine Or.inr ⟨fun j j1 j2 => ?_, h2⟩
        by_cases d : j = i
        · subst d; exact c
        · exact h1 j (by omega) (by omega)
/-- what the reference's mates say of a node is the arc of the class -/
theorem mate_arc {G : Gr} (hW : Wf G) {S X : Nat} (hM : Mt G S X) {way : Nat} {mates : Nat → Int32} (h : MM G X (md G) way mates) {v : Nat} (hv : v < 16) : (if mates (way * 16 + v) < 0 then (-3 : Int32) else mates (way * 16 + v)) = arcF G X v (md G) 0 := by
  have h60 := hW.2.1
  rcases h v hv with ⟨i, i1, i2, i3, i4⟩ | ⟨i1, i2⟩
  · rw [i4, if_neg (fun x => by rw [z32, nI_ltI (by omega) (by omega)] at x; omega)]
    rcases arcF_spec (G := G) (X := X) (v := v) (md G) 0 with ⟨j, j1, j2, j3, j4, j5, -⟩ | ⟨j1, -⟩
    · rw [j5]
      congr 1
      by_cases c : i = j
      · exact c
      · exfalso
        obtain ⟨d1, d2, d3, d4⟩ := hM.2.2 i j (by omega) (by omega) i2 j3 c
        rcases i3 with x | x <;> rcases j4 with y | y
        · exact d1 (x.trans y.symm)
        · exact d2 (x.trans y.symm)
        · exact d3 (x.trans y.symm)
        · exact d4 (x.trans y.symm)
    · exact absurd ⟨i2, i3⟩ (j1 i (Nat.zero_le _) (by omega))
  · rw [i2, if_pos (by decide)]
    rcases arcF_spec (G := G) (X := X) (v := v) (md G) 0 with ⟨j, j1, j2, j3, j4, j5, -⟩ | ⟨-, j2⟩
    · have := i1 j (by omega) j3
      rcases j4 with y | y
      · exact absurd y this.1
      · exact absurd y this.2
    · exact j2.symm
