/-! ===== joins: sets of arcs with told odd nodes; walks ===== -/
/-- the length of the first k arcs of a set -/
def lX (l : Nat → Nat) (X : Nat) : Nat → Nat
  | 0 => 0
  | k + 1 => lX l X k + if inX X k = true then l k else 0
theorem lX_s (l : Nat → Nat) (X k : Nat) : lX l X (k + 1) = lX l X k + if inX X k = true then l k else 0 := rfl
/-- the odd nodes of the first k arcs of a set -/
def oX (G : Gr) (X : Nat) : Nat → Nat
  | 0 => 0
  | k + 1 => if inX X k = true then oX G X k ^^^ (2 ^ fr G k ^^^ 2 ^ tt G k) else oX G X k
theorem oX_s (G : Gr) (X k : Nat) : oX G X (k + 1) = if inX X k = true then oX G X k ^^^ (2 ^ fr G k ^^^ 2 ^ tt G k) else oX G X k := rfl
theorem inX_xor {X Y i : Nat} : inX (X ^^^ Y) i = (inX X i ^^ inX Y i) := by unfold inX; rw [Nat.testBit_xor]
theorem lX_xor {l : Nat → Nat} {X Y : Nat} : ∀ k, lX l (X ^^^ Y) k ≤ lX l X k + lX l Y k := by
  intro k
  induction k with
  | zero => exact Nat.le_refl _
  | succ k ih =>
    rw [lX_s, lX_s, lX_s, inX_xor]
    cases inX X k <;> cases inX Y k <;> simp <;> omega
theorem lX_dis {l : Nat → Nat} (hl : ∀ i, 0 < l i) {X Y : Nat} : ∀ k, lX l (X ^^^ Y) k = lX l X k + lX l Y k → ∀ i, i < k → ¬ (inX X i = true ∧ inX Y i = true) := by
  intro k
  induction k with
  | zero => intro _ i hi; omega
  | succ k ih =>
    intro h i hi
    have h1 := lX_xor (l := l) (X := X) (Y := Y) k
    rw [lX_s, lX_s, lX_s, inX_xor] at h
    have hp := hl k
    by_cases c : i = k
    · subst c
      rintro ⟨x, y⟩
      rw [x, y] at h
      simp at h
      omega
    · refine ih ?_ i (by omega)
      cases x : inX X k <;> cases y : inX Y k <;> rw [x, y] at h <;> simp at h <;> omega
theorem xor_4 (a b c d : Nat) : (a ^^^ b) ^^^ (c ^^^ d) = (a ^^^ c) ^^^ (b ^^^ d) := by
  apply Nat.eq_of_testBit_eq
  intro j
  simp only [Nat.testBit_xor]
  cases a.testBit j <;> cases b.testBit j <;> cases c.testBit j <;> cases d.testBit j <;> rfl
theorem oX_xor {G : Gr} {X Y : Nat} : ∀ k, oX G (X ^^^ Y) k = oX G X k ^^^ oX G Y k := by
  intro k
  induction k with
  | zero => exact (Nat.xor_self 0).symm
  | succ k ih =>
    rw [oX_s, oX_s, oX_s, inX_xor, ih]
    cases inX X k <;> cases inX Y k
    · simp
    · simp only [Bool.false_xor, if_true, Bool.false_eq_true, if_false]
      rw [Nat.xor_assoc]
    · simp only [Bool.xor_false, if_true, Bool.false_eq_true, if_false]
      rw [Nat.xor_assoc, Nat.xor_comm (oX G Y k), ← Nat.xor_assoc]
    · simp only [Bool.xor_self, if_true, Bool.false_eq_true, if_false]
      rw [xor_4, Nat.xor_self, Nat.xor_zero]
theorem lX_0 {l : Nat → Nat} : ∀ k, lX l 0 k = 0 := by
  intro k
  induction k with
  | zero => rfl
  | succ k ih => rw [lX_s, ih]; unfold inX; rw [Nat.zero_testBit]; rfl
theorem oX_0 {G : Gr} : ∀ k, oX G 0 k = 0 := by
  intro k
  induction k with
  | zero => rfl
  | succ k ih => rw [oX_s, ih]; unfold inX; rw [Nat.zero_testBit]; rfl
theorem lX_mkA {l : Nat → Nat} {i : Nat} (hi : i < 60) : ∀ k, k ≤ 60 → lX l (mkA i) k = if i < k then l i else 0 := by
  intro k
  induction k with
  | zero => intro _; rfl
  | succ k ih =>
    intro hk
    rw [lX_s, ih (by omega), inX_mkA hi (by omega)]
    by_cases c : k = i
    · subst c
      rw [if_neg (Nat.lt_irrefl _), if_pos (by simp), if_pos (by omega)]; omega
    · rw [if_neg (show ¬ decide (k = i) = true by simp [c])]
      by_cases d : i < k
      · rw [if_pos d, if_pos (show i < k + 1 by omega), Nat.add_zero]
      · rw [if_neg d, if_neg (by omega)]
theorem oX_mkA {G : Gr} {i : Nat} (hi : i < 60) : ∀ k, k ≤ 60 → oX G (mkA i) k = if i < k then 2 ^ fr G i ^^^ 2 ^ tt G i else 0 := by
  intro k
  induction k with
  | zero => intro _; rfl
  | succ k ih =>
    intro hk
    rw [oX_s, ih (by omega), inX_mkA hi (by omega)]
    by_cases c : k = i
    · subst c
      rw [if_neg (Nat.lt_irrefl _), if_pos (by simp), if_pos (by omega), Nat.zero_xor]
    · rw [if_neg (show ¬ decide (k = i) = true by simp [c])]
      by_cases d : i < k
      · rw [if_pos d, if_pos (by omega)]
      · rw [if_neg d, if_neg (by omega)]
theorem dif_xor {X i : Nat} (h : inX X i = true) : dif X (mkA i) = X ^^^ mkA i := by
  unfold dif
  congr 1
  apply Nat.eq_of_testBit_eq
  intro j
  rw [Nat.testBit_and]
  unfold mkA
  rw [Nat.testBit_two_pow]
  unfold inX at h
  by_cases c : 59 - i = j
  · subst c; rw [h]; simp
  · simp [c]
theorem lX_dif {l : Nat → Nat} {X i : Nat} (hi : i < 60) (h : inX X i = true) : lX l X 60 = lX l (dif X (mkA i)) 60 + l i := by
  have e : ∀ k, k ≤ 60 → lX l X k = lX l (dif X (mkA i)) k + if i < k then l i else 0 := by
    intro k
    induction k with
    | zero => intro _; rfl
    | succ k ih =>
      intro hk
      rw [lX_s, lX_s, ih (by omega), inX_dif hi (by omega)]
      by_cases c : k = i
      · subst c
        rw [h, if_neg (show ¬ k < k by omega), if_pos (show true = true from rfl), if_pos (show k < k + 1 by omega), decide_eq_true (rfl : k = k), if_neg (show ¬ (true && !true) = true by decide)]
      · rw [decide_eq_false c, Bool.not_false, Bool.and_true]
        by_cases d : i < k
        · rw [if_pos d, if_pos (show i < k + 1 by omega)]; omega
        · rw [if_neg d, if_neg (show ¬ i < k + 1 by omega)]; omega
  have := e 60 (Nat.le_refl _)
  rw [if_pos hi] at this
  exact this
theorem oX_dif {G : Gr} {X i : Nat} (hi : i < 60) (h : inX X i = true) : oX G (dif X (mkA i)) 60 = oX G X 60 ^^^ (2 ^ fr G i ^^^ 2 ^ tt G i) := by
  rw [dif_xor h, oX_xor, oX_mkA hi 60 (Nat.le_refl _), if_pos hi]
theorem oX_arc {G : Gr} {X v : Nat} : ∀ k, (oX G X k).testBit v = true → ∃ i, i < k ∧ inX X i = true ∧ (fr G i = v ∨ tt G i = v) := by
  intro k
  induction k with
  | zero => intro h; unfold oX at h; rw [Nat.zero_testBit] at h; cases h
  | succ k ih =>
    intro h
    rw [oX_s] at h
    by_cases c : inX X k = true
    · rw [if_pos c, Nat.testBit_xor, Nat.testBit_xor, Nat.testBit_two_pow, Nat.testBit_two_pow] at h
      by_cases d : fr G k = v ∨ tt G k = v
      · exact ⟨k, by omega, c, d⟩
      · have d1 : ¬ fr G k = v := fun e => d (Or.inl e)
        have d2 : ¬ tt G k = v := fun e => d (Or.inr e)
        rw [decide_eq_false d1, decide_eq_false d2, Bool.xor_false, Bool.xor_false] at h
        obtain ⟨i, h1, h2⟩ := ih h
        exact ⟨i, by omega, h2⟩
    · rw [if_neg c] at h
      obtain ⟨i, h1, h2⟩ := ih h
      exact ⟨i, by omega, h2⟩
def Lv (G : Gr) (X : Nat) : Prop := X < 2 ^ 60 ∧ ∀ i, i < 60 → inX X i = true → i < md G ∧ al G i = true
def Eds (G : Gr) (X : Nat) (W : Nat → Prop) : Prop := ∀ i, i < 60 → inX X i = true → W (fr G i) ∧ W (tt G i)
theorem Lv_xor {G : Gr} {X Y : Nat} (hX : Lv G X) (hY : Lv G Y) : Lv G (X ^^^ Y) := by
  refine ⟨Nat.xor_lt_two_pow hX.1 hY.1, fun i hi h => ?_⟩
  rw [inX_xor] at h
  cases x : inX X i with
  | true => exact hX.2 i hi x
  | false =>
    cases y : inX Y i with
    | true => exact hY.2 i hi y
    | false => rw [x, y] at h; cases h
theorem Eds_xor {G : Gr} {X Y : Nat} {W V U : Nat → Prop} (hX : Eds G X W) (hY : Eds G Y V) (h1 : ∀ v, W v → U v) (h2 : ∀ v, V v → U v) : Eds G (X ^^^ Y) U := by
  intro i hi h
  rw [inX_xor] at h
  cases x : inX X i with
  | true => exact ⟨h1 _ (hX i hi x).1, h1 _ (hX i hi x).2⟩
  | false =>
    cases y : inX Y i with
    | true => exact ⟨h2 _ (hY i hi y).1, h2 _ (hY i hi y).2⟩
    | false => rw [x, y] at h; cases h
theorem Lv_dif {G : Gr} {X i : Nat} (hi : i < 60) (h : Lv G X) : Lv G (dif X (mkA i)) := by
  refine ⟨Nat.lt_of_le_of_lt (dif_le _ _) h.1, fun j hj hx => ?_⟩
  rw [inX_dif hi hj, Bool.and_eq_true] at hx
  exact h.2 j hj hx.1
theorem Eds_dif {G : Gr} {X i : Nat} {W : Nat → Prop} (hi : i < 60) (h : Eds G X W) : Eds G (dif X (mkA i)) W := by
  intro j hj hx
  rw [inX_dif hi hj, Bool.and_eq_true] at hx
  exact h j hj hx.1
theorem Lv_mkA {G : Gr} (hW : Wf G) {i : Nat} (hi : i < md G) (ha : al G i = true) : Lv G (mkA i) := by
  have := hW.2.1
  refine ⟨mkA_lt, fun j hj hx => ?_⟩
  rw [inX_mkA (by omega) hj] at hx
  rw [of_decide_eq_true hx]
  exact ⟨hi, ha⟩
/-- the other end of an arc -/
theorem Jn_ends {G : Gr} {i a b : Nat} (h : Jn G i a b) : 2 ^ fr G i ^^^ 2 ^ tt G i = 2 ^ a ^^^ 2 ^ b := by
  rcases h with ⟨x, y⟩ | ⟨x, y⟩
  · rw [x, y]
  · rw [x, y, Nat.xor_comm]
theorem bit2 {a b v : Nat} : (2 ^ a ^^^ 2 ^ b).testBit v = (decide (a = v) ^^ decide (b = v)) := by
  rw [Nat.testBit_xor, Nat.testBit_two_pow, Nat.testBit_two_pow]
/-- walks by their number of arcs less one; nodes between are in S -/
def Wl (G : Gr) (l : Nat → Nat) (S : Nat → Prop) : Nat → Nat → Nat → Nat → Prop
  | 0, a, b, x => ∃ i, i < md G ∧ al G i = true ∧ Jn G i a b ∧ x = l i
  | n + 1, a, b, x => ∃ i c y, i < md G ∧ al G i = true ∧ Jn G i a c ∧ S c ∧ Wl G l S n c b y ∧ x = l i + y
def Wlk (G : Gr) (l : Nat → Nat) (S : Nat → Prop) (a b x : Nat) : Prop := ∃ n, Wl G l S n a b x
theorem Wlk_arc {G : Gr} {l : Nat → Nat} {S : Nat → Prop} {i a b : Nat} (h1 : i < md G) (h2 : al G i = true) (h3 : Jn G i a b) : Wlk G l S a b (l i) := ⟨0, i, h1, h2, h3, rfl⟩
theorem Wlk_cons {G : Gr} {l : Nat → Nat} {S : Nat → Prop} {i a b c y : Nat} (h1 : i < md G) (h2 : al G i = true) (h3 : Jn G i a c) (h4 : S c) (h5 : Wlk G l S c b y) : Wlk G l S a b (l i + y) := by
  obtain ⟨n, h5⟩ := h5
  exact ⟨n + 1, i, c, y, h1, h2, h3, h4, h5, rfl⟩
theorem Wl_mono {G : Gr} {l : Nat → Nat} {S S' : Nat → Prop} (h : ∀ v, S v → S' v) : ∀ n a b x, Wl G l S n a b x → Wl G l S' n a b x := by
  intro n
  induction n with
  | zero => intro a b x hx; exact hx
  | succ n ih =>
    rintro a b x ⟨i, c, y, h1, h2, h3, h4, h5, h6⟩
    exact ⟨i, c, y, h1, h2, h3, h c h4, ih c b y h5, h6⟩
theorem Wlk_mono {G : Gr} {l : Nat → Nat} {S S' : Nat → Prop} (h : ∀ v, S v → S' v) {a b x : Nat} (hx : Wlk G l S a b x) : Wlk G l S' a b x := by
  obtain ⟨n, hx⟩ := hx
  exact ⟨n, Wl_mono h n a b x hx⟩
theorem Wlk_app {G : Gr} {l : Nat → Nat} {S : Nat → Prop} {c b z : Nat} (hc : S c) (h2 : Wlk G l S c b z) : ∀ n a y, Wl G l S n a c y → Wlk G l S a b (y + z) := by
  intro n
  induction n with
  | zero =>
    rintro a y ⟨i, h1, h3, h4, rfl⟩
    exact Wlk_cons h1 h3 h4 hc h2
  | succ n ih =>
    rintro a y ⟨i, d, w, h1, h3, h4, h5, h6, rfl⟩
    rw [Nat.add_assoc]
    exact Wlk_cons h1 h3 h4 h5 (ih d w h6)
theorem Wlk_rev {G : Gr} {l : Nat → Nat} {S : Nat → Prop} : ∀ n a b x, Wl G l S n a b x → Wlk G l S b a x := by
  intro n
  induction n with
  | zero =>
    rintro a b x ⟨i, h1, h2, h3, rfl⟩
    exact Wlk_arc h1 h2 h3.symm
  | succ n ih =>
    rintro a b x ⟨i, c, y, h1, h2, h3, h4, h5, rfl⟩
    obtain ⟨k, hk⟩ := ih c b y h5
    rw [Nat.add_comm]
    exact Wlk_app h4 (Wlk_arc h1 h2 h3.symm) k b y hk
/-- one node more between -/
theorem Wlk_step {G : Gr} {l : Nat → Nat} {m : Nat} : ∀ n a b x, Wl G l (· < m + 1) n a b x → (∃ x', x' ≤ x ∧ Wlk G l (· < m) a b x') ∨ ∃ y z, Wlk G l (· < m) a m y ∧ Wlk G l (· < m) m b z ∧ y + z ≤ x := by
  intro n
  induction n with
  | zero =>
    intro a b x hx
    exact Or.inl ⟨x, Nat.le_refl _, 0, hx⟩
  | succ n ih =>
    rintro a b x ⟨i, c, y, h1, h2, h3, h4, h5, rfl⟩
    have h4 : c < m + 1 := h4
    by_cases e : c = m
    · subst e
      right
      rcases ih c b y h5 with ⟨x', k1, k2⟩ | ⟨y', z', k1, k2, k3⟩
      · exact ⟨l i, x', Wlk_arc h1 h2 h3, k2, by omega⟩
      · exact ⟨l i, z', Wlk_arc h1 h2 h3, k2, by omega⟩
    · have hc : c < m := by omega
      rcases ih c b y h5 with ⟨x', k1, k2⟩ | ⟨y', z', k1, k2, k3⟩
      · exact Or.inl ⟨l i + x', by omega, Wlk_cons h1 h2 h3 hc k2⟩
      · exact Or.inr ⟨l i + y', z', Wlk_cons h1 h2 h3 hc k1, k2, by omega⟩
theorem Wlk_clean {G : Gr} {l : Nat → Nat} {S : Nat → Prop} {a b : Nat} : ∀ n v x, Wl G l (fun w => S w ∨ w = a ∨ w = b) n v b x → (∃ x', x' ≤ x ∧ Wlk G l S v b x') ∨ ∃ x', x' ≤ x ∧ Wlk G l S a b x' := by
  intro n
  induction n with
  | zero => intro v x hx; exact Or.inl ⟨x, Nat.le_refl _, 0, hx⟩
  | succ n ih =>
    rintro v x ⟨i, c, y, h1, h2, h3, h4, h5, rfl⟩
    rcases ih c y h5 with ⟨x', k1, k2⟩ | ⟨x', k1, k2⟩
    · rcases h4 with h4 | h4 | h4
      · exact Or.inl ⟨l i + x', by omega, Wlk_cons h1 h2 h3 h4 k2⟩
      · subst h4; exact Or.inr ⟨x', by omega, k2⟩
      · subst h4; exact Or.inl ⟨l i, by omega, Wlk_arc h1 h2 h3⟩
    · exact Or.inr ⟨x', by omega, k2⟩
theorem trail {G : Gr} (hW : Wf G) {l : Nat → Nat} {W : Nat → Prop} {b : Nat} : ∀ (k X a : Nat), cX X 60 ≤ k → a ≠ b → Lv G X → Eds G X W → oX G X 60 = 2 ^ a ^^^ 2 ^ b → ∃ y, y ≤ lX l X 60 ∧ Wlk G l W a b y := by
  intro k
  induction k with
  | zero =>
    intro X a hk hab hL hE ho
    have hb : (oX G X 60).testBit a = true := by rw [ho, bit2, decide_eq_true (rfl : a = a), decide_eq_false (fun e => hab e.symm)]; rfl
    obtain ⟨i, i1, i2, -⟩ := oX_arc 60 hb
    rw [cX_zero (by omega) i i1] at i2
    cases i2
  | succ k ih =>
    intro X a hk hab hL hE ho
    have hb : (oX G X 60).testBit a = true := by rw [ho, bit2, decide_eq_true (rfl : a = a), decide_eq_false (fun e => hab e.symm)]; rfl
    obtain ⟨i, i1, i2, i3⟩ := oX_arc 60 hb
    obtain ⟨b1, b2⟩ := hL.2 i i1 i2
    obtain ⟨e1, e2⟩ := hE i i1 i2
    obtain ⟨w1, w2, w3, -⟩ := hW.2.2 i b1
    obtain ⟨c, hJ, hc⟩ : ∃ c, Jn G i a c ∧ W c := by
      rcases i3 with x | x
      · exact ⟨tt G i, Or.inl ⟨x, rfl⟩, e2⟩
      · exact ⟨fr G i, Or.inr ⟨rfl, x⟩, e1⟩
    have hl := lX_dif (l := l) i1 i2
    by_cases e : c = b
    · subst e
      exact ⟨l i, by omega, Wlk_arc b1 b2 hJ⟩
    · have hcx := cX_dif i1 i2
      obtain ⟨y, y1, y2⟩ := ih (dif X (mkA i)) c (by omega) e (Lv_dif i1 hL) (Eds_dif i1 hE) (by
        rw [oX_dif i1 i2, ho, Jn_ends hJ]
        apply Nat.eq_of_testBit_eq
        intro j
        simp only [Nat.testBit_xor]
        cases (2 ^ a).testBit j <;> cases (2 ^ b).testBit j <;> cases (2 ^ c).testBit j <;> rfl)
      exact ⟨l i + y, by omega, Wlk_cons b1 b2 hJ hc y2⟩
theorem walk_join {G : Gr} (hW : Wf G) {l : Nat → Nat} {S : Nat → Prop} : ∀ (n a b x : Nat), Wl G l S n a b x → ∃ X, Lv G X ∧ Eds G X (fun v => S v ∨ v = a ∨ v = b) ∧ oX G X 60 = 2 ^ a ^^^ 2 ^ b ∧ lX l X 60 ≤ x := by
  have h60 := hW.2.1
  have one : ∀ i a b, i < md G → al G i = true → Jn G i a b → Lv G (mkA i) ∧ Eds G (mkA i) (fun v => v = a ∨ v = b) ∧ oX G (mkA i) 60 = 2 ^ a ^^^ 2 ^ b ∧ lX l (mkA i) 60 = l i := by
    intro i a b h1 h2 h3
    refine ⟨Lv_mkA hW h1 h2, fun j hj hx => ?_, ?_, ?_⟩
    · rw [inX_mkA (by omega) hj] at hx
      rw [of_decide_eq_true hx]
      rcases h3 with ⟨x, y⟩ | ⟨x, y⟩
      · exact ⟨Or.inl x, Or.inr y⟩
      · exact ⟨Or.inr x, Or.inl y⟩
    · rw [oX_mkA (by omega) 60 (Nat.le_refl _), if_pos (by omega), Jn_ends h3]
    · rw [lX_mkA (by omega) 60 (Nat.le_refl _), if_pos (by omega)]
  intro n
  induction n with
  | zero =>
    rintro a b x ⟨i, h1, h2, h3, rfl⟩
    obtain ⟨o1, o2, o3, o4⟩ := one i a b h1 h2 h3
    exact ⟨mkA i, o1, fun j hj hx => ⟨Or.inr (o2 j hj hx).1, Or.inr (o2 j hj hx).2⟩, o3, Nat.le_of_eq o4⟩
  | succ n ih =>
    rintro a b x ⟨i, c, y, h1, h2, h3, h4, h5, rfl⟩
    obtain ⟨o1, o2, o3, o4⟩ := one i a c h1 h2 h3
    obtain ⟨X, x1, x2, x3, x4⟩ := ih c b y h5
    have h7 := lX_xor (l := l) (X := mkA i) (Y := X) 60
    refine ⟨mkA i ^^^ X, Lv_xor o1 x1, Eds_xor o2 x2 (fun v hv => ?_) (fun v hv => ?_), ?_, by omega⟩
    · rcases hv with hv | hv
      · exact Or.inr (Or.inl hv)
      · subst hv; exact Or.inl h4
    · rcases hv with hv | hv | hv
      · exact Or.inl hv
      · subst hv; exact Or.inl h4
      · exact Or.inr (Or.inr hv)
    · rw [oX_xor, o3, x3]
      apply Nat.eq_of_testBit_eq
      intro j
      simp only [Nat.testBit_xor]
      cases (2 ^ a).testBit j <;> cases (2 ^ b).testBit j <;> cases (2 ^ c).testBit j <;> rfl
/-- a join of a and b whose nodes between are below m -/
def JS (G : Gr) (m a b X : Nat) : Prop := Lv G X ∧ Eds G X (fun v => v < m ∨ v = a ∨ v = b) ∧ oX G X 60 = 2 ^ a ^^^ 2 ^ b
/-- x is the least length from a to b by nodes below m; none: there is no way -/
def Ent (G : Gr) (l : Nat → Nat) (m a b : Nat) (e : Option Nat) : Prop := match e with
  | none => ∀ x, ¬ Wlk G l (· < m) a b x
  | some x => (∃ X, JS G m a b X ∧ lX l X 60 = x) ∧ ∀ y, Wlk G l (· < m) a b y → x ≤ y
theorem Ent_join {G : Gr} (hW : Wf G) {l : Nat → Nat} {m a b : Nat} (hab : a ≠ b) {e : Option Nat} (h : Ent G l m a b e) {X : Nat} (hX : JS G m a b X) : ∃ x, e = some x ∧ x ≤ lX l X 60 := by
  obtain ⟨y, y1, n, y2⟩ := trail hW (l := l) (cX X 60) X a (Nat.le_refl _) hab hX.1 hX.2.1 hX.2.2
  have : ∃ x', x' ≤ y ∧ Wlk G l (· < m) a b x' := by
    rcases Wlk_clean (S := (· < m)) n a y y2 with z | z <;> exact z
  obtain ⟨x', k1, k2⟩ := this
  cases e with
  | none => exact absurd k2 (h x')
  | some x => exact ⟨x, rfl, by have := h.2 x' k2; omega⟩
theorem Ent_walk {G : Gr} {l : Nat → Nat} {m a b : Nat} {e : Option Nat} (h : Ent G l m a b e) {y : Nat} (hy : Wlk G l (· < m) a b y) : ∃ x, e = some x ∧ x ≤ y := by
  cases e with
  | none => exact absurd hy (h y)
  | some x => exact ⟨x, rfl, h.2 y hy⟩
theorem JS_up {G : Gr} {m a b X : Nat} (h : JS G m a b X) : JS G (m + 1) a b X := by
  refine ⟨h.1, fun i hi hx => ?_, h.2.2⟩
  obtain ⟨x, y⟩ := h.2.1 i hi hx
  exact ⟨x.imp (fun q => by omega) id, y.imp (fun q => by omega) id⟩
/-- the node m is an end already -/
theorem Ent_same {G : Gr} {l : Nat → Nat} {m a b : Nat} (hm : a = m ∨ b = m) {e : Option Nat} (h : Ent G l m a b e) : Ent G l (m + 1) a b e := by
  have low : ∀ y, Wlk G l (· < m + 1) a b y → ∃ y', y' ≤ y ∧ Wlk G l (· < m) a b y' := by
    rintro y ⟨n, hy⟩
    rcases Wlk_step n a b y hy with z | ⟨p, q, z1, z2, z3⟩
    · exact z
    · rcases hm with c | c
      · subst c; exact ⟨q, by omega, z2⟩
      · subst c; exact ⟨p, by omega, z1⟩
  cases e with
  | none =>
    intro x hx
    obtain ⟨y', -, k⟩ := low x hx
    exact h y' k
  | some x =>
    refine ⟨?_, fun y hy => ?_⟩
    · obtain ⟨X, x1, x2⟩ := h.1
      exact ⟨X, JS_up x1, x2⟩
    · obtain ⟨y', k1, k2⟩ := low y hy
      have := h.2 y' k2
      omega
def oadd (e f : Option Nat) : Option Nat := match e, f with
  | some x, some y => some (x + y)
  | _, _ => none
def omin (e f : Option Nat) : Option Nat := match e, f with
  | none, f => f
  | some x, none => some x
  | some x, some y => if y < x then some y else some x
theorem Ent_step {G : Gr} (hW : Wf G) {l : Nat → Nat} {m a b : Nat} (hab : a ≠ b) (ham : a ≠ m) (hbm : b ≠ m) {e f g : Option Nat} (he : Ent G l m a b e) (hf : Ent G l m a m f) (hg : Ent G l m m b g) : Ent G l (m + 1) a b (omin e (oadd f g)) := by
  have low : ∀ y, Wlk G l (· < m + 1) a b y → (∃ x, e = some x ∧ x ≤ y) ∨ ∃ p q, f = some p ∧ g = some q ∧ p + q ≤ y := by
    rintro y ⟨n, hy⟩
    rcases Wlk_step n a b y hy with ⟨y', z1, z2⟩ | ⟨p, q, z1, z2, z3⟩
    · obtain ⟨x, x1, x2⟩ := Ent_walk he z2
      exact Or.inl ⟨x, x1, by omega⟩
    · obtain ⟨p', p1, p2⟩ := Ent_walk hf z1
      obtain ⟨q', q1, q2⟩ := Ent_walk hg z2
      exact Or.inr ⟨p', q', p1, q1, by omega⟩
  -- the sum is the length of a join, where it is the least
  have sum : ∀ p q, f = some p → g = some q → (∀ y, Wlk G l (· < m + 1) a b y → p + q ≤ y) → ∃ X, JS G (m + 1) a b X ∧ lX l X 60 = p + q := by
    rintro p q rfl rfl hmin
    obtain ⟨⟨X, x1, x2⟩, -⟩ := hf
    obtain ⟨⟨Y, y1, y2⟩, -⟩ := hg
    have hJ : JS G (m + 1) a b (X ^^^ Y) := by
      refine ⟨Lv_xor x1.1 y1.1, Eds_xor x1.2.1 y1.2.1 (fun v hv => by omega) (fun v hv => by omega), ?_⟩
      rw [oX_xor, x1.2.2, y1.2.2]
      apply Nat.eq_of_testBit_eq
      intro j
      simp only [Nat.testBit_xor]
      cases (2 ^ a).testBit j <;> cases (2 ^ b).testBit j <;> cases (2 ^ m).testBit j <;> rfl
    refine ⟨X ^^^ Y, hJ, ?_⟩
    have h1 := lX_xor (l := l) (X := X) (Y := Y) 60
    obtain ⟨y, k1, n, k2⟩ := trail hW (l := l) (cX (X ^^^ Y) 60) (X ^^^ Y) a (Nat.le_refl _) hab hJ.1 hJ.2.1 hJ.2.2
    have : ∃ x', x' ≤ y ∧ Wlk G l (· < m + 1) a b x' := by
      rcases Wlk_clean (S := (· < m + 1)) n a y k2 with z | z <;> exact z
    obtain ⟨x', k3, k4⟩ := this
    have := hmin x' k4
    omega
  cases e with
  | none =>
    cases f with
    | none =>
      intro y hy
      rcases low y hy with ⟨x, x1, -⟩ | ⟨p, q, p1, -⟩
      · cases x1
      · cases p1
    | some p =>
      cases g with
      | none =>
        intro y hy
        rcases low y hy with ⟨x, x1, -⟩ | ⟨p', q, -, q1, -⟩
        · cases x1
        · cases q1
      | some q =>
        have hmin : ∀ y, Wlk G l (· < m + 1) a b y → p + q ≤ y := by
          intro y hy
          rcases low y hy with ⟨x, x1, -⟩ | ⟨p', q', p1, q1, h⟩
          · cases x1
          · cases p1; cases q1; exact h
        exact ⟨sum p q rfl rfl hmin, hmin⟩
  | some x =>
    have keep : (∀ p q, f = some p → g = some q → x ≤ p + q) → Ent G l (m + 1) a b (some x) := by
      intro hk
      refine ⟨?_, fun y hy => ?_⟩
      · obtain ⟨X, x1, x2⟩ := he.1
        exact ⟨X, JS_up x1, x2⟩
      · rcases low y hy with ⟨x', x1, x2⟩ | ⟨p, q, p1, q1, h⟩
        · cases x1; exact x2
        · have := hk p q p1 q1
          omega
    cases f with
    | none => exact keep (fun p q h => by cases h)
    | some p =>
      cases g with
      | none => exact keep (fun p q _ h => by cases h)
      | some q =>
        show Ent G l (m + 1) a b (if p + q < x then some (p + q) else some x)
        by_cases c : p + q < x
        · rw [if_pos c]
          have hmin : ∀ y, Wlk G l (· < m + 1) a b y → p + q ≤ y := by
            intro y hy
            rcases low y hy with ⟨x', x1, x2⟩ | ⟨p', q', p1, q1, h⟩
            · cases x1; omega
            · cases p1; cases q1; exact h
          exact ⟨sum p q rfl rfl hmin, hmin⟩
        · rw [if_neg c]
          exact keep (fun p' q' h1 h2 => by cases h1; cases h2; omega)
theorem Ent_one {G : Gr} (hW : Wf G) {l : Nat → Nat} {m a b : Nat} (hab : a ≠ b) {e f : Option Nat} (he : Ent G l m a b e) (hf : Ent G l m a b f) : e = f := by
  have go : ∀ {e f : Option Nat}, Ent G l m a b e → Ent G l m a b f → ∀ x, e = some x → ∃ y, f = some y ∧ y ≤ x := by
    rintro e f he hf x rfl
    obtain ⟨⟨X, x1, x2⟩, -⟩ := he
    obtain ⟨y, y1, y2⟩ := Ent_join hW hab hf x1
    exact ⟨y, y1, by omega⟩
  cases e with
  | none =>
    cases f with
    | none => rfl
    | some y => obtain ⟨z, z1, -⟩ := go hf he y rfl; cases z1
  | some x =>
    obtain ⟨y, y1, y2⟩ := go he hf x rfl
    subst y1
    obtain ⟨z, z1, z2⟩ := go hf he y rfl
    cases z1
    rw [show x = y by omega]
/-- no arc at a node: no way -/
theorem Ent_out {G : Gr} (hW : Wf G) {l : Nat → Nat} {m a b : Nat} (h : nd G ≤ a ∨ nd G ≤ b) : Ent G l m a b none := by
  intro x hx
  rcases h with h | h
  · obtain ⟨n, hx⟩ := hx
    have : a < nd G := by
      cases n with
      | zero =>
        obtain ⟨i, h1, -, h3, -⟩ := hx
        obtain ⟨w1, w2, -, -⟩ := hW.2.2 i h1
        rcases h3 with ⟨x, y⟩ | ⟨x, y⟩ <;> omega
      | succ n =>
        obtain ⟨i, c, y, h1, -, h3, -⟩ := hx
        obtain ⟨w1, w2, -, -⟩ := hW.2.2 i h1
        rcases h3 with ⟨x, y⟩ | ⟨x, y⟩ <;> omega
    omega
  · obtain ⟨n, hx⟩ := hx
    obtain ⟨k, hx⟩ := Wlk_rev n a b x hx
    have : b < nd G := by
      cases k with
      | zero =>
        obtain ⟨i, h1, -, h3, -⟩ := hx
        obtain ⟨w1, w2, -, -⟩ := hW.2.2 i h1
        rcases h3 with ⟨x, y⟩ | ⟨x, y⟩ <;> omega
      | succ n =>
        obtain ⟨i, c, y, h1, -, h3, -⟩ := hx
        obtain ⟨w1, w2, -, -⟩ := hW.2.2 i h1
        rcases h3 with ⟨x, y⟩ | ⟨x, y⟩ <;> omega
    omega
