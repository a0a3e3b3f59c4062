/-! ===== a graph: nodes, arcs made, ends, weights, which arcs live ===== -/
abbrev Gr : Type := Nat × Nat × (Nat → Nat) × (Nat → Nat) × (Nat → Nat) × (Nat → Bool)
def nd (G : Gr) : Nat := G.1
def md (G : Gr) : Nat := G.2.1
def fr (G : Gr) (i : Nat) : Nat := G.2.2.1 i
def tt (G : Gr) (i : Nat) : Nat := G.2.2.2.1 i
def wt (G : Gr) (i : Nat) : Nat := G.2.2.2.2.1 i
def al (G : Gr) (i : Nat) : Bool := G.2.2.2.2.2 i
def Wf (G : Gr) : Prop := nd G ≤ 16 ∧ md G ≤ 60 ∧ ∀ i, i < md G → fr G i < nd G ∧ tt G i < nd G ∧ fr G i ≠ tt G i ∧ wt G i ≤ 1000
/-- arc i joins v and u -/
def Jn (G : Gr) (i v u : Nat) : Prop := (fr G i = v ∧ tt G i = u) ∨ (fr G i = u ∧ tt G i = v)
theorem Jn.symm {G : Gr} {i v u : Nat} (h : Jn G i v u) : Jn G i u v := by
  rcases h with h | h
  · exact Or.inr h
  · exact Or.inl h
/-- the first k arcs: which nodes they join with v -/
def adjF (G : Gr) : Nat → Nat → Nat
  | 0, _ => 0
  | i + 1, v => if al G i = true then (if fr G i = v then adjF G i v ||| 2 ^ tt G i else if tt G i = v then adjF G i v ||| 2 ^ fr G i else adjF G i v) else adjF G i v
theorem adjF_s (G : Gr) (i v : Nat) : adjF G (i + 1) v = if al G i = true then (if fr G i = v then adjF G i v ||| 2 ^ tt G i else if tt G i = v then adjF G i v ||| 2 ^ fr G i else adjF G i v) else adjF G i v := rfl
theorem adjF_bit {G : Gr} : ∀ (k v u : Nat), (∀ i, i < k → fr G i ≠ tt G i) → ((adjF G k v).testBit u = true ↔ ∃ i, i < k ∧ al G i = true ∧ Jn G i v u) := by
  intro k
  induction k with
  | zero => intro v u _; unfold adjF; simp
  | succ k ih =>
    intro v u hw
    have ihv := ih v u (fun i hi => hw i (by omega))
    have hk := hw k (by omega)
    have split : (∃ i, i < k + 1 ∧ al G i = true ∧ Jn G i v u) ↔ (∃ i, i < k ∧ al G i = true ∧ Jn G i v u) ∨ (al G k = true ∧ Jn G k v u) := by
      constructor
      · rintro ⟨i, h1, h2, h3⟩
        by_cases c : i = k
        · subst c; exact Or.inr ⟨h2, h3⟩
        · exact Or.inl ⟨i, by omega, h2, h3⟩
      · rintro (⟨i, h1, h2, h3⟩ | ⟨h2, h3⟩)
        · exact ⟨i, by omega, h2, h3⟩
        · exact ⟨k, by omega, h2, h3⟩
    rw [split, ← ihv, adjF_s]
    by_cases c : al G k = true
    · rw [if_pos c]
      by_cases d : fr G k = v
      · rw [if_pos d, Nat.testBit_or, Nat.testBit_two_pow, Bool.or_eq_true, decide_eq_true_eq]
        constructor
        · rintro (h | h)
          · exact Or.inl h
          · exact Or.inr ⟨c, Or.inl ⟨d, h⟩⟩
        · rintro (h | ⟨-, h | h⟩)
          · exact Or.inl h
          · exact Or.inr h.2
          · exact absurd (d.trans h.2.symm) hk
      · rw [if_neg d]
        by_cases e : tt G k = v
        · rw [if_pos e, Nat.testBit_or, Nat.testBit_two_pow, Bool.or_eq_true, decide_eq_true_eq]
          constructor
          · rintro (h | h)
            · exact Or.inl h
            · exact Or.inr ⟨c, Or.inr ⟨h, e⟩⟩
          · rintro (h | ⟨-, h | h⟩)
            · exact Or.inl h
            · exact absurd h.1 d
            · exact Or.inr h.1
        · rw [if_neg e]
          constructor
          · exact Or.inl
          · rintro (h | ⟨-, h | h⟩)
            · exact h
            · exact absurd h.1 d
            · exact absurd h.2 e
    · rw [if_neg c]
      constructor
      · exact Or.inl
      · rintro (h | ⟨h, -⟩)
        · exact h
        · exact absurd h c
def adj (G : Gr) (v : Nat) : Nat := adjF G (md G) v
theorem adj_bit {G : Gr} (hW : Wf G) (v u : Nat) : (adj G v).testBit u = true ↔ ∃ i, i < md G ∧ al G i = true ∧ Jn G i v u := adjF_bit _ _ _ (fun i hi => (hW.2.2 i hi).2.2.1)
theorem adj_in {G : Gr} (hW : Wf G) {v u : Nat} (h : (adj G v).testBit u = true) : v < nd G ∧ u < nd G ∧ v ≠ u := by
  obtain ⟨i, h1, -, h3⟩ := (adj_bit hW v u).mp h
  obtain ⟨a1, a2, a3, -⟩ := hW.2.2 i h1
  rcases h3 with ⟨rfl, rfl⟩ | ⟨rfl, rfl⟩
  · exact ⟨a1, a2, a3⟩
  · exact ⟨a2, a1, fun h => a3 h.symm⟩
theorem adj_sym {G : Gr} (hW : Wf G) (v u : Nat) : (adj G v).testBit u = (adj G u).testBit v := by
  rw [Bool.eq_iff_iff, adj_bit hW, adj_bit hW]
  constructor
  · rintro ⟨i, h1, h2, h3⟩; exact ⟨i, h1, h2, h3.symm⟩
  · rintro ⟨i, h1, h2, h3⟩; exact ⟨i, h1, h2, h3.symm⟩
theorem lt_of_bits {x n : Nat} (h : ∀ i, x.testBit i = true → i < n) : x < 2 ^ n := by
  rcases Nat.lt_or_ge x (2 ^ n) with c | c
  · exact c
  · obtain ⟨i, h1, h2⟩ := Nat.exists_ge_and_testBit_of_ge_two_pow c
    have := h i h2
    omega
theorem adj_lt {G : Gr} (hW : Wf G) (v : Nat) : adj G v < 65536 := lt_of_bits (n := 16) (fun u hu => by have := (adj_in hW hu).2.1; have := hW.1; omega)
def allN (G : Gr) : Nat := 2 ^ nd G - 1
theorem allN_bit {G : Gr} (v : Nat) : (allN G).testBit v = decide (v < nd G) := Nat.testBit_two_pow_sub_one _ _
theorem allN_lt {G : Gr} (hW : Wf G) : allN G < 65536 := lt_of_bits (n := 16) (fun u hu => by rw [allN_bit] at hu; have := of_decide_eq_true hu; have := hW.1; omega)
/-- the class's cells of a graph -/
def CG (G : Gr) (nodes made : Int32) (one oth wts alv joined : Nat → Int32) : Prop :=
  nodes = nI (nd G) ∧ made = nI (md G) ∧ (∀ i, i < md G → one i = nI (fr G i) ∧ oth i = nI (tt G i) ∧ wts i = nI (wt G i) ∧ alv i = if al G i = true then 1 else 0) ∧ ∀ v, v < 16 → joined v = nI (adj G v)
theorem allNodes_eq {G : Gr} (hW : Wf G) : f_X2_allNodes (nI (nd G)) = nI (allN G) := by
  unfold f_X2_allNodes
  have := hW.1
  rw [shl_nI (by omega)]
  have h : 0 < 2 ^ nd G := Nat.two_pow_pos _
  obtain ⟨t, ht⟩ : ∃ t, 2 ^ nd G = t + 1 := ⟨2 ^ nd G - 1, by omega⟩
  unfold allN
  rw [ht, nI_pred]
  rfl
/-! ===== sets of arcs: arc i has the bit 59 - i ===== -/
def inX (X i : Nat) : Bool := X.testBit (59 - i)
def mkA (i : Nat) : Nat := 2 ^ (59 - i)
theorem markOf_nI {i : Nat} (hi : i < 60) : f_X11_markOf (nI i) = lN (mkA i) := (by decide +kernel : ∀ i, i < 60 → f_X11_markOf (nI i) = lN (mkA i)) i hi
theorem mkA_lt {i : Nat} : mkA i < 2 ^ 60 := Nat.pow_lt_pow_right (by decide) (by omega)
theorem add_bit {X j : Nat} (h : X.testBit j = false) : X + 2 ^ j = X ||| 2 ^ j := by
  have hd : X % 2 ^ (j + 1) < 2 ^ j := by
    rcases Nat.lt_or_ge (X % 2 ^ (j + 1)) (2 ^ j) with c | c
    · exact c
    · exfalso
      have h3 : X % 2 ^ (j + 1) < 2 ^ (j + 1) := Nat.mod_lt _ (Nat.two_pow_pos _)
      have h2 : (X % 2 ^ (j + 1)).testBit j = true := by
        rw [bit_dm, Nat.div_eq_of_lt_le (k := 1) (by omega) (by rw [Nat.pow_succ] at h3; omega)]
        rfl
      rw [Nat.testBit_mod_two_pow] at h2
      simp [h] at h2
  have e : X = 2 ^ (j + 1) * (X / 2 ^ (j + 1)) + X % 2 ^ (j + 1) := (Nat.div_add_mod _ _).symm
  generalize X / 2 ^ (j + 1) = q at e
  generalize X % 2 ^ (j + 1) = r at e hd
  have hp : 2 ^ (j + 1) = 2 ^ j + 2 ^ j := by rw [Nat.pow_succ]; omega
  apply Nat.eq_of_testBit_eq
  intro i
  rw [Nat.testBit_or, Nat.testBit_two_pow, e, show 2 ^ (j + 1) * q + r + 2 ^ j = 2 ^ (j + 1) * q + (2 ^ j * 1 + r) by omega, Nat.testBit_two_pow_mul_add q (i := j + 1) (by omega) i, Nat.testBit_two_pow_mul_add q (i := j + 1) (by omega) i]
  by_cases c : i < j + 1
  · rw [if_pos c, if_pos c, Nat.testBit_two_pow_mul_add 1 hd i]
    by_cases d : i < j
    · rw [if_pos d]
      have : ¬ j = i := by omega
      simp [this]
    · have : i = j := by omega
      subst this
      rw [if_neg (Nat.lt_irrefl _), Nat.sub_self]
      simp
  · rw [if_neg c, if_neg c]
    have : ¬ j = i := by omega
    simp [this]
theorem dif_add {X j : Nat} (h : X.testBit j = true) : dif X (2 ^ j) + 2 ^ j = X := by
  have h1 : (dif X (2 ^ j)).testBit j = false := by rw [dif_bit, Nat.testBit_two_pow_self]; simp
  rw [add_bit h1]
  apply Nat.eq_of_testBit_eq
  intro i
  rw [Nat.testBit_or, dif_bit, Nat.testBit_two_pow]
  by_cases c : j = i
  · subst c; simp [h]
  · simp [c]
/-- the sum of a value over the first k arcs of a set -/
def sumX (val : Nat → Int) (X : Nat) : Nat → Int
  | 0 => 0
  | k + 1 => sumX val X k + if inX X k = true then val k else 0
theorem sumX_congr {val : Nat → Int} {X Y : Nat} : ∀ k, (∀ i, i < k → inX X i = inX Y i) → sumX val X k = sumX val Y k := by
  intro k
  induction k with
  | zero => intro _; rfl
  | succ k ih =>
    intro h
    unfold sumX
    rw [ih (fun i hi => h i (by omega)), h k (by omega)]
theorem sumX_add {val : Nat → Int} {X i : Nat} (hi : i < 60) (h : inX X i = false) : ∀ k, k ≤ 60 → sumX val (X + mkA i) k = sumX val X k + if i < k then val i else 0 := by
  have hb : ∀ j, j < 60 → inX (X + mkA i) j = (inX X j || decide (j = i)) := by
    intro j hj
    unfold inX mkA
    rw [add_bit h, Nat.testBit_or, Nat.testBit_two_pow]
    congr 1
    rw [decide_eq_decide]
    omega
  intro k
  induction k with
  | zero => intro _; rfl
  | succ k ih =>
    intro hk
    unfold sumX
    rw [ih (by omega), hb k (by omega)]
    by_cases c : k = i
    · subst c
      rw [h]
      simp
    · have d : decide (k = i) = false := decide_eq_false c
      rw [d, Bool.or_false]
      by_cases e : i < k
      · rw [if_pos e, if_pos (show i < k + 1 by omega), Int.add_right_comm]
      · rw [if_neg e, if_neg (show ¬ i < k + 1 by omega), Int.add_zero, Int.add_zero]
theorem inX_add {X i : Nat} (hi : i < 60) (h : inX X i = false) {j : Nat} (hj : j < 60) : inX (X + mkA i) j = (inX X j || decide (j = i)) := by
  unfold inX mkA
  rw [add_bit h, Nat.testBit_or, Nat.testBit_two_pow]
  congr 1
  rw [decide_eq_decide]
  omega
theorem inX_dif {X i j : Nat} (hi : i < 60) (hj : j < 60) : inX (dif X (mkA i)) j = (inX X j && !decide (j = i)) := by
  unfold inX mkA
  rw [dif_bit, Nat.testBit_two_pow]
  congr 2
  rw [decide_eq_decide]
  omega
theorem setX_ext {X Y : Nat} (hX : X < 2 ^ 60) (hY : Y < 2 ^ 60) (h : ∀ i, i < 60 → inX X i = inX Y i) : X = Y := by
  apply Nat.eq_of_testBit_eq
  intro j
  rcases Nat.lt_or_ge j 60 with c | c
  · have := h (59 - j) (by omega)
    unfold inX at this
    rw [show 59 - (59 - j) = j by omega] at this
    exact this
  · rw [Nat.testBit_lt_two_pow (Nat.lt_of_lt_of_le hX (Nat.pow_le_pow_right (by decide) c)), Nat.testBit_lt_two_pow (Nat.lt_of_lt_of_le hY (Nat.pow_le_pow_right (by decide) c))]
