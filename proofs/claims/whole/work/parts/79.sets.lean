/-! ===== sets of arcs: order, ends and beginnings, unions ===== -/
theorem mod_low {X j : Nat} (h : X.testBit j = false) : X % 2 ^ (j + 1) < 2 ^ j := by
  rcases Nat.lt_or_ge (X % 2 ^ (j + 1)) (2 ^ j) with c | c
  · exact c
  · exfalso
    have h3 : X % 2 ^ (j + 1) < 2 ^ (j + 1) := Nat.mod_lt _ (Nat.two_pow_pos _)
    have h2 : (X % 2 ^ (j + 1)).testBit j = true := by
      rw [bit_dm, Nat.div_eq_of_lt_le (k := 1) (by omega) (by rw [Nat.pow_succ] at h3; omega)]
      rfl
    rw [Nat.testBit_mod_two_pow] at h2
    simp [h] at h2
theorem mod_high {X j : Nat} (h : X.testBit j = true) : 2 ^ j ≤ X % 2 ^ (j + 1) := by
  rcases Nat.lt_or_ge (X % 2 ^ (j + 1)) (2 ^ j) with c | c
  · exfalso
    have h2 : (X % 2 ^ (j + 1)).testBit j = false := Nat.testBit_lt_two_pow c
    rw [Nat.testBit_mod_two_pow] at h2
    simp [h] at h2
  · exact c
theorem lt_bits {X Y j : Nat} (h : ∀ i, j < i → X.testBit i = Y.testBit i) (hx : X.testBit j = false) (hy : Y.testBit j = true) : X < Y := by
  have q : X / 2 ^ (j + 1) = Y / 2 ^ (j + 1) := by
    apply Nat.eq_of_testBit_eq
    intro i
    rw [Nat.testBit_div_two_pow, Nat.testBit_div_two_pow]
    exact h _ (by omega)
  have e1 := Nat.div_add_mod X (2 ^ (j + 1))
  have e2 := Nat.div_add_mod Y (2 ^ (j + 1))
  have m1 := mod_low hx
  have m2 := mod_high hy
  rw [q] at e1
  omega
/-- a set that has the least arc by which it differs from another one is the greater -/
theorem first_lt {X Y k : Nat} (hX : X < 2 ^ 60) (hY : Y < 2 ^ 60) (hk : k < 60) (h : ∀ i, i < k → inX X i = true → inX Y i = true) (hx : inX X k = false) (hy : inX Y k = true) : X < Y := by
  obtain ⟨l, ⟨l1, l2, l3⟩, l4⟩ := pk_least (fun i => i < 60 ∧ inX X i = false ∧ inX Y i = true) ⟨k, hk, hx, hy⟩
  have hlk : l ≤ k := by
    rcases Nat.lt_or_ge k l with c | c
    · exact absurd ⟨hk, hx, hy⟩ (l4 k c)
    · exact c
  refine lt_bits (j := 59 - l) (fun i hi => ?_) l2 l3
  rcases Nat.lt_or_ge i 60 with c | c
  · have hs := l4 (59 - i) (by omega)
    have h1 := h (59 - i) (by omega)
    unfold inX at hs h1
    rw [show 59 - (59 - i) = i by omega] at hs h1
    cases a : X.testBit i with
    | true => rw [h1 a]
    | false =>
      cases b : Y.testBit i with
      | false => rfl
      | true => exact absurd ⟨by omega, a, b⟩ hs
  · rw [Nat.testBit_lt_two_pow (Nat.lt_of_lt_of_le hX (Nat.pow_le_pow_right (by decide) c)), Nat.testBit_lt_two_pow (Nat.lt_of_lt_of_le hY (Nat.pow_le_pow_right (by decide) c))]
/-- the arcs of a set from k on -/
def tailX (X k : Nat) : Nat := X % 2 ^ (60 - k)
theorem inX_tail {X k i : Nat} (hi : i < 60) (hk : k ≤ 60) : inX (tailX X k) i = (inX X i && decide (k ≤ i)) := by
  unfold inX tailX
  rw [Nat.testBit_mod_two_pow, Bool.and_comm]
  congr 1
  rw [decide_eq_decide]
  omega
theorem tailX_lt {X k : Nat} (hX : X < 2 ^ 60) : tailX X k < 2 ^ 60 := Nat.lt_of_le_of_lt (Nat.mod_le _ _) hX
theorem sumX_tail {val : Nat → Int} {X k : Nat} (hk : k ≤ 60) : ∀ m, m ≤ 60 → sumX val (tailX X k) m = if m ≤ k then 0 else sumX val X m - sumX val X k := by
  intro m
  induction m with
  | zero => intro _; rw [if_pos (Nat.zero_le _)]; rfl
  | succ m ih =>
    intro hm
    have e1 : sumX val (tailX X k) (m + 1) = sumX val (tailX X k) m + if inX (tailX X k) m = true then val m else 0 := rfl
    have e2 : sumX val X (m + 1) = sumX val X m + if inX X m = true then val m else 0 := rfl
    rw [e1, ih (by omega), inX_tail (by omega) hk]
    by_cases c : m + 1 ≤ k
    · rw [if_pos c, if_pos (by omega), decide_eq_false (show ¬ k ≤ m by omega)]
      simp
    · rw [if_neg c, e2, decide_eq_true (show k ≤ m by omega), Bool.and_true]
      by_cases d : m ≤ k
      · have : m = k := by omega
        subst this
        rw [if_pos d]; omega
      · rw [if_neg d]; omega
theorem inX_or {X Y i : Nat} : inX (X ||| Y) i = (inX X i || inX Y i) := by
  unfold inX; rw [Nat.testBit_or]
theorem sumX_or {val : Nat → Int} {X Y : Nat} : ∀ m, (∀ i, i < m → ¬ (inX X i = true ∧ inX Y i = true)) → sumX val (X ||| Y) m = sumX val X m + sumX val Y m := by
  intro m
  induction m with
  | zero => intro _; rfl
  | succ m ih =>
    intro h
    have e1 : ∀ Z, sumX val Z (m + 1) = sumX val Z m + if inX Z m = true then val m else 0 := fun _ => rfl
    rw [e1, e1, e1, ih (fun i hi => h i (by omega)), inX_or]
    have := h m (by omega)
    cases a : inX X m <;> cases b : inX Y m
    · simp
    · simp; omega
    · simp; omega
    · exact absurd ⟨a, b⟩ this
