/-! ===== how many arcs, which weight, which arc at a node ===== -/
def cX (X : Nat) : Nat → Nat
  | 0 => 0
  | k + 1 => cX X k + if inX X k = true then 1 else 0
def wX (G : Gr) (X : Nat) : Nat → Nat
  | 0 => 0
  | k + 1 => wX G X k + if inX X k = true then wt G k else 0
theorem cX_s (X k : Nat) : cX X (k + 1) = cX X k + if inX X k = true then 1 else 0 := rfl
theorem wX_s (G : Gr) (X k : Nat) : wX G X (k + 1) = wX G X k + if inX X k = true then wt G k else 0 := rfl
theorem cX_le (X : Nat) : ∀ k, cX X k ≤ k := by
  intro k
  induction k with
  | zero => exact Nat.le_refl 0
  | succ k ih => rw [cX_s]; split <;> omega
theorem wX_le {G : Gr} (hW : Wf G) {X : Nat} : ∀ k, k ≤ md G → wX G X k ≤ 1000 * k := by
  intro k
  induction k with
  | zero => intro _; exact Nat.le_refl 0
  | succ k ih =>
    intro hk
    have := ih (by omega)
    have := (hW.2.2 k (by omega)).2.2.2
    rw [wX_s]
    split <;> omega
/-- the reference's row of mates behind the first k arcs -/
def MM (G : Gr) (X k way : Nat) (mates : Nat → Int32) : Prop := ∀ v, v < 16 → (∃ i, i < k ∧ inX X i = true ∧ (fr G i = v ∨ tt G i = v) ∧ mates (way * 16 + v) = nI i) ∨ ((∀ i, i < k → inX X i = true → fr G i ≠ v ∧ tt G i ≠ v) ∧ mates (way * 16 + v) = -1)
theorem bothM {G : Gr} (hW : Wf G) {k : Nat} (hk : k < md G) : ((1 : Int32) <<< (nI (fr G k) &&& 31)) ||| ((1 : Int32) <<< (nI (tt G k) &&& 31)) = nI (2 ^ fr G k ||| 2 ^ tt G k) := by
  obtain ⟨w1, w2, -, -⟩ := hW.2.2 k hk
  have := hW.1
  rw [shl_nI (by omega), shl_nI (by omega), nI_or]
theorem both_lt {G : Gr} (hW : Wf G) {k : Nat} (hk : k < md G) : 0 < (2 ^ fr G k ||| 2 ^ tt G k) ∧ (2 ^ fr G k ||| 2 ^ tt G k) < 65536 := by
  obtain ⟨w1, w2, -, -⟩ := hW.2.2 k hk
  have h16 := hW.1
  have hp : ∀ j, j < 16 → 2 ^ j < 2 ^ 16 := fun j hj => Nat.pow_lt_pow_right (by decide) hj
  refine ⟨?_, Nat.or_lt_two_pow (n := 16) (hp _ (by omega)) (hp _ (by omega))⟩
  rcases Nat.eq_zero_or_pos (2 ^ fr G k ||| 2 ^ tt G k) with c | c
  · have := congrArg (fun x => x.testBit (fr G k)) c
    simp [Nat.testBit_or, Nat.testBit_two_pow_self] at this
  · exact c
theorem sub_both {G : Gr} {k L : Nat} : L &&& (2 ^ fr G k ||| 2 ^ tt G k) = (2 ^ fr G k ||| 2 ^ tt G k) ↔ L.testBit (fr G k) = true ∧ L.testBit (tt G k) = true := by
  constructor
  · intro h
    have h1 := congrArg (fun x => x.testBit (fr G k)) h
    have h2 := congrArg (fun x => x.testBit (tt G k)) h
    simp [Nat.testBit_and, Nat.testBit_or, Nat.testBit_two_pow_self] at h1 h2
    exact ⟨h1, h2⟩
  · rintro ⟨h1, h2⟩
    apply Nat.eq_of_testBit_eq
    intro i
    rw [Nat.testBit_and, Nat.testBit_or, Nat.testBit_two_pow, Nat.testBit_two_pow]
    by_cases c : fr G k = i
    · subst c; simp [h1]
    · by_cases d : tt G k = i
      · subst d; simp [h2]
      · simp [c, d]
