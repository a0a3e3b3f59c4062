/-! ===== masks as Nat ===== -/
def dif (a b : Nat) : Nat := a ^^^ (a &&& b)
theorem dif_bit (a b i : Nat) : (dif a b).testBit i = (a.testBit i && !b.testBit i) := by
  unfold dif
  rw [Nat.testBit_xor, Nat.testBit_and]
  cases a.testBit i <;> cases b.testBit i <;> rfl
theorem dif_le (a b : Nat) : dif a b ≤ a := by
  have h : dif a b = a &&& dif a b := by
    apply Nat.eq_of_testBit_eq
    intro i
    rw [Nat.testBit_and, dif_bit]
    cases a.testBit i <;> cases b.testBit i <;> rfl
  rw [h]
  exact Nat.and_le_left
theorem nI_or (a b : Nat) : nI a ||| nI b = nI (a ||| b) := by
  apply Int32.toBitVec_inj.1
  show BitVec.ofNat 32 a ||| BitVec.ofNat 32 b = BitVec.ofNat 32 (a ||| b)
  apply BitVec.eq_of_getLsbD_eq
  intro i hi
  simp [hi]
theorem ones32 (i : Nat) (hi : i < 32) : (BitVec.ofInt 32 (-1)).getLsbD i = true := by
  have h : BitVec.ofInt 32 (-1) = BitVec.allOnes 32 := by decide
  rw [h, BitVec.getLsbD_allOnes]
  simp [hi]
theorem nI_dif (a b : Nat) : nI a &&& (nI b ^^^ (-1)) = nI (dif a b) := by
  apply Int32.toBitVec_inj.1
  show BitVec.ofNat 32 a &&& (BitVec.ofNat 32 b ^^^ BitVec.ofInt 32 (-1)) = BitVec.ofNat 32 (dif a b)
  apply BitVec.eq_of_getLsbD_eq
  intro i hi
  rw [BitVec.getLsbD_and, BitVec.getLsbD_xor, ones32 i hi, BitVec.getLsbD_ofNat, BitVec.getLsbD_ofNat, BitVec.getLsbD_ofNat, dif_bit]
  simp [hi]
theorem shl_nI {j : Nat} (hj : j < 31) : (1 : Int32) <<< (nI j &&& 31) = nI (2 ^ j) := (by decide +kernel : ∀ j, j < 31 → (1 : Int32) <<< (nI j &&& 31) = nI (2 ^ j)) j hj
theorem shr_nI {a j : Nat} (ha : a < 2 ^ 31) (hj : j < 31) : nI a >>> (nI j &&& 31) = nI (a / 2 ^ j) := pk_shrN ha _ j (s_l j (by omega))
theorem and1_nI (a : Nat) (ha : a < 2 ^ 32) : nI a &&& 1 = nI (a % 2) := pk_andN ha 1 rfl
theorem nI_lt31 {a b : Nat} (ha : a < 2 ^ 31) (hb : b < 2 ^ 31) : nI a = nI b ↔ a = b := nI_eq ha hb
theorem bit_dm (a j : Nat) : a.testBit j = decide (a / 2 ^ j % 2 = 1) := Nat.testBit_eq_decide_div_mod_eq
theorem has_nI {a j : Nat} (ha : a < 2 ^ 31) (hj : j < 31) : f_X11_has (nI a) (nI j) = if a.testBit j then 1 else 0 := by
  unfold f_X11_has
  have h1 : a / 2 ^ j < 2 ^ 31 := Nat.lt_of_le_of_lt (Nat.div_le_self _ _) ha
  rw [shr_nI ha hj, and1_nI _ (by omega), bit_dm]
  have h2 : a / 2 ^ j % 2 = 0 ∨ a / 2 ^ j % 2 = 1 := by omega
  rcases h2 with h | h <;> rw [h] <;> rfl
/-! the least node of a mask -/
def low : Nat → Nat → Nat
  | 0, _ => 0
  | k + 1, s => if s % 2 = 1 then 0 else low k (s / 2) + 1
theorem low_spec : ∀ {k s : Nat}, 0 < s → s < 2 ^ k → ∃ q, s = 2 ^ (low k s) * (2 * q + 1) ∧ low k s < k := by
  intro k
  induction k with
  | zero => intro s h0 h; rw [Nat.pow_zero] at h; omega
  | succ k ih =>
    intro s h0 h
    unfold low
    by_cases c : s % 2 = 1
    · rw [if_pos c]; exact ⟨s / 2, by rw [Nat.pow_zero]; omega, by omega⟩
    · rw [if_neg c]
      obtain ⟨q, hq, hl⟩ := ih (s := s / 2) (by omega) (by rw [Nat.pow_succ] at h; omega)
      refine ⟨q, ?_, by omega⟩
      rw [Nat.pow_succ, Nat.mul_assoc, Nat.mul_left_comm, ← hq]
      omega
theorem bit_mul (l q i : Nat) : (2 ^ l * (2 * q + 1)).testBit i = if i < l then false else (2 * q + 1).testBit (i - l) := by
  have h := Nat.testBit_two_pow_mul_add (2 * q + 1) (b := 0) (i := l) (Nat.two_pow_pos l) i
  rw [Nat.add_zero] at h
  rw [h]
  simp
theorem bit_pred (l q i : Nat) : (2 ^ l * (2 * q + 1) - 1).testBit i = if i < l then true else if i = l then false else (2 * q + 1).testBit (i - l) := by
  have hp : 0 < 2 ^ l := Nat.two_pow_pos l
  have e : 2 ^ l * (2 * q + 1) - 1 = 2 ^ l * (2 * q) + (2 ^ l - 1) := by rw [Nat.mul_add, Nat.mul_one]; omega
  rw [e, Nat.testBit_two_pow_mul_add (2 * q) (b := 2 ^ l - 1) (i := l) (by omega) i]
  by_cases c : i < l
  · rw [if_pos c, if_pos c, Nat.testBit_two_pow_sub_one]; simp [c]
  · rw [if_neg c, if_neg c]
    by_cases d : i = l
    · rw [if_pos d, d, Nat.sub_self, Nat.testBit_zero]; simp
    · rw [if_neg d]
      obtain ⟨j, hj⟩ : ∃ j, i - l = j + 1 := ⟨i - l - 1, by omega⟩
      rw [hj, Nat.testBit_succ, Nat.testBit_succ]
      congr 1
      omega
theorem low_bit {k s : Nat} (h0 : 0 < s) (h : s < 2 ^ k) : s.testBit (low k s) = true := by
  obtain ⟨q, hq, hl⟩ := low_spec h0 h
  have e := bit_mul (low k s) q (low k s)
  rw [← hq, if_neg (Nat.lt_irrefl _), Nat.sub_self, Nat.testBit_zero] at e
  rw [e]
  simp
theorem low_lt {k s : Nat} (h0 : 0 < s) (h : s < 2 ^ k) : low k s < k := (low_spec h0 h).choose_spec.2
theorem low_min {k s i : Nat} (h0 : 0 < s) (h : s < 2 ^ k) (hi : i < low k s) : s.testBit i = false := by
  obtain ⟨q, hq, hl⟩ := low_spec h0 h
  have e := bit_mul (low k s) q i
  rw [← hq, if_pos hi] at e
  exact e
theorem rest_eq {k s : Nat} (h0 : 0 < s) (h : s < 2 ^ k) : s &&& (s - 1) = dif s (2 ^ low k s) := by
  obtain ⟨q, hq, hl⟩ := low_spec h0 h
  apply Nat.eq_of_testBit_eq
  intro i
  have e1 := bit_mul (low k s) q i
  have e2 := bit_pred (low k s) q i
  rw [← hq] at e1 e2
  rw [Nat.testBit_and, dif_bit, e1, e2, Nat.testBit_two_pow]
  by_cases c : i < low k s
  · simp [c]
  · by_cases d : i = low k s
    · simp [d]
    · have d' : ¬ low k s = i := fun x => d x.symm
      simp [c, d, d']
theorem neg_low {k s : Nat} (hk : k ≤ 31) (h0 : 0 < s) (h : s < 2 ^ k) : nI s &&& (-(nI s)) = nI (2 ^ low k s) := by
  obtain ⟨q, hq, hl⟩ := low_spec h0 h
  have hs : s < 2 ^ 31 := Nat.lt_of_lt_of_le h (Nat.pow_le_pow_right (by decide) hk)
  have hn : -(nI s) = nI (2 ^ 32 - (s - 1 + 1)) := by
    apply Int32.toBitVec_inj.1
    show -(BitVec.ofNat 32 s) = BitVec.ofNat 32 _
    apply BitVec.eq_of_toNat_eq
    rw [BitVec.toNat_neg, BitVec.toNat_ofNat, BitVec.toNat_ofNat]
    have : s % 2 ^ 32 = s := Nat.mod_eq_of_lt (by omega)
    rw [this]
    congr 1
    omega
  rw [hn, nx_and]
  congr 1
  apply Nat.eq_of_testBit_eq
  intro i
  have e1 := bit_mul (low k s) q i
  have e2 := bit_pred (low k s) q i
  rw [← hq] at e1 e2
  rw [Nat.testBit_and, Nat.testBit_two_pow_sub_succ (by omega), e1, e2, Nat.testBit_two_pow]
  by_cases c : i < low k s
  · have d' : ¬ low k s = i := by omega
    simp [c, d']
  · by_cases d : i = low k s
    · subst d
      have : low k s < 32 := by omega
      simp [this]
    · have d' : ¬ low k s = i := fun x => d x.symm
      simp [c, d, d']
      exact fun h _ => h
theorem bc_low : ∀ j, j < 16 → f_J6_bitCount_0f7a4 (nI (2 ^ j) - 1) = nI j := by decide +kernel
theorem least_nI {s : Nat} (h0 : 0 < s) (h : s < 65536) : f_X11_leastNode (nI s) = nI (low 16 s) := by
  unfold f_X11_leastNode
  rw [neg_low (k := 16) (by decide) h0 h]
  exact bc_low _ (low_lt (k := 16) h0 h)
theorem rest_nI {s : Nat} (h0 : 0 < s) (h : s < 65536) : nI s &&& (nI s - 1) = nI (dif s (2 ^ low 16 s)) := by
  have e : nI s - 1 = nI (s - 1) := by
    obtain ⟨t, rfl⟩ : ∃ t, s = t + 1 := ⟨s - 1, by omega⟩
    exact nI_pred t
  rw [e, nx_and, rest_eq (k := 16) h0 h]
theorem rest_lt {s : Nat} (h0 : 0 < s) (h : s < 65536) : dif s (2 ^ low 16 s) < s := by
  rcases Nat.lt_or_ge (dif s (2 ^ low 16 s)) s with c | c
  · exact c
  · have e : dif s (2 ^ low 16 s) = s := Nat.le_antisymm (dif_le _ _) c
    have b := low_bit (k := 16) h0 h
    have b2 := dif_bit s (2 ^ low 16 s) (low 16 s)
    rw [e, b, Nat.testBit_two_pow_self] at b2
    cases b2
