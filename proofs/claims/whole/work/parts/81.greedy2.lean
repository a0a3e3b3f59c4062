theorem left_out {G : Gr} {X k L : Nat} (h : inX X k = false) (hL : LeftOf G X k L) : LeftOf G X (k + 1) L := by
  intro v
  rw [hL v]
  constructor
  · rintro ⟨h1, h2⟩
    refine ⟨h1, fun i hi hx => ?_⟩
    by_cases c : i = k
    · rw [c, h] at hx; cases hx
    · exact h2 i (by omega) hx
  · rintro ⟨h1, h2⟩
    exact ⟨h1, fun i hi hx => h2 i (by omega) hx⟩
theorem left_in {G : Gr} {X k L : Nat} (h : inX X k = true) (hL : LeftOf G X k L) : LeftOf G X (k + 1) (dif L (2 ^ fr G k ||| 2 ^ tt G k)) := by
  intro v
  rw [dif_bit, Nat.testBit_or, Nat.testBit_two_pow, Nat.testBit_two_pow]
  simp only [Bool.and_eq_true, Bool.not_eq_true', Bool.or_eq_false_iff, decide_eq_false_iff_not]
  rw [hL v]
  constructor
  · rintro ⟨⟨h1, h2⟩, h3, h4⟩
    refine ⟨h1, fun i hi hx => ?_⟩
    by_cases c : i = k
    · rw [c]; exact ⟨h3, h4⟩
    · exact h2 i (by omega) hx
  · rintro ⟨h1, h2⟩
    obtain ⟨x, y⟩ := h2 k (by omega) h
    exact ⟨⟨h1, fun i hi hx => h2 i (by omega) hx⟩, x, y⟩
theorem in_left {G : Gr} {way X k L : Nat} (hX : IsV G way X) (hk : k < 60) (hL : LeftOf G X k L) (h : inX X k = true) : k < md G ∧ al G k = true ∧ L.testBit (fr G k) = true ∧ L.testBit (tt G k) = true := by
  obtain ⟨⟨a1, a2, a3⟩, -, -⟩ := hX
  obtain ⟨b1, b2, b3, b4⟩ := a2 k hk h
  rw [allN_bit] at b3 b4
  refine ⟨b1, b2, (hL _).mpr ⟨of_decide_eq_true b3, fun i hi hx => ?_⟩, (hL _).mpr ⟨of_decide_eq_true b4, fun i hi hx => ?_⟩⟩
  · obtain ⟨c1, -, c3, -⟩ := a3 i k (by omega) hk hx h (by omega); exact ⟨c1, c3⟩
  · obtain ⟨-, c2, -, c4⟩ := a3 i k (by omega) hk hx h (by omega); exact ⟨c2, c4⟩
theorem take_iff {G : Gr} (hW : Wf G) {way X k L : Nat} (hX : IsV G way X) (hk : k < md G) (ha : al G k = true) (hL : LeftOf G X k L) (hf : L.testBit (fr G k) = true) (ht : L.testBit (tt G k) = true) {b b' : Int32} (hb : Mb G way L b) (hb' : Mb G way (dif L (2 ^ fr G k ||| 2 ^ tt G k)) b') :
    (b' ≠ -1000000000 ∧ vm way (wt G k) + b'.toInt = b.toInt) ↔ inX X k = true := by
  have h60 := hW.2.1
  have hk60 : k < 60 := by omega
  obtain ⟨n1, n2⟩ := need_eq hX (by omega) hL hb
  have hsum : sumX (fun i => vm way (wt G i)) X (k + 1) = sumX (fun i => vm way (wt G i)) X k + if inX X k = true then vm way (wt G k) else 0 := rfl
  constructor
  · rintro ⟨h1, h2⟩
    rcases hb' with ⟨x, -⟩ | ⟨-, -, ⟨Z, z1, z2, z3⟩, -⟩
    · exact absurd x h1
    · -- Z and arc k
      have hends : ∀ i, i < 60 → inX Z i = true → fr G i ≠ fr G k ∧ fr G i ≠ tt G k ∧ tt G i ≠ fr G k ∧ tt G i ≠ tt G k := by
        intro i hi hx
        obtain ⟨-, -, c3, c4⟩ := z1.2.1 i hi hx
        rw [dif_bit, Nat.testBit_or, Nat.testBit_two_pow, Nat.testBit_two_pow] at c3 c4
        simp only [Bool.and_eq_true, Bool.not_eq_true', Bool.or_eq_false_iff, decide_eq_false_iff_not] at c3 c4
        exact ⟨fun x => c3.2.1 x.symm, fun x => c3.2.2 x.symm, fun x => c4.2.1 x.symm, fun x => c4.2.2 x.symm⟩
      have hnz : inX Z k = false := by
        cases hh : inX Z k with
        | false => rfl
        | true => exact absurd rfl (hends k hk60 hh).1
      have hL2 : ∀ v, (dif L (2 ^ fr G k ||| 2 ^ tt G k)).testBit v = true → L.testBit v = true := fun v hv => by
        rw [dif_bit] at hv; simp at hv; exact hv.1
      have hZ' : Mt G L (Z + mkA k) := by
        refine ⟨?_, fun i hi hx => ?_, fun i j hi hj hx hy hne => ?_⟩
        · have e := add_bit (X := Z) (j := 59 - k) hnz
          show Z + 2 ^ (59 - k) < 2 ^ 60
          rw [e]
          exact Nat.or_lt_two_pow z1.1 mkA_lt
        · rw [inX_add hk60 hnz hi] at hx
          rcases Bool.or_eq_true _ _ |>.mp hx with c | c
          · obtain ⟨c1, c2, c3, c4⟩ := z1.2.1 i hi c
            exact ⟨c1, c2, hL2 _ c3, hL2 _ c4⟩
          · have c := of_decide_eq_true c
            subst c
            exact ⟨hk, ha, hf, ht⟩
        · rw [inX_add hk60 hnz hi] at hx
          rw [inX_add hk60 hnz hj] at hy
          rcases Bool.or_eq_true _ _ |>.mp hx with c | c <;> rcases Bool.or_eq_true _ _ |>.mp hy with d | d
          · exact z1.2.2 i j hi hj c d hne
          · have d := of_decide_eq_true d
            subst d
            exact hends i hi c
          · have c := of_decide_eq_true c
            subst c
            obtain ⟨x1, x2, x3, x4⟩ := hends j hj d
            exact ⟨x1.symm, x3.symm, x2.symm, x4.symm⟩
          · exact absurd ((of_decide_eq_true c).trans (of_decide_eq_true d).symm) hne
      have hP' : 1 < way → Pf G L (Z + mkA k) := by
        intro hp v hv
        by_cases c : v = fr G k ∨ v = tt G k
        · refine ⟨k, hk60, by rw [inX_add hk60 hnz hk60]; simp, ?_⟩
          rcases c with c | c
          · exact Or.inl c.symm
          · exact Or.inr c.symm
        · obtain ⟨i, i1, i2, i3⟩ := z2 hp v (by
            rw [dif_bit, hv, Nat.testBit_or, Nat.testBit_two_pow, Nat.testBit_two_pow]
            have c1 : ¬ fr G k = v := fun x => c (Or.inl x.symm)
            have c2 : ¬ tt G k = v := fun x => c (Or.inr x.symm)
            simp [c1, c2])
          exact ⟨i, i1, by rw [inX_add hk60 hnz i1, i2]; rfl, i3⟩
      have hval : sumX (fun i => vm way (wt G i)) (Z + mkA k) 60 = b'.toInt + vm way (wt G k) := by
        rw [sumX_add hk60 hnz 60 (Nat.le_refl _), if_pos hk60, z3]
      obtain ⟨e1, e2, e3⟩ := ext_mt hX (by omega) hL hZ' hP'
      rw [hval] at e3
      have hle := hX.2.2 _ e1 e2
      rw [e3] at hle
      cases hh : inX X k with
      | true => rfl
      | false =>
        exfalso
        have := first_lt (X := X) (Y := headX X k ||| (Z + mkA k)) hX.1.1 e1.1 hk60 (fun i hi hx => by
          rw [inX_or, inX_head (by omega) (by omega), hx, decide_eq_true hi]; rfl) hh (by
          rw [inX_or, inX_add hk60 hnz hk60]; simp)
        omega
  · intro h
    obtain ⟨m1, m2⟩ := need_eq hX (by omega) (left_in h hL) hb'
    rw [h, if_pos rfl] at hsum
    exact ⟨m1, by omega⟩
/-- among the best there is a first -/
theorem isV_exists {G : Gr} {way : Nat} {b : Int32} (hb : Mb G way (allN G) b) (hne : b ≠ -1000000000) : ∃ X, IsV G way X := by
  rcases hb with ⟨x, -⟩ | ⟨-, -, ⟨Z, z1, z2, z3⟩, h4⟩
  · exact absurd x hne
  · obtain ⟨d, ⟨X, x1, x2, x3, x4⟩, hmin⟩ := pk_least (fun d => ∃ X, Mt G (allN G) X ∧ (1 < way → Pf G (allN G) X) ∧ sumX (fun i => vm way (wt G i)) X 60 = b.toInt ∧ X + d = 2 ^ 60) ⟨2 ^ 60 - Z, Z, z1, z2, z3, by have := z1.1; omega⟩
    refine ⟨X, x1, x2, fun Y y1 y2 => ?_⟩
    have hv := h4 Y y1 y2
    rw [x3]
    by_cases c : sumX (fun i => vm way (wt G i)) Y 60 = b.toInt
    · right
      refine ⟨c, ?_⟩
      rcases Nat.lt_or_ge X Y with e | e
      · exact absurd ⟨Y, y1, y2, c, by have := y1.1; omega⟩ (hmin (2 ^ 60 - Y) (by have := y1.1; omega))
      · exact e
    · left; omega
