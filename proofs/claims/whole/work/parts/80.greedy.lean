/-! ===== the greedy choice: arc k is taken just if it is in the first of the best ===== -/
def IsV (G : Gr) (way X : Nat) : Prop := Mt G (allN G) X ∧ (1 < way → Pf G (allN G) X) ∧ ∀ Y, Mt G (allN G) Y → (1 < way → Pf G (allN G) Y) → sumX (fun i => vm way (wt G i)) Y 60 < sumX (fun i => vm way (wt G i)) X 60 ∨ (sumX (fun i => vm way (wt G i)) Y 60 = sumX (fun i => vm way (wt G i)) X 60 ∧ Y ≤ X)
/-- L is what the arcs of X below k leave -/
def LeftOf (G : Gr) (X k L : Nat) : Prop := ∀ v, L.testBit v = true ↔ (v < nd G ∧ ∀ i, i < k → inX X i = true → fr G i ≠ v ∧ tt G i ≠ v)
theorem tail_mt {G : Gr} {way X k L : Nat} (hX : IsV G way X) (hk : k ≤ 60) (hL : LeftOf G X k L) : Mt G L (tailX X k) ∧ (1 < way → Pf G L (tailX X k)) := by
  obtain ⟨⟨a1, a2, a3⟩, a4, -⟩ := hX
  refine ⟨⟨tailX_lt a1, fun i hi hx => ?_, fun i j hi hj hx hy hne => ?_⟩, fun hp v hv => ?_⟩
  · rw [inX_tail hi hk] at hx
    simp at hx
    obtain ⟨b1, b2, b3, b4⟩ := a2 i hi hx.1
    rw [allN_bit] at b3 b4
    refine ⟨b1, b2, (hL _).mpr ⟨of_decide_eq_true b3, fun l hl hlx => ?_⟩, (hL _).mpr ⟨of_decide_eq_true b4, fun l hl hlx => ?_⟩⟩
    · obtain ⟨c1, -, c3, -⟩ := a3 l i (by omega) hi hlx hx.1 (by omega); exact ⟨c1, c3⟩
    · obtain ⟨-, c2, -, c4⟩ := a3 l i (by omega) hi hlx hx.1 (by omega); exact ⟨c2, c4⟩
  · rw [inX_tail hi hk] at hx
    rw [inX_tail hj hk] at hy
    simp at hx hy
    exact a3 i j hi hj hx.1 hy.1 hne
  · obtain ⟨v1, v2⟩ := (hL v).mp hv
    obtain ⟨i, i1, i2, i3⟩ := a4 hp v (by rw [allN_bit]; exact decide_eq_true v1)
    refine ⟨i, i1, ?_, i3⟩
    rw [inX_tail i1 hk, i2]
    have : k ≤ i := by
      rcases Nat.lt_or_ge i k with c | c
      · obtain ⟨x, y⟩ := v2 i c i2
        rcases i3 with z | z
        · exact absurd z x
        · exact absurd z y
      · exact c
    simp [this]
def headX (X k : Nat) : Nat := dif X (tailX X k)
theorem inX_head {X k i : Nat} (hi : i < 60) (hk : k ≤ 60) : inX (headX X k) i = (inX X i && decide (i < k)) := by
  have h : inX (headX X k) i = (inX X i && !inX (tailX X k) i) := by unfold inX headX; rw [dif_bit]
  rw [h, inX_tail hi hk]
  by_cases c : i < k
  · rw [decide_eq_true c, decide_eq_false (show ¬ k ≤ i by omega)]; simp
  · rw [decide_eq_false c, decide_eq_true (show k ≤ i by omega)]; cases inX X i <;> rfl
theorem sumX_head {val : Nat → Int} {X k : Nat} (hk : k ≤ 60) : sumX val (headX X k) 60 = sumX val X k := by
  have : ∀ m, m ≤ 60 → sumX val (headX X k) m = if m ≤ k then sumX val X m else sumX val X k := by
    intro m
    induction m with
    | zero => intro _; rw [if_pos (Nat.zero_le _)]; rfl
    | succ m ih =>
      intro hm
      have e1 : ∀ Z, sumX val Z (m + 1) = sumX val Z m + if inX Z m = true then val m else 0 := fun _ => rfl
      rw [e1, ih (by omega), inX_head (by omega) hk]
      by_cases c : m + 1 ≤ k
      · rw [if_pos c, if_pos (by omega), e1, decide_eq_true (show m < k by omega), Bool.and_true]
      · rw [if_neg c, decide_eq_false (show ¬ m < k by omega), Bool.and_false]
        by_cases d : m ≤ k
        · have : m = k := by omega
          subst this
          rw [if_pos d]; simp
        · rw [if_neg d]; simp
  rw [this 60 (Nat.le_refl _)]
  by_cases c : 60 ≤ k
  · have : k = 60 := by omega
    rw [if_pos c, this]
  · rw [if_neg c]
theorem ext_mt {G : Gr} {way X k L Z : Nat} (hX : IsV G way X) (hk : k ≤ 60) (hL : LeftOf G X k L) (hZ : Mt G L Z) (hP : 1 < way → Pf G L Z) :
    Mt G (allN G) (headX X k ||| Z) ∧ (1 < way → Pf G (allN G) (headX X k ||| Z)) ∧ sumX (fun i => vm way (wt G i)) (headX X k ||| Z) 60 = sumX (fun i => vm way (wt G i)) X k + sumX (fun i => vm way (wt G i)) Z 60 := by
  obtain ⟨⟨a1, a2, a3⟩, a4, -⟩ := hX
  obtain ⟨z1, z2, z3⟩ := hZ
  have apart : ∀ i j, i < 60 → j < 60 → inX (headX X k) i = true → inX Z j = true → fr G i ≠ fr G j ∧ fr G i ≠ tt G j ∧ tt G i ≠ fr G j ∧ tt G i ≠ tt G j := by
    intro i j hi hj hx hz
    rw [inX_head hi hk] at hx
    simp at hx
    obtain ⟨-, -, c3, c4⟩ := z2 j hj hz
    obtain ⟨d1, d2⟩ := ((hL _).mp c3).2 i hx.2 hx.1
    obtain ⟨e1, e2⟩ := ((hL _).mp c4).2 i hx.2 hx.1
    exact ⟨d1, e1, d2, e2⟩
  refine ⟨⟨Nat.or_lt_two_pow (Nat.lt_of_le_of_lt (dif_le _ _) a1) z1, fun i hi hx => ?_, fun i j hi hj hx hy hne => ?_⟩, fun hp v hv => ?_, ?_⟩
  · rw [inX_or] at hx
    rcases Bool.or_eq_true _ _ |>.mp hx with c | c
    · rw [inX_head hi hk] at c
      simp at c
      exact a2 i hi c.1
    · obtain ⟨b1, b2, b3, b4⟩ := z2 i hi c
      exact ⟨b1, b2, by rw [allN_bit]; exact decide_eq_true ((hL _).mp b3).1, by rw [allN_bit]; exact decide_eq_true ((hL _).mp b4).1⟩
  · rw [inX_or] at hx hy
    rcases Bool.or_eq_true _ _ |>.mp hx with c | c <;> rcases Bool.or_eq_true _ _ |>.mp hy with d | d
    · rw [inX_head hi hk] at c
      rw [inX_head hj hk] at d
      simp at c d
      exact a3 i j hi hj c.1 d.1 hne
    · exact apart i j hi hj c d
    · obtain ⟨x1, x2, x3, x4⟩ := apart j i hj hi d c
      exact ⟨x1.symm, x3.symm, x2.symm, x4.symm⟩
    · exact z3 i j hi hj c d hne
  · by_cases c : L.testBit v = true
    · obtain ⟨i, i1, i2, i3⟩ := hP hp v c
      exact ⟨i, i1, by rw [inX_or, i2, Bool.or_true], i3⟩
    · obtain ⟨i, i1, i2, i3⟩ := a4 hp v hv
      have hv' : v < nd G := by rw [allN_bit] at hv; exact of_decide_eq_true hv
      -- v is left out of L, so an arc below k covers it
      have : ∃ l, l < k ∧ inX X l = true ∧ (fr G l = v ∨ tt G l = v) := by
        apply Classical.byContradiction
        intro hno
        apply c
        refine (hL v).mpr ⟨hv', fun l hl hlx => ⟨fun x => hno ⟨l, hl, hlx, Or.inl x⟩, fun x => hno ⟨l, hl, hlx, Or.inr x⟩⟩⟩
      obtain ⟨l, l1, l2, l3⟩ := this
      refine ⟨l, by omega, ?_, l3⟩
      rw [inX_or, inX_head (by omega) hk, l2, decide_eq_true l1]
      rfl
  · rw [sumX_or 60 (fun i hi h => (apart i i hi hi h.1 h.2).1 rfl), sumX_head hk]
/-- what is left has the rest of the value -/
theorem need_eq {G : Gr} {way X k L : Nat} (hX : IsV G way X) (hk : k ≤ 60) (hL : LeftOf G X k L) {b : Int32} (hb : Mb G way L b) : b ≠ -1000000000 ∧ b.toInt = sumX (fun i => vm way (wt G i)) X 60 - sumX (fun i => vm way (wt G i)) X k := by
  obtain ⟨t1, t2⟩ := tail_mt hX hk hL
  have ht := sumX_tail (val := fun i => vm way (wt G i)) (X := X) hk 60 (Nat.le_refl _)
  rcases hb with ⟨-, h⟩ | ⟨h1, h2, ⟨Z, z1, z2, z3⟩, h4⟩
  · exact absurd (h _ t1 t2) (fun x => x)
  · refine ⟨fun h => by rw [h, m9] at h1; omega, ?_⟩
    obtain ⟨e1, e2, e3⟩ := ext_mt hX hk hL z1 z2
    have hle := hX.2.2 _ e1 e2
    have hge := h4 _ t1 t2
    rw [e3, z3] at hle
    rw [ht] at hge
    by_cases c : 60 ≤ k
    · have : k = 60 := by omega
      subst this
      rw [if_pos c] at hge
      omega
    · rw [if_neg c] at hge
      omega
