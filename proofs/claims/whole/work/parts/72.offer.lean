/-! ===== Arrays.fill, the offers of a way ===== -/
theorem fillI_L {v : Int32} {n : Nat} (hn : n < 2 ^ 31) {kk : (Nat → Int32) → Option (Nat → Int32)} : ∀ (k m j : Nat) (f : Nat → Int32), j + k = n → k < m → ∃ f', f_J7_fill_53178_L5 n v kk m (nI j) f = kk f' ∧ (∀ i, j ≤ i → i < n → f' i = v) ∧ ∀ i, (i < j ∨ n ≤ i) → f' i = f i := by
  intro k
  induction k with
  | zero =>
    intro m j f e1 hm
    obtain ⟨m, rfl⟩ : ∃ k, m = k + 1 := ⟨m - 1, by omega⟩
    refine ⟨f, ?_, fun i h1 h2 => by omega, fun _ _ => rfl⟩
    unfold f_J7_fill_53178_L5
    rw [if_pos (show Int32.ofNat n ≤ nI j from (nI_leI hn (by omega)).mpr (by omega))]
  | succ k ih =>
    intro m j f e1 hm
    obtain ⟨m, rfl⟩ : ∃ k, m = k + 1 := ⟨m - 1, by omega⟩
    obtain ⟨f', h1, h2, h3⟩ := ih m (j + 1) (va_up f j v) (by omega) (by omega)
    refine ⟨f', ?_, fun i h4 h5 => ?_, fun i h4 => ?_⟩
    · unfold f_J7_fill_53178_L5
      rw [if_neg (show ¬ Int32.ofNat n ≤ nI j from fun h => by have := (nI_leI hn (by omega)).mp h; omega), wr_nI (by omega) hn, nI_1]
      exact h1
    · by_cases c : i = j
      · rw [c, h3 j (Or.inl (by omega)), up_s]
      · exact h2 i (by omega) h5
    · rw [h3 i (by omega), up_n (by omega)]
theorem fillI {F : Nat} (v : Int32) {n : Nat} (hn : n < 2 ^ 31) (hF : n < F) (f : Nat → Int32) : ∃ f', f_J7_fill_53178 F v f n = some f' ∧ ∀ i, i < n → f' i = v := by
  obtain ⟨f', h1, h2, -⟩ := fillI_L (v := v) hn (kk := fun x => some x) n F 0 f (by omega) hF
  refine ⟨f', ?_, fun i hi => h2 i (Nat.zero_le _) hi⟩
  unfold f_J7_fill_53178
  simp only [jn]
  rw [z32, h1]
theorem fillJ_L {v : Int64} {n : Nat} (hn : n < 2 ^ 31) {kk : (Nat → Int64) → Option (Nat → Int64)} : ∀ (k m j : Nat) (f : Nat → Int64), j + k = n → k < m → ∃ f', f_J7_fill_d0a16_L6 n v kk m (nI j) f = kk f' ∧ (∀ i, j ≤ i → i < n → f' i = v) ∧ ∀ i, (i < j ∨ n ≤ i) → f' i = f i := by
  intro k
  induction k with
  | zero =>
    intro m j f e1 hm
    obtain ⟨m, rfl⟩ : ∃ k, m = k + 1 := ⟨m - 1, by omega⟩
    refine ⟨f, ?_, fun i h1 h2 => by omega, fun _ _ => rfl⟩
    unfold f_J7_fill_d0a16_L6
    rw [if_pos (show Int32.ofNat n ≤ nI j from (nI_leI hn (by omega)).mpr (by omega))]
  | succ k ih =>
    intro m j f e1 hm
    obtain ⟨m, rfl⟩ : ∃ k, m = k + 1 := ⟨m - 1, by omega⟩
    obtain ⟨f', h1, h2, h3⟩ := ih m (j + 1) (va_up f j v) (by omega) (by omega)
    refine ⟨f', ?_, fun i h4 h5 => ?_, fun i h4 => ?_⟩
    · unfold f_J7_fill_d0a16_L6
      rw [if_neg (show ¬ Int32.ofNat n ≤ nI j from fun h => by have := (nI_leI hn (by omega)).mp h; omega), wr_nI (by omega) hn, nI_1]
      exact h1
    · by_cases c : i = j
      · rw [c, h3 j (Or.inl (by omega)), up_s]
      · exact h2 i (by omega) h5
    · rw [h3 i (by omega), up_n (by omega)]
theorem fillJ {F : Nat} (v : Int64) {n : Nat} (hn : n < 2 ^ 31) (hF : n < F) (f : Nat → Int64) : ∃ f', f_J7_fill_d0a16 F v f n = some f' ∧ ∀ i, i < n → f' i = v := by
  obtain ⟨f', h1, h2, -⟩ := fillJ_L (v := v) hn (kk := fun x => some x) n F 0 f (by omega) hF
  refine ⟨f', ?_, fun i hi => h2 i (Nat.zero_le _) hi⟩
  unfold f_J7_fill_d0a16
  simp only [jn]
  rw [z32, h1]
/-- the value of an arc by its way (4: the cover) -/
def vw (way : Nat) (w : Nat) : Int := if way = 0 then 1 else if way = 1 then (w : Int) * 16 - 1 else if way = 2 then -(w : Int) else if way = 3 then (w : Int) else -1
theorem gainOf_eq {way w : Nat} (hw : w ≤ 1000) (h : way < 5) : (f_X0_gainOf (nI way) (nI w)).toInt = vw way w := by
  have c : way = 0 ∨ way = 1 ∨ way = 2 ∨ way = 3 ∨ way = 4 := by omega
  rcases c with c | c | c | c | c <;> subst c
  · rfl
  · show (nI w * 16 - 1).toInt = (w : Int) * 16 - 1
    rw [show (16 : Int32) = nI 16 from rfl, pk_mul, show (1 : Int32) = nI 1 from rfl, pk_sub_toInt (by omega) (by omega)]
    omega
  · show (-nI w).toInt = -(w : Int)
    exact sb_negT (by omega)
  · show (nI w).toInt = (w : Int)
    exact nI_toInt (by omega)
  · rfl
theorem vw_bd {way w : Nat} (hw : w ≤ 1000) : -1000 ≤ vw way w ∧ vw way w ≤ 16000 := by
  unfold vw
  split
  · omega
  · split
    · omega
    · split
      · omega
      · split <;> omega
/-- the tables behind the offers of the first k arcs -/
def OT (G : Gr) (val : Nat → Int) (k : Nat) (gain : Nat → Int32) (mark : Nat → Int64) : Prop := ∀ v u, v < 16 → u < 16 →
  ((∀ i, i < k → al G i = true → ¬ Jn G i v u) ∧ gain (v * 16 + u) = -1000000000 ∧ mark (v * 16 + u) = lN 0) ∨
  ∃ j, j < k ∧ al G j = true ∧ Jn G j v u ∧ (gain (v * 16 + u)).toInt = val j ∧ mark (v * 16 + u) = lN (mkA j) ∧ ∀ i, i < k → al G i = true → Jn G i v u → val i < val j ∨ (val i = val j ∧ j ≤ i)
theorem cell_inj {v u a b : Nat} (hu : u < 16) (hb : b < 16) : v * 16 + u = a * 16 + b ↔ v = a ∧ u = b := by omega
theorem offer_step {G : Gr} (hW : Wf G) {val : Nat → Int} (hv : ∀ i, i < md G → -1000000000 < val i) {k : Nat} (hk : k < md G) (ha : al G k = true) {gain : Nat → Int32} {mark : Nat → Int64} (hO : OT G val k gain mark) {gv : Int32} (hg : gv.toInt = val k) :
    ∃ gain' mark', f_X0_offer (nI (fr G k)) (nI (tt G k)) gv (lN (mkA k)) gain mark = some (gain', mark') ∧ OT G val (k + 1) gain' mark' := by
  obtain ⟨w1, w2, w3, -⟩ := hW.2.2 k hk
  have h16 := hW.1
  have hJk : ∀ v u, Jn G k v u ↔ (v = fr G k ∧ u = tt G k) ∨ (v = tt G k ∧ u = fr G k) := by
    intro v u
    constructor
    · rintro (⟨x, y⟩ | ⟨x, y⟩)
      · exact Or.inl ⟨x.symm, y.symm⟩
      · exact Or.inr ⟨y.symm, x.symm⟩
    · rintro (⟨x, y⟩ | ⟨x, y⟩)
      · exact Or.inl ⟨x.symm, y.symm⟩
      · exact Or.inr ⟨y.symm, x.symm⟩
  -- a pair that arc k does not join stays
  have other : ∀ (gain' : Nat → Int32) (mark' : Nat → Int64) (v u : Nat), ¬ Jn G k v u → v < 16 → u < 16 → gain' (v * 16 + u) = gain (v * 16 + u) → mark' (v * 16 + u) = mark (v * 16 + u) →
      (((∀ i, i < k + 1 → al G i = true → ¬ Jn G i v u) ∧ gain' (v * 16 + u) = -1000000000 ∧ mark' (v * 16 + u) = lN 0) ∨ ∃ j, j < k + 1 ∧ al G j = true ∧ Jn G j v u ∧ (gain' (v * 16 + u)).toInt = val j ∧ mark' (v * 16 + u) = lN (mkA j) ∧ ∀ i, i < k + 1 → al G i = true → Jn G i v u → val i < val j ∨ (val i = val j ∧ j ≤ i)) := by
    intro gain' mark' v u hn hv1 hu1 e1 e2
    rw [e1, e2]
    rcases hO v u hv1 hu1 with ⟨a1, a2, a3⟩ | ⟨j, a1, a2, a3, a4, a5, a6⟩
    · refine Or.inl ⟨fun i hi hl hj => ?_, a2, a3⟩
      by_cases c : i = k
      · exact hn (c ▸ hj)
      · exact a1 i (by omega) hl hj
    · refine Or.inr ⟨j, by omega, a2, a3, a4, a5, fun i hi hl hj => ?_⟩
      by_cases c : i = k
      · exact absurd (c ▸ hj) hn
      · exact a6 i (by omega) hl hj
  unfold f_X0_offer
  rw [cell_nI, cell_nI, rd_nI (by omega) (by decide)]
  by_cases c : gv ≤ gain (fr G k * 16 + tt G k)
  · rw [if_pos c]
    refine ⟨gain, mark, rfl, fun v u hv1 hu1 => ?_⟩
    by_cases d : Jn G k v u
    · rw [Int32.le_iff_toInt_le, hg] at c
      have hkv := hv k hk
      -- the arc that stands between the two ends
      rcases hO _ _ (show fr G k < 16 by omega) (show tt G k < 16 by omega) with ⟨-, a2, -⟩ | ⟨j0, b1, b2, b3, b4, -, b6⟩
      · rw [a2, m9] at c; omega
      · rw [b4] at c
        have hJ0 : Jn G j0 v u := by
          rcases (hJk v u).mp d with ⟨x, y⟩ | ⟨x, y⟩
          · rw [x, y]; exact b3
          · rw [x, y]; exact b3.symm
        rcases hO v u hv1 hu1 with ⟨a1, -, -⟩ | ⟨j, a1, a2, a3, a4, a5, a6⟩
        · exact absurd hJ0 (a1 j0 b1 b2)
        · refine Or.inr ⟨j, by omega, a2, a3, a4, a5, fun i hi hl hj => ?_⟩
          by_cases e : i = k
          · subst e
            have := a6 j0 b1 b2 hJ0
            omega
          · exact a6 i (by omega) hl hj
    · exact other gain mark v u d hv1 hu1 rfl rfl
  · rw [if_neg c, wr_nI (by omega) (by decide), wr_nI (by omega) (by decide), wr_nI (by omega) (by decide), wr_nI (by omega) (by decide)]
    refine ⟨_, _, rfl, fun v u hv1 hu1 => ?_⟩
    by_cases d : Jn G k v u
    · rw [Int32.le_iff_toInt_le, hg] at c
      refine Or.inr ⟨k, by omega, ha, d, ?_, ?_, fun i hi hl hj => ?_⟩
      · rcases (hJk v u).mp d with ⟨x, y⟩ | ⟨x, y⟩
        · subst x; subst y
          rw [up_n (by omega), up_s]; exact hg
        · subst x; subst y
          rw [up_s]; exact hg
      · rcases (hJk v u).mp d with ⟨x, y⟩ | ⟨x, y⟩
        · subst x; subst y
          rw [up_n (by omega), up_s]
        · subst x; subst y
          rw [up_s]
      · by_cases e : i = k
        · subst e; exact Or.inr ⟨rfl, Nat.le_refl _⟩
        · left
          have hJi : Jn G i (fr G k) (tt G k) := by
            rcases (hJk v u).mp d with ⟨x, y⟩ | ⟨x, y⟩
            · rw [← x, ← y]; exact hj
            · rw [← x, ← y]; exact hj.symm
          rcases hO _ _ (show fr G k < 16 by omega) (show tt G k < 16 by omega) with ⟨a1, -, -⟩ | ⟨j, a1, a2, a3, a4, a5, a6⟩
          · exact absurd hJi (a1 i (by omega) hl)
          · rw [a4] at c
            have := a6 i (by omega) hl hJi
            omega
    · refine other _ _ v u d hv1 hu1 ?_ ?_
      · rw [up_n (fun x => d ((hJk v u).mpr (Or.inr ((cell_inj hu1 (by omega)).mp x)))), up_n (fun x => d ((hJk v u).mpr (Or.inl ((cell_inj hu1 (by omega)).mp x))))]
      · rw [up_n (fun x => d ((hJk v u).mpr (Or.inr ((cell_inj hu1 (by omega)).mp x)))), up_n (fun x => d ((hJk v u).mpr (Or.inl ((cell_inj hu1 (by omega)).mp x))))]
