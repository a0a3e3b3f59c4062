/-! ===== the parts in the order of their least nodes ===== -/
/-- what was seen, the number of each node's part, how many parts, how many odd ones: after the nodes below v -/
def spl (W : Nat) (cm : Nat → Nat) : Nat → Nat × (Nat → Nat) × Nat × Nat
  | 0 => (0, fun _ => 0, 0, 0)
  | v + 1 => if W.testBit v = true ∧ (spl W cm v).1.testBit v = false then ((spl W cm v).1 ||| cm v, fun u => if (cm v).testBit u = true then (spl W cm v).2.2.1 else (spl W cm v).2.1 u, (spl W cm v).2.2.1 + 1, (spl W cm v).2.2.2 + pcF 16 (cm v) % 2) else spl W cm v
theorem spl_new {W v : Nat} {cm : Nat → Nat} (h : W.testBit v = true) (h2 : (spl W cm v).1.testBit v = false) : spl W cm (v + 1) = ((spl W cm v).1 ||| cm v, fun u => if (cm v).testBit u = true then (spl W cm v).2.2.1 else (spl W cm v).2.1 u, (spl W cm v).2.2.1 + 1, (spl W cm v).2.2.2 + pcF 16 (cm v) % 2) := if_pos ⟨h, h2⟩
theorem spl_old {W v : Nat} {cm : Nat → Nat} (h : ¬ (W.testBit v = true ∧ (spl W cm v).1.testBit v = false)) : spl W cm (v + 1) = spl W cm v := if_neg h
def CM (G : Gr) (W : Nat) (cm : Nat → Nat) : Prop := (∀ v, W.testBit v = true → v < nd G) ∧ ∀ a, W.testBit a = true → CP G W a (cm a)
theorem CM_bit {G : Gr} {W a v : Nat} {cm : Nat → Nat} (h : CM G W cm) (ha : W.testBit a = true) (hv : (cm a).testBit v = true) : W.testBit v = true := Rch_W ha ((h.2 a ha v).mp hv)
theorem CM_lt {G : Gr} (hW : Wf G) {W a : Nat} {cm : Nat → Nat} (h : CM G W cm) (ha : W.testBit a = true) : cm a < 65536 := lt_of_bits (n := 16) (fun v hv => by
  have := h.1 v (CM_bit h ha hv)
  have := hW.1
  omega)
theorem spl_in {G : Gr} {W : Nat} {cm : Nat → Nat} (h : CM G W cm) : ∀ k u, (spl W cm k).1.testBit u = true → W.testBit u = true := by
  intro k
  induction k with
  | zero => intro u hu; unfold spl at hu; rw [Nat.zero_testBit] at hu; cases hu
  | succ k ih =>
    intro u hu
    by_cases c : W.testBit k = true ∧ (spl W cm k).1.testBit k = false
    · rw [spl_new c.1 c.2] at hu
      rw [Nat.testBit_or, Bool.or_eq_true] at hu
      rcases hu with hu | hu
      · exact ih u hu
      · exact CM_bit h c.1 hu
    · rw [spl_old c] at hu; exact ih u hu
theorem spl_lt {G : Gr} (hW : Wf G) {W : Nat} {cm : Nat → Nat} (h : CM G W cm) (k : Nat) : (spl W cm k).1 < 65536 := lt_of_bits (n := 16) (fun v hv => by
  have := h.1 v (spl_in h k v hv)
  have := hW.1
  omega)
theorem spl_bd {W : Nat} {cm : Nat → Nat} : ∀ k, (spl W cm k).2.2.1 ≤ k ∧ (spl W cm k).2.2.2 ≤ k ∧ ∀ u, (spl W cm k).1.testBit u = true → (spl W cm k).2.1 u < (spl W cm k).2.2.1 := by
  intro k
  induction k with
  | zero => exact ⟨Nat.le_refl _, Nat.le_refl _, fun u hu => by unfold spl at hu; rw [Nat.zero_testBit] at hu; cases hu⟩
  | succ k ih =>
    obtain ⟨i1, i2, i3⟩ := ih
    by_cases c : W.testBit k = true ∧ (spl W cm k).1.testBit k = false
    · rw [spl_new c.1 c.2]
      refine ⟨by show (spl W cm k).2.2.1 + 1 ≤ k + 1; omega, by show (spl W cm k).2.2.2 + pcF 16 (cm k) % 2 ≤ k + 1; omega, fun u hu => ?_⟩
      show (if (cm k).testBit u = true then (spl W cm k).2.2.1 else (spl W cm k).2.1 u) < (spl W cm k).2.2.1 + 1
      by_cases d : (cm k).testBit u = true
      · rw [if_pos d]; omega
      · rw [if_neg d]
        have hu : ((spl W cm k).1 ||| cm k).testBit u = true := hu
        rw [Nat.testBit_or, Bool.or_eq_true] at hu
        rcases hu with hu | hu
        · have := i3 u hu; omega
        · exact absurd hu d
    · rw [spl_old c]; exact ⟨by omega, by omega, i3⟩
theorem spl_all {G : Gr} {W : Nat} {cm : Nat → Nat} (h : CM G W cm) : ∀ k u, u < k → W.testBit u = true → (spl W cm k).1.testBit u = true := by
  intro k
  induction k with
  | zero => intro u hu; omega
  | succ k ih =>
    intro u hu hw
    by_cases c : W.testBit k = true ∧ (spl W cm k).1.testBit k = false
    · rw [spl_new c.1 c.2]
      show ((spl W cm k).1 ||| cm k).testBit u = true
      rw [Nat.testBit_or, Bool.or_eq_true]
      by_cases d : u = k
      · subst d; exact Or.inr ((h.2 u hw u).mpr ⟨0, rfl⟩)
      · exact Or.inl (ih u (by omega) hw)
    · rw [spl_old c]
      by_cases d : u = k
      · subst d
        cases hb : (spl W cm u).1.testBit u with
        | true => rfl
        | false => exact absurd ⟨hw, hb⟩ c
      · exact ih u (by omega) hw
def Flg (G : Gr) (W : Nat) (cm : Nat → Nat) (k : Nat) : Prop := ∀ v, v < k → W.testBit v = true → (spl W cm v).1.testBit v = false → ∃ col, Vld G W v col
theorem Flg_old {G : Gr} {W : Nat} {cm : Nat → Nat} {k : Nat} (c : ¬ (W.testBit k = true ∧ (spl W cm k).1.testBit k = false)) : Flg G W cm (k + 1) ↔ Flg G W cm k := by
  constructor
  · intro h v hv; exact h v (by omega)
  · intro h v hv h1 h2
    by_cases d : v = k
    · subst d; exact absurd ⟨h1, h2⟩ c
    · exact h v (by omega) h1 h2
theorem Flg_new {G : Gr} {W : Nat} {cm : Nat → Nat} {k : Nat} (c : W.testBit k = true ∧ (spl W cm k).1.testBit k = false) : Flg G W cm (k + 1) ↔ Flg G W cm k ∧ ∃ col, Vld G W k col := by
  constructor
  · intro h; exact ⟨fun v hv => h v (by omega), h k (by omega) c.1 c.2⟩
  · rintro ⟨h, h'⟩ v hv h1 h2
    by_cases d : v = k
    · subst d; exact h'
    · exact h v (by omega) h1 h2
theorem number_L {M : Nat} (hM : M < 65536) {am : Int32} {part0 : Nat → Int32} {kk : (Nat → Int32) → Option (Int32 × (Nat → Int32))} :
    ∀ (k m v : Nat) (part : Nat → Int32), v + k = 16 → k < m → (∀ u, part u = if u < v ∧ M.testBit u = true then am else part0 u) → ∃ part', f_X5_number_L2 am (nI M) kk m (nI v) part = kk part' ∧ ∀ u, u < 16 → part' u = if M.testBit u = true then am else part0 u := by
  intro k
  induction k with
  | zero =>
    intro m v part e1 hm hp
    obtain ⟨m, rfl⟩ : ∃ k, m = k + 1 := ⟨m - 1, by omega⟩
    refine ⟨part, ?_, fun u hu => ?_⟩
    · unfold f_X5_number_L2
      rw [if_pos ((le16 (by omega)).mpr (by omega))]
    · rw [hp u]
      by_cases c : M.testBit u = true
      · rw [if_pos c, if_pos ⟨by omega, c⟩]
      · rw [if_neg c, if_neg (fun h => c h.2)]
  | succ k ih =>
    intro m v part e1 hm hp
    obtain ⟨m, rfl⟩ : ∃ k, m = k + 1 := ⟨m - 1, by omega⟩
    unfold f_X5_number_L2
    rw [if_neg (fun h => by rw [le16 (by omega)] at h; omega), has_nI (by omega) (by omega), nI_1]
    by_cases c : M.testBit v = true
    · rw [if_pos c, if_neg (by decide), wr_nI (by omega) (by decide)]
      refine ih m (v + 1) _ (by omega) (by omega) (fun u => ?_)
      by_cases d : u = v
      · subst d; rw [up_s, if_pos ⟨by omega, c⟩]
      · rw [up_n d, hp u]
        by_cases e : u < v ∧ M.testBit u = true
        · rw [if_pos e, if_pos ⟨by omega, e.2⟩]
        · rw [if_neg e, if_neg (fun h => e ⟨by omega, h.2⟩)]
    · rw [if_neg c, if_pos rfl]
      refine ih m (v + 1) _ (by omega) (by omega) (fun u => ?_)
      rw [hp u]
      by_cases e : u < v ∧ M.testBit u = true
      · rw [if_pos e, if_pos ⟨by omega, e.2⟩]
      · rw [if_neg e, if_neg (fun h => e ⟨by
          by_cases d : u = v
          · subst d; exact absurd h.2 c
          · omega, h.2⟩)]
theorem pcF_32 {M : Nat} (hM : M < 65536) : pcF 32 M = pcF 16 M := by
  rw [show (32 : Nat) = 16 + 16 from rfl, pcF_add, Nat.div_eq_of_lt hM, show pcF 16 0 = 0 by decide]
  omega
theorem split_L {F : Nat} (hF : 100000 ≤ F) {G : Gr} (hW : Wf G) {joined : Nat → Int32} (hj : ∀ v, v < 16 → joined v = nI (adj G v)) {W : Nat} {cm : Nat → Nat} (hcm : CM G W cm) {kk : Int32 → Int32 → Int32 → (Nat → Int32) → Option (Int32 × Int32 × Int32 × (Nat → Int32))} :
    ∀ (k m v : Nat) (part : Nat → Int32) (f : Int32), v + k = nd G → k < m → (∀ u, (spl W cm v).1.testBit u = true → part u = nI ((spl W cm v).2.1 u)) → (Flg G W cm v → f = 1) → (¬ Flg G W cm v → f = 0) →
      ∃ part' f', f_X5_split_L20 F (nI (nd G)) joined (nI W) kk m (nI (spl W cm v).1) (nI v) part (nI (spl W cm v).2.2.1) (nI (spl W cm v).2.2.2) f = kk (nI (spl W cm (nd G)).2.2.1) (nI (spl W cm (nd G)).2.2.2) f' part' ∧ (∀ u, (spl W cm (nd G)).1.testBit u = true → part' u = nI ((spl W cm (nd G)).2.1 u)) ∧ (Flg G W cm (nd G) → f' = 1) ∧ (¬ Flg G W cm (nd G) → f' = 0) := by
  have hn := hW.1
  have hW16 : W < 65536 := lt_of_bits (n := 16) (fun v hv => by have := hcm.1 v hv; omega)
  intro k
  induction k with
  | zero =>
    intro m v part f e1 hm hp hf1 hf2
    obtain ⟨m, rfl⟩ : ∃ k, m = k + 1 := ⟨m - 1, by omega⟩
    have e : nd G = v := by omega
    refine ⟨part, f, ?_, by rw [e]; exact hp, by rw [e]; exact hf1, by rw [e]; exact hf2⟩
    unfold f_X5_split_L20
    rw [if_pos (by rw [nI_leI (by omega) (by omega)]; omega), e]
  | succ k ih =>
    intro m v part f e1 hm hp hf1 hf2
    obtain ⟨m, rfl⟩ : ∃ k, m = k + 1 := ⟨m - 1, by omega⟩
    unfold f_X5_split_L20
    rw [if_neg (fun h => by rw [nI_leI (by omega) (by omega)] at h; omega), nI_dif, has_nI (Nat.lt_of_le_of_lt (dif_le _ _) (by omega)) (by omega), nI_1, dif_bit]
    by_cases c : W.testBit v = true ∧ (spl W cm v).1.testBit v = false
    · rw [c.1, c.2, if_neg (show ¬ (if (true && !false) = true then (1 : Int32) else 0) = 0 by decide)]
      obtain ⟨M, f', g1, g2, g3, g4⟩ := grow_eq hF hW hj hcm.1 c.1 f
      have hMe : M = cm v := CP_one g2 (hcm.2 v c.1)
      subst hMe
      have hM16 := CM_lt hW hcm c.1
      rw [g1, b2S]
      simp only [ltt]
      rw [bc_nI (by omega), pcF_32 hM16]
      have hb := spl_bd (W := W) (cm := cm) v
      have hle := pcF_le 16 (cm v)
      unfold f_X5_number
      simp only [jn]
      rw [z32]
      obtain ⟨part1, p1, p2⟩ := number_L hM16 (am := nI (spl W cm v).2.2.1) (part0 := part) (kk := fun x => some (nI (spl W cm v).2.2.1 + 1, x)) 16 F 0 part (by omega) (by omega) (fun u => by rw [if_neg (fun h => by omega)])
      rw [p1, b2S, nI_1, nI_or, show (2 : Int32) = nI 2 from rfl, pk_rem (by omega) (by decide) (by decide), nI_add]
      have e := spl_new c.1 c.2
      have hbi := bad_iff hW (W := W) (a := v) c.1
      have hFn := Flg_new (G := G) c
      obtain ⟨part2, f2, q1, q2, q3, q4⟩ := ih m (v + 1) part1 f' (by omega) (by omega) (by
        rw [e]
        intro u hu
        have hu : ((spl W cm v).1 ||| cm v).testBit u = true := hu
        have hu16 : u < 16 := by
          rcases Nat.lt_or_ge u 16 with x | x
          · exact x
          · have h1 := spl_lt hW hcm v
            have h2 : (spl W cm v).1 ||| cm v < 2 ^ 16 := Nat.or_lt_two_pow h1 hM16
            rw [Nat.testBit_lt_two_pow (Nat.lt_of_lt_of_le h2 (Nat.pow_le_pow_right (by decide) x))] at hu
            cases hu
        show part1 u = nI (if (cm v).testBit u = true then (spl W cm v).2.2.1 else (spl W cm v).2.1 u)
        rw [p2 u hu16]
        by_cases d : (cm v).testBit u = true
        · rw [if_pos d, if_pos d]
        · rw [if_neg d, if_neg d]
          rw [Nat.testBit_or, Bool.or_eq_true] at hu
          rcases hu with hu | hu
          · exact hp u hu
          · exact absurd hu d) (fun h => by
            obtain ⟨h1, h2⟩ := hFn.mp h
            rw [g4 (fun hb => (hbi.mp hb) h2)]
            exact hf1 h1) (fun h => by
            by_cases hb : Bad G W v
            · exact g3 hb
            · rw [g4 hb]
              apply hf2
              intro h1
              exact h (hFn.mpr ⟨h1, Classical.byContradiction (fun hc => hb (hbi.mpr hc))⟩))
      refine ⟨part2, f2, ?_, q2, q3, q4⟩
      rw [← q1, e]
    · have e := spl_old c
      have hc : (if (W.testBit v && !(spl W cm v).1.testBit v) = true then (1 : Int32) else 0) = 0 := by
        rw [if_neg]
        intro h
        rw [Bool.and_eq_true, Bool.not_eq_true'] at h
        exact c h
      rw [if_pos hc]
      have hFo := Flg_old (G := G) c
      obtain ⟨part2, f2, q1, q2, q3, q4⟩ := ih m (v + 1) part f (by omega) (by omega) (by rw [e]; exact hp) (fun h => hf1 (hFo.mp h)) (fun h => hf2 (fun h' => h (hFo.mpr h')))
      refine ⟨part2, f2, ?_, q2, q3, q4⟩
      rw [← q1, e]
theorem split_eq {F : Nat} (hF : 100000 ≤ F) {G : Gr} (hW : Wf G) {joined : Nat → Int32} (hj : ∀ v, v < 16 → joined v = nI (adj G v)) {W : Nat} {cm : Nat → Nat} (hcm : CM G W cm) (part : Nat → Int32) :
    ∃ f part', f_X5_split F (nI W) part (nI (nd G)) joined = some (nI (spl W cm (nd G)).2.2.1, nI (spl W cm (nd G)).2.2.2, f, part') ∧ (∀ u, (spl W cm (nd G)).1.testBit u = true → part' u = nI ((spl W cm (nd G)).2.1 u)) ∧ (Flg G W cm (nd G) → f = 1) ∧ (¬ Flg G W cm (nd G) → f = 0) := by
  have hn := hW.1
  obtain ⟨part2, f2, q1, q2, q3, q4⟩ := split_L hF hW hj hcm (kk := fun a b c d => some (a, b, c, d)) (nd G) F 0 part 1 (by omega) (by omega) (fun u hu => by unfold spl at hu; rw [Nat.zero_testBit] at hu; cases hu) (fun _ => rfl) (fun h => absurd (fun v hv => by omega) h)
  refine ⟨f2, part2, ?_, q2, q3, q4⟩
  unfold f_X5_split
  simp only [jn]
  exact q1
theorem CM_ex {F : Nat} (hF : 100000 ≤ F) {G : Gr} (hW : Wf G) {W : Nat} (hWa : ∀ v, W.testBit v = true → v < nd G) : ∃ cm, CM G W cm := by
  have h : ∀ a, ∃ M, W.testBit a = true → CP G W a M := by
    intro a
    by_cases c : W.testBit a = true
    · obtain ⟨M, f, -, h, -⟩ := grow_eq hF hW (joined := fun v => nI (adj G v)) (fun v _ => rfl) hWa c 0
      exact ⟨M, fun _ => h⟩
    · exact ⟨0, fun h => absurd h c⟩
  exact ⟨fun a => (h a).choose, hWa, fun a ha => (h a).choose_spec ha⟩
