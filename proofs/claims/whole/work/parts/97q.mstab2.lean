/-! ===== the reference's stable pairs, and the mate ===== -/
theorem with16_L {kk : (Nat → Int32) → Option (Int32 × Int64 × (Nat → Int32) × (Nat → Int32) × (Nat → Int32))} : ∀ (k m j : Nat) (wt : Nat → Int32), j + k = 16 → k < m → (∀ i, i < j → wt i = -1) → ∃ wt', f_X12_findStables_L16 kk m (nI j) wt = kk wt' ∧ ∀ i, i < 16 → wt' i = -1 := by
  intro k
  induction k with
  | zero =>
    intro m j wt e1 hm h
    obtain ⟨m, rfl⟩ : ∃ k, m = k + 1 := ⟨m - 1, by omega⟩
    refine ⟨wt, ?_, fun i hi => h i (by omega)⟩
    unfold f_X12_findStables_L16
    rw [if_pos ((le16 (by omega)).mpr (by omega))]
  | succ k ih =>
    intro m j wt e1 hm h
    obtain ⟨m, rfl⟩ : ∃ k, m = k + 1 := ⟨m - 1, by omega⟩
    unfold f_X12_findStables_L16
    rw [if_neg (fun h => by rw [le16 (by omega)] at h; omega), wr_nI (by omega) (by decide), nI_1]
    refine ih m (j + 1) _ (by omega) (by omega) (fun i hi => ?_)
    by_cases c : i = j
    · rw [c, up_s]
    · rw [up_n c]; exact h i (by omega)
theorem cI_12 : ∀ n, n ≤ 12 → cI n ≤ 33987121 := by decide +kernel
theorem dif_0 (a : Nat) : dif a 0 = a := by unfold dif; rw [Nat.and_zero, Nat.xor_zero]
theorem fu_0 {G : Gr} (hW : Wf G) : fu G 0 = 0 := by
  rcases Nat.eq_zero_or_pos (nd G) with c | c
  · obtain ⟨f1, -⟩ := fu_spec hW 0
    omega
  · exact fu_uniq hW c (Nat.zero_testBit _) (fun i hi => by omega)
theorem mstables_eq {F : Nat} (hF : 40000000 ≤ F) {G : Gr} (hW : Wf G) (h12 : nd G ≤ 12) {nodes made : Int32} {fm tm wm am : Nat → Int32} (hC : MG G nodes made fm tm wm am) {rk : Nat → Nat → Int32} (hv : RkV rk) {gv : Nat → Int32} (hg : RkO G rk gv) {ar : Nat → Nat → Nat} (har : ArOK G ar) {J : (Nat → Nat) → Nat → Nat × Nat → Nat × Nat} (hJ : JOK G rk J) (oa wt tr : Nat → Int32) :
    ∃ t f oa' wt' tr', f_X12_findStables F nodes made fm tm am gv oa wt tr = some (nI t, lN (rv f 60), oa', wt', tr') ∧ (t, f) = Rn G (opB G rk) ar J 17 0 (fun v => v) 0 (0, 0) ∧ f < 2 ^ 60 ∧ t < 2 ^ 30 := by
  have hn := hW.1
  obtain ⟨oa1, a1, a2⟩ := findOpen_eq (F := F) (by omega) hW hC hv hg har oa
  have hnod := hC.1
  subst hnod
  have hun : un G 0 = nd G := by unfold un; rw [dif_0, pcF_all hW]
  have hc12 := cI_12 (un G 0) (by omega)
  have hfu := fu_0 hW
  obtain ⟨wt1, b1, b2⟩ := with16_L (kk := fun w => wr 17 tr 0 (-1) (fun t2 => f_X12_findStables_L44 F (nI (nd G)) gv oa1 (fun w3 t3 s3 f3 => some (s3, f3, oa1, w3, t3)) F 0 t2 w 0 (0 : Int64))) 16 F 0 wt (by omega) (by omega) (fun i hi => by omega)
  have hI : InvR G rk ar 0 (fun v => v) 0 wt1 := by
    have hz : ∀ v, (0 : Nat).testBit v = true → False := fun v h => by rw [Nat.zero_testBit] at h; cases h
    refine ⟨fun v h => absurd h (hz v), fun v h => absurd h (hz v), ⟨by decide, fun i hi => ?_⟩, fun v hv2 => ?_, fun v h => absurd h (hz v)⟩
    · unfold inX
      rw [Nat.zero_testBit]
      exact ⟨fun h => (by cases h), fun ⟨v, h, _⟩ => absurd h (hz v)⟩
    · rw [b2 v hv2, if_neg (fun h => hz v h.1)]
  have hbk : f_X12_back F (nI (fu G 0)) wt1 = some (-1) := by
    rw [hfu]
    unfold f_X12_back
    simp only [jn]
    obtain ⟨g, hg2⟩ : ∃ g, F = g + 1 := ⟨F - 1, by omega⟩
    have : ∀ g, f_X12_back_L4 wt1 (fun v2_1 => some v2_1) (g + 1) (nI 0 - 1) = some (-1) := by
      intro g
      unfold f_X12_back_L4
      rw [if_pos (by decide)]
      rfl
    rw [hg2]
    exact this g
  obtain ⟨c, tr', q1, q2, q3, q4, q5, q6⟩ := walk_sub (F := F) (by omega) hW h12 hg har a2 hJ (kk := fun w3 t3 s3 f3 => some (s3, f3, oa1, w3, t3)) (un G 0) 0 (fun v => v) 0 wt1 (va_up tr 0 (-1)) (0, 0) (-1) hI rfl hbk (fun _ => by rw [hfu, up_s]) (by show 0 + cI (un G 0) < 2 ^ 30; omega) (by decide) (fun _ => rfl)
  have hfl := Rn_fuel' (rk := rk) (ar := ar) (J := J) hW (S := 0) (p := fun v => v) (X := 0) (s := (0, 0)) (17 - un G 0) (un G 0) (Nat.le_refl _)
  rw [show un G 0 + (17 - un G 0) = 17 by omega] at hfl
  rw [hfl] at q3 q4 q5 q6
  generalize Rn G (opB G rk) ar J 17 0 (fun v => v) 0 (0, 0) = s at q3 q4 q5 q6
  refine ⟨s.1, s.2, oa1, wt1, tr', ?_, rfl, q4, by have h7 : s.1 ≤ 0 + cI (un G 0) := q6; omega⟩
  unfold f_X12_findStables
  rw [a1, bS]
  simp only [jn]
  have b1' : f_X12_findStables_L16 (fun w => wr 17 tr 0 (-1) (fun t2 => f_X12_findStables_L44 F (nI (nd G)) gv oa1 (fun w3 t3 s3 f3 => some (s3, f3, oa1, w3, t3)) F 0 t2 w 0 (0 : Int64))) F 0 wt = _ := b1
  rw [b1']
  have hw0 : wr 17 tr (0 : Int32) (-1) (fun t2 => f_X12_findStables_L44 F (nI (nd G)) gv oa1 (fun w3 t3 s3 f3 => some (s3, f3, oa1, w3, t3)) F 0 t2 wt1 0 (0 : Int64)) = f_X12_findStables_L44 F (nI (nd G)) gv oa1 (fun w3 t3 s3 f3 => some (s3, f3, oa1, w3, t3)) F 0 (va_up tr 0 (-1)) wt1 0 (0 : Int64) := by
    have := wr_nI (n := 17) (j := 0) (f := tr) (x := -1) (k := fun t2 => f_X12_findStables_L44 F (nI (nd G)) gv oa1 (fun w3 t3 s3 f3 => some (s3, f3, oa1, w3, t3)) F 0 t2 wt1 0 (0 : Int64)) (by omega) (by decide)
    exact this
  rw [hw0]
  obtain ⟨m, hm⟩ : ∃ m, F = (m + 1) + c := ⟨F - c - 1, by omega⟩
  have h3 := q3 (m + 1)
  rw [← hm, hfu] at h3
  have h4 : f_X12_findStables_L44 F (nI (nd G)) gv oa1 (fun w3 t3 s3 f3 => some (s3, f3, oa1, w3, t3)) F 0 (va_up tr 0 (-1)) wt1 0 (0 : Int64) = f_X12_findStables_L44 F (nI (nd G)) gv oa1 (fun w3 t3 s3 f3 => some (s3, f3, oa1, w3, t3)) (m + 1) (-1) tr' wt1 (nI s.1) (lN (rv s.2 60)) := h3
  rw [h4, l44_s, if_pos (by decide)]
theorem mate38_L {G : Gr} (hW : Wf G) {nodes made : Int32} {fm tm wm am : Nat → Int32} (hC : MG G nodes made fm tm wm am) {X v : Nat} (hX : X < 2 ^ 60) (hv : v < 16) {st : Int32} {oa wt tr : Nat → Int32} : ∀ (k m i : Nat), i + k = md G → k < m → f_X12_stableMate_L38 made fm tm (nI v) st (lN (rv X 60)) oa wt tr (some (-3, st, lN (rv X 60), oa, wt, tr)) m (nI i) = some (arcF G X v k i, st, lN (rv X 60), oa, wt, tr) := by
  have hn := hW.1
  have hm60 := hW.2.1
  obtain ⟨-, rfl, harc⟩ := hC
  have hR := rv_lt X 60
  intro k
  induction k with
  | zero =>
    intro m i e1 hm
    obtain ⟨m, rfl⟩ : ∃ k, m = k + 1 := ⟨m - 1, by omega⟩
    unfold f_X12_stableMate_L38
    rw [if_pos (by rw [nI_leI (by omega) (by omega)]; omega)]
    rfl
  | succ k ih =>
    intro m i e1 hm
    obtain ⟨m, rfl⟩ : ∃ k, m = k + 1 := ⟨m - 1, by omega⟩
    obtain ⟨f1, f2, f3, f4⟩ := harc i (by omega)
    obtain ⟨w1, w2, w3, -⟩ := hW.2.2 i (by omega)
    have hbit : lg_cmp ((lN (rv X 60) >>> ((nI i).toInt64 &&& 63)) &&& (1 : Int64)) (1 : Int64) = 0 ↔ inX X i = true := by
      rw [pf_shr (d := i) (by rw [wb_c i (by omega), wb_tb, wb_sm i (by omega), BitVec.toNat_ofNat]; omega) (by omega), wb_a1 (Nat.lt_of_le_of_lt (Nat.div_le_self _ _) (by omega)), show (1 : Int64) = lN 1 from rfl, cmp_eq (by omega) (by decide)]
      have h1 := rv60_bit X i
      rw [decide_eq_true (show i < 60 by omega), Bool.true_and, bit_dm] at h1
      rw [← h1, decide_eq_true_eq]
    have harcF : arcF G X v (k + 1) i = if inX X i = true ∧ (fr G i = v ∨ tt G i = v) then nI i else arcF G X v k (i + 1) := rfl
    unfold f_X12_stableMate_L38
    rw [if_neg (fun h => by rw [nI_leI (by omega) (by omega)] at h; omega), harcF, nI_1]
    by_cases c : inX X i = true
    · rw [if_pos (hbit.mpr c), rd_nI (by omega) (by decide), f1]
      by_cases d : fr G i = v
      · rw [if_pos (by rw [d]), if_pos ⟨c, Or.inl d⟩]
      · rw [if_neg (fun h => d ((nI_eq (by omega) (by omega)).mp h)), rd_nI (by omega) (by decide), f2]
        by_cases e : tt G i = v
        · rw [if_pos (by rw [e]), if_pos ⟨c, Or.inr e⟩]
        · rw [if_neg (fun h => e ((nI_eq (by omega) (by omega)).mp h)), if_neg (fun h => h.2.elim d e)]
          exact ih m (i + 1) (by omega) (by omega)
    · rw [if_neg (fun h => c (hbit.mp h)), if_neg (fun h => c h.1)]
      exact ih m (i + 1) (by omega) (by omega)
