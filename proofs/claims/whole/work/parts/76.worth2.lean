theorem Jn_dec {G : Gr} {i v u : Nat} : ((fr G i = v ∧ tt G i = u) ∨ (fr G i = u ∧ tt G i = v)) ↔ Jn G i v u := Iff.rfl
theorem WT_step {G : Gr} (hW : Wf G) {val : Nat → Int} (hvl : ∀ i, i < md G → -1000000000 < val i) {k : Nat} (hk : k < md G) (ha : al G k = true) {near worth : Nat → Int32} (hO : WT G val k near worth) {z : Int32} (hz : (worth (fr G k * 16 + tt G k) = -1000000000 ∧ z.toInt = val k) ∨ ((worth (fr G k * 16 + tt G k)).toInt < val k ∧ z.toInt = val k) ∨ (val k ≤ (worth (fr G k * 16 + tt G k)).toInt ∧ worth (fr G k * 16 + tt G k) ≠ -1000000000 ∧ z = worth (fr G k * 16 + tt G k))) :
    WT G val (k + 1) (va_up (va_up near (fr G k * 16 + tt G k) (near (fr G k * 16 + tt G k) + 1)) (tt G k * 16 + fr G k) (near (tt G k * 16 + fr G k) + 1)) (va_up (va_up worth (fr G k * 16 + tt G k) z) (tt G k * 16 + fr G k) z) := by
  obtain ⟨w1, w2, w3, -⟩ := hW.2.2 k hk
  have h16 := hW.1
  intro v u hv hu
  rw [cnt_s]
  by_cases d : Jn G k v u
  · rw [if_pos ⟨ha, d⟩]
    have hJ : (v = fr G k ∧ u = tt G k) ∨ (v = tt G k ∧ u = fr G k) := by
      rcases d with ⟨x, y⟩ | ⟨x, y⟩
      · exact Or.inl ⟨x.symm, y.symm⟩
      · exact Or.inr ⟨y.symm, x.symm⟩
    have e1 : va_up (va_up near (fr G k * 16 + tt G k) (near (fr G k * 16 + tt G k) + 1)) (tt G k * 16 + fr G k) (near (tt G k * 16 + fr G k) + 1) (v * 16 + u) = near (v * 16 + u) + 1 := by
      rcases hJ with ⟨x, y⟩ | ⟨x, y⟩ <;> subst x <;> subst y
      · rw [up_n (by omega), up_s]
      · rw [up_s]
    have e2 : va_up (va_up worth (fr G k * 16 + tt G k) z) (tt G k * 16 + fr G k) z (v * 16 + u) = z := by
      rcases hJ with ⟨x, y⟩ | ⟨x, y⟩ <;> subst x <;> subst y
      · rw [up_n (by omega), up_s]
      · rw [up_s]
    obtain ⟨n1, -⟩ := hO v u hv hu
    refine ⟨by rw [e1, n1, nI_1], Or.inr ?_⟩
    rw [e2]
    obtain ⟨-, o1⟩ := hO (fr G k) (tt G k) (by omega) (by omega)
    -- the arcs between v and u are those between the ends of k
    have hsame : ∀ i, Jn G i v u ↔ Jn G i (fr G k) (tt G k) := by
      intro i
      rcases hJ with ⟨x, y⟩ | ⟨x, y⟩
      · rw [x, y]
      · rw [x, y]; exact ⟨Jn.symm, Jn.symm⟩
    rcases o1 with ⟨a1, a2⟩ | ⟨j, a1, a2, a3, a4, a5⟩
    · rcases hz with ⟨-, hz⟩ | ⟨-, hz⟩ | ⟨-, hz, -⟩
      · exact ⟨k, by omega, ha, d, hz, fun i hi hl hj => by
          by_cases c : i = k
          · rw [c]; exact Int.le_refl _
          · exact absurd ((hsame i).mp hj) (a1 i (by omega) hl)⟩
      · exact ⟨k, by omega, ha, d, hz, fun i hi hl hj => by
          by_cases c : i = k
          · rw [c]; exact Int.le_refl _
          · exact absurd ((hsame i).mp hj) (a1 i (by omega) hl)⟩
      · exact absurd a2 hz
    · rcases hz with ⟨h9, hz⟩ | ⟨hlt, hz⟩ | ⟨hle, -, hz⟩
      · rw [h9, m9] at a4
        have := hvl j (by omega)
        omega
      · rw [a4] at hlt
        refine ⟨k, by omega, ha, d, hz, fun i hi hl hj => ?_⟩
        by_cases c : i = k
        · rw [c]; exact Int.le_refl _
        · have := a5 i (by omega) hl ((hsame i).mp hj); omega
      · rw [a4] at hle
        refine ⟨j, by omega, a2, (hsame j).mpr a3, by rw [hz]; exact a4, fun i hi hl hj => ?_⟩
        by_cases c : i = k
        · rw [c]; exact hle
        · exact a5 i (by omega) hl ((hsame i).mp hj)
  · have hne1 : v * 16 + u ≠ fr G k * 16 + tt G k := fun x => by
      obtain ⟨x1, x2⟩ := (cell_inj hu (by omega)).mp x
      exact d (Or.inl ⟨x1.symm, x2.symm⟩)
    have hne2 : v * 16 + u ≠ tt G k * 16 + fr G k := fun x => by
      obtain ⟨x1, x2⟩ := (cell_inj hu (by omega)).mp x
      exact d (Or.inr ⟨x2.symm, x1.symm⟩)
    rw [if_neg (fun x => d x.2), up_n hne2, up_n hne1, up_n hne2, up_n hne1, Nat.add_zero]
    obtain ⟨n1, o1⟩ := hO v u hv hu
    refine ⟨n1, ?_⟩
    rcases o1 with ⟨a1, a2⟩ | ⟨j, a1, a2, a3, a4, a5⟩
    · refine Or.inl ⟨fun i hi hl hj => ?_, a2⟩
      by_cases c : i = k
      · exact d (c ▸ hj)
      · exact a1 i (by omega) hl hj
    · refine Or.inr ⟨j, by omega, a2, a3, a4, fun i hi hl hj => ?_⟩
      by_cases c : i = k
      · exact absurd (c ▸ hj) d
      · exact a5 i (by omega) hl hj
theorem worth_L {G : Gr} (hW : Wf G) {nodes made : Int32} {fm tm wm am : Nat → Int32} (hC : MG G nodes made fm tm wm am) {way : Nat} (hw : way < 4) {kk : (Nat → Int32) → (Nat → Int32) → Option ((Nat → Int32) × (Nat → Int32))} :
    ∀ (k m i : Nat) (near worth : Nat → Int32), i + k = md G → k < m → WT G (fun i => vm way (wt G i)) i near worth → ∃ near' worth', f_X12_findWorth_L32 made fm tm wm am (nI way) kk m (nI i) near worth = kk near' worth' ∧ WT G (fun i => vm way (wt G i)) (md G) near' worth' := by
  obtain ⟨-, hm, hA⟩ := hC
  have h60 := hW.2.1
  have h16 := hW.1
  have hvl : ∀ i, i < md G → -1000000000 < (fun i => vm way (wt G i)) i := fun i hi => by
    have := (vm_bd (way := way) (hW.2.2 i hi).2.2.2).1
    show -1000000000 < vm way (wt G i)
    omega
  intro k
  induction k with
  | zero =>
    intro m i near worth e1 hk hO
    obtain ⟨m, rfl⟩ : ∃ k, m = k + 1 := ⟨m - 1, by omega⟩
    have : i = md G := by omega
    subst this
    refine ⟨near, worth, ?_, hO⟩
    unfold f_X12_findWorth_L32
    rw [hm, if_pos ((nI_leI (by omega) (by omega)).mpr (Nat.le_refl _))]
  | succ k ih =>
    intro m i near worth e1 hk hO
    obtain ⟨m, rfl⟩ : ∃ k, m = k + 1 := ⟨m - 1, by omega⟩
    obtain ⟨a1, a2, a3, a4⟩ := hA i (by omega)
    obtain ⟨w1, w2, w3, hwt⟩ := hW.2.2 i (by omega)
    unfold f_X12_findWorth_L32
    rw [hm, if_neg (fun h => by rw [nI_leI (by omega) (by omega)] at h; omega), rd_nI (by omega) (by decide), a4, nI_1]
    by_cases c : al G i = true
    · obtain ⟨r, r1, r2⟩ := valueOf_eq (wm := wm) hwt hw (show i < 60 by omega) a3
      rw [if_pos c, if_neg (by decide), r1, bS, rd_nI (by omega) (by decide), rd_nI (by omega) (by decide), rd_nI (by omega) (by decide), rd_nI (by omega) (by decide), a1, a2, cell2_nI, cell2_nI, rd_nI (by omega) (by decide)]
      simp only [jn]
      have hne : fr G i * 16 + tt G i ≠ tt G i * 16 + fr G i := by omega
      by_cases c2 : r ≤ worth (fr G i * 16 + tt G i)
      · rw [if_pos c2, rd_nI (by omega) (by decide), wr_nI (by omega) (by decide), rd_nI (by omega) (by decide), up_s, wr_nI (by omega) (by decide), rd_nI (by omega) (by decide), wr_nI (by omega) (by decide), rd_nI (by omega) (by decide), up_n (Ne.symm hne), wr_nI (by omega) (by decide), ← hm]
        refine ih m (i + 1) _ _ (by omega) (by omega) (WT_step hW hvl (by omega) c hO (Or.inr (Or.inr ⟨?_, ?_, rfl⟩)))
        · rw [Int32.le_iff_toInt_le, r2] at c2; exact c2
        · intro h
          rw [Int32.le_iff_toInt_le, r2, h, m9] at c2
          have := hvl i (by omega)
          have e : (fun i => vm way (wt G i)) i = vm way (wt G i) := rfl
          rw [e] at this
          omega
      · rw [if_neg c2, wr_nI (by omega) (by decide), rd_nI (by omega) (by decide), up_s, wr_nI (by omega) (by decide), rd_nI (by omega) (by decide), wr_nI (by omega) (by decide), rd_nI (by omega) (by decide), up_n (Ne.symm hne), wr_nI (by omega) (by decide), ← hm]
        refine ih m (i + 1) _ _ (by omega) (by omega) (WT_step hW hvl (by omega) c hO (Or.inr (Or.inl ⟨?_, r2⟩)))
        rw [Int32.le_iff_toInt_le, r2] at c2
        show _ < vm way (wt G i)
        omega
    · rw [if_neg c, if_pos rfl, ← hm]
      refine ih m (i + 1) near worth (by omega) (by omega) (fun v u hv hu => ?_)
      obtain ⟨n1, o1⟩ := hO v u hv hu
      rw [cnt_s, if_neg (fun x => c x.1), Nat.add_zero]
      refine ⟨n1, ?_⟩
      rcases o1 with ⟨b1, b2⟩ | ⟨j, b1, b2, b3, b4, b5⟩
      · refine Or.inl ⟨fun l hl hal hj => ?_, b2⟩
        by_cases d : l = i
        · exact c (d ▸ hal)
        · exact b1 l (by omega) hal hj
      · refine Or.inr ⟨j, by omega, b2, b3, b4, fun l hl hal hj => ?_⟩
        by_cases d : l = i
        · exact absurd (d ▸ hal) c
        · exact b5 l (by omega) hal hj
theorem worth_eq {F : Nat} (hF : 100000 ≤ F) {G : Gr} (hW : Wf G) {nodes made : Int32} {fm tm wm am : Nat → Int32} (hC : MG G nodes made fm tm wm am) {way : Nat} (hw : way < 4) (near worth : Nat → Int32) : ∃ near' worth', f_X12_findWorth F (nI way) made fm tm wm am near worth = some (near', worth') ∧ WT G (fun i => vm way (wt G i)) (md G) near' worth' := by
  have h60 := hW.2.1
  obtain ⟨n1, w1, a1, a2⟩ := worth0_L (kk := fun x y => f_X12_findWorth_L32 made fm tm wm am (nI way) (fun x y => some (x, y)) F (nI 0) x y) 256 F 0 near worth (by omega) (by omega) (fun i hi => by omega)
  obtain ⟨n2, w2, b1, b2⟩ := worth_L hW hC hw (kk := fun x y => some (x, y)) (md G) F 0 n1 w1 (by omega) (by omega) (fun v u hv hu => ⟨(a2 _ (by omega)).1, Or.inl ⟨fun i hi => by omega, (a2 _ (by omega)).2⟩⟩)
  refine ⟨n2, w2, ?_, b2⟩
  unfold f_X12_findWorth
  simp only [jn]
  rw [z32, a1, b1]
