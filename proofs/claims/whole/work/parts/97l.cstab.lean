/-! ===== the class's stable pairs ===== -/
def ArOK (G : Gr) (ar : Nat → Nat → Nat) : Prop := ∀ a b, (adj G a).testBit b = true → ar a b < md G ∧ al G (ar a b) = true ∧ Jn G (ar a b) a b ∧ ∀ i, i < md G → al G i = true → Jn G i a b → ar a b ≤ i
theorem ar_ex {G : Gr} (hW : Wf G) : ∃ ar, ArOK G ar := by
  have h : ∀ a b, ∃ j, (adj G a).testBit b = true → j < md G ∧ al G j = true ∧ Jn G j a b ∧ ∀ i, i < md G → al G i = true → Jn G i a b → j ≤ i := by
    intro a b
    by_cases c : (adj G a).testBit b = true
    · obtain ⟨i, i1, i2, i3⟩ := (adj_bit hW a b).mp c
      obtain ⟨j, ⟨j1, j2, j3⟩, hmin⟩ := pk_least (fun j => j < md G ∧ al G j = true ∧ Jn G j a b) ⟨i, i1, i2, i3⟩
      refine ⟨j, fun _ => ⟨j1, j2, j3, fun l l1 l2 l3 => ?_⟩⟩
      rcases Nat.lt_or_ge l j with q | q
      · exact absurd ⟨l1, l2, l3⟩ (hmin l q)
      · exact q
    · exact ⟨0, fun x => absurd x c⟩
  exact ⟨fun a b => (h a b).choose, fun a b => (h a b).choose_spec⟩
def ABk (G : Gr) (k : Nat) (ab : Nat → Int64) : Prop := ∀ a b, a < 16 → b < 16 → ((∀ i, i < k → al G i = true → ¬ Jn G i a b) ∧ ab (a * 16 + b) = lN 0) ∨ ∃ j, j < k ∧ al G j = true ∧ Jn G j a b ∧ ab (a * 16 + b) = lN (mkA j) ∧ ∀ i, i < k → al G i = true → Jn G i a b → j ≤ i
theorem findArcs_L {G : Gr} (hW : Wf G) {nodes made : Int32} {one oth wts alv joined : Nat → Int32} (hC : CG G nodes made one oth wts alv joined) {kk : (Nat → Int64) → Option (Nat → Int64)} :
    ∀ (k m i : Nat) (ab : Nat → Int64), i + k = md G → k < m → ABk G i ab → ∃ ab', f_X9_findArcs_L10 made one oth alv kk m (nI i) ab = kk ab' ∧ ABk G (md G) ab' := by
  have hn := hW.1
  have hm60 := hW.2.1
  obtain ⟨-, rfl, harc, -⟩ := hC
  intro k
  induction k with
  | zero =>
    intro m i ab e1 hm h
    obtain ⟨m, rfl⟩ : ∃ k, m = k + 1 := ⟨m - 1, by omega⟩
    refine ⟨ab, ?_, by rw [show md G = i by omega]; exact h⟩
    unfold f_X9_findArcs_L10
    rw [if_pos (by rw [nI_leI (by omega) (by omega)]; omega)]
  | succ k ih =>
    intro m i ab e1 hm h
    obtain ⟨m, rfl⟩ : ∃ k, m = k + 1 := ⟨m - 1, by omega⟩
    obtain ⟨f1, f2, f3, f4⟩ := harc i (by omega)
    obtain ⟨w1, w2, w3, -⟩ := hW.2.2 i (by omega)
    have hmi : mkA i < 2 ^ 60 := mkA_lt
    have hJk : ∀ a b, Jn G i a b ↔ (a = fr G i ∧ b = tt G i) ∨ (a = tt G i ∧ b = fr G i) := by
      intro a b
      constructor
      · rintro (⟨x, y⟩ | ⟨x, y⟩)
        · exact Or.inl ⟨x.symm, y.symm⟩
        · exact Or.inr ⟨y.symm, x.symm⟩
      · rintro (⟨x, y⟩ | ⟨x, y⟩)
        · exact Or.inl ⟨x.symm, y.symm⟩
        · exact Or.inr ⟨y.symm, x.symm⟩
    have keep : ∀ (x : Int64) (a b : Nat), ¬ (al G i = true ∧ Jn G i a b) → (((∀ j, j < i → al G j = true → ¬ Jn G j a b) ∧ x = lN 0) ∨ ∃ j, j < i ∧ al G j = true ∧ Jn G j a b ∧ x = lN (mkA j) ∧ ∀ l, l < i → al G l = true → Jn G l a b → j ≤ l) → (((∀ j, j < i + 1 → al G j = true → ¬ Jn G j a b) ∧ x = lN 0) ∨ ∃ j, j < i + 1 ∧ al G j = true ∧ Jn G j a b ∧ x = lN (mkA j) ∧ ∀ l, l < i + 1 → al G l = true → Jn G l a b → j ≤ l) := by
      intro x a b hno hx
      rcases hx with ⟨h1, h2⟩ | ⟨j, j1, j2, j3, j4, j5⟩
      · refine Or.inl ⟨fun l hl ha hJ => ?_, h2⟩
        by_cases c : l = i
        · subst c; exact hno ⟨ha, hJ⟩
        · exact h1 l (by omega) ha hJ
      · refine Or.inr ⟨j, by omega, j2, j3, j4, fun l hl ha hJ => ?_⟩
        by_cases c : l = i
        · subst c; exact absurd ⟨ha, hJ⟩ hno
        · exact j5 l (by omega) ha hJ
    unfold f_X9_findArcs_L10
    rw [if_neg (fun h => by rw [nI_leI (by omega) (by omega)] at h; omega), rd_nI (by omega) (by decide), f4, nI_1]
    by_cases c : al G i = true
    · rw [if_pos c, if_neg (by decide), rd_nI (by omega) (by decide), rd_nI (by omega) (by decide), rd_nI (by omega) (by decide), rd_nI (by omega) (by decide), f1, f2, cell_nI, rd_nI (by omega) (by decide), wr_nI (by omega) (by decide), rd_nI (by omega) (by decide), up_s, cell_nI, wr_nI (by omega) (by decide), markOf_nI (by omega)]
      -- the number that stands
      have hnew : ∃ j, j < i + 1 ∧ al G j = true ∧ Jn G j (fr G i) (tt G i) ∧ (if lN (mkA i) < ab (fr G i * 16 + tt G i) then ab (fr G i * 16 + tt G i) else lN (mkA i)) = lN (mkA j) ∧ ∀ l, l < i + 1 → al G l = true → Jn G l (fr G i) (tt G i) → j ≤ l := by
        rcases h _ _ (show fr G i < 16 by omega) (show tt G i < 16 by omega) with ⟨h1, h2⟩ | ⟨j, j1, j2, j3, j4, j5⟩
        · refine ⟨i, by omega, c, Or.inl ⟨rfl, rfl⟩, ?_, fun l hl ha hJ => ?_⟩
          · rw [h2, if_neg (fun x => by rw [pk_lLT (by omega) (by decide)] at x; omega)]
          · by_cases d : l = i
            · omega
            · exact absurd hJ (h1 l (by omega) ha)
        · have hmj : mkA j < 2 ^ 60 := mkA_lt
          have hlt : mkA i < mkA j := Nat.pow_lt_pow_right (by decide) (by omega)
          refine ⟨j, by omega, j2, j3, ?_, fun l hl ha hJ => ?_⟩
          · rw [j4, if_pos ((pk_lLT (by omega) (by omega)).mpr hlt)]
          · by_cases d : l = i
            · omega
            · exact j5 l (by omega) ha hJ
      obtain ⟨j, j1, j2, j3, j4, j5⟩ := hnew
      rw [j4]
      refine ih m (i + 1) _ (by omega) (by omega) (fun a b ha hb => ?_)
      by_cases q : Jn G i a b
      · have hcell : va_up (va_up ab (fr G i * 16 + tt G i) (lN (mkA j))) (tt G i * 16 + fr G i) (lN (mkA j)) (a * 16 + b) = lN (mkA j) := by
          rcases (hJk a b).mp q with ⟨y, z⟩ | ⟨y, z⟩
          · rw [y, z, up_n (by omega), up_s]
          · rw [y, z, up_s]
        rw [hcell]
        have hJab : ∀ l, Jn G l a b ↔ Jn G l (fr G i) (tt G i) := by
          intro l
          rcases (hJk a b).mp q with ⟨y, z⟩ | ⟨y, z⟩
          · rw [y, z]
          · rw [y, z]; exact ⟨Jn.symm, Jn.symm⟩
        exact Or.inr ⟨j, j1, j2, (hJab j).mpr j3, rfl, fun l hl ha hJ => j5 l hl ha ((hJab l).mp hJ)⟩
      · have hcell : va_up (va_up ab (fr G i * 16 + tt G i) (lN (mkA j))) (tt G i * 16 + fr G i) (lN (mkA j)) (a * 16 + b) = ab (a * 16 + b) := by
          rw [up_n (fun y => q ((hJk a b).mpr (Or.inr ((cell_inj hb (by omega)).mp y)))), up_n (fun y => q ((hJk a b).mpr (Or.inl ((cell_inj hb (by omega)).mp y))))]
        rw [hcell]
        exact keep _ a b (fun y => q y.2) (h a b ha hb)
    · rw [if_neg c, if_pos rfl]
      exact ih m (i + 1) ab (by omega) (by omega) (fun a b ha hb => keep _ a b (fun y => c y.1) (h a b ha hb))
def ABO (G : Gr) (ar : Nat → Nat → Nat) (ab : Nat → Int64) : Prop := ∀ a b, (adj G a).testBit b = true → ab (a * 16 + b) = lN (mkA (ar a b))
theorem findArcs_eq {F : Nat} (hF : 100000 ≤ F) {G : Gr} (hW : Wf G) {nodes made : Int32} {one oth wts alv joined : Nat → Int32} (hC : CG G nodes made one oth wts alv joined) {ar : Nat → Nat → Nat} (har : ArOK G ar) (ab : Nat → Int64) : ∃ ab', f_X9_findArcs F made one oth alv ab = some ab' ∧ ABO G ar ab' := by
  have hn := hW.1
  have hm60 := hW.2.1
  obtain ⟨f', a1, a2⟩ := fillJ (F := F) 0 (n := 256) (by decide) (by omega) ab
  obtain ⟨ab1, b1, b2⟩ := findArcs_L hW hC (kk := fun x => some x) (md G) F 0 f' (by omega) (by omega) (fun a b ha hb => Or.inl ⟨fun i hi => by omega, a2 _ (by omega)⟩)
  refine ⟨ab1, ?_, fun a b hab => ?_⟩
  · unfold f_X9_findArcs
    rw [a1, bS]
    simp only [jn]
    rw [z32]
    exact b1
  · obtain ⟨n1, n2, -⟩ := adj_in hW hab
    obtain ⟨r1, r2, r3, r4⟩ := har a b hab
    rcases b2 a b (by omega) (by omega) with ⟨h1, -⟩ | ⟨j, j1, j2, j3, j4, j5⟩
    · exact absurd r3 (h1 _ r1 r2)
    · have e : j = ar a b := by
        have := j5 _ r1 r2 r3
        have := r4 j j1 j2 j3
        omega
      rw [j4, e]
def RkO (G : Gr) (rk : Nat → Nat → Int32) (gv : Nat → Int32) : Prop := ∀ v u, v < nd G → u < nd G → gv (v * 16 + u) = rk v u
theorem openTo_L {G : Gr} (hW : Wf G) {joined : Nat → Int32} (hj : ∀ v, v < 16 → joined v = nI (adj G v)) {rk : Nat → Nat → Int32} {gv : Nat → Int32} (hg : RkO G rk gv) {v : Nat} (hv : v < nd G) {kk : Int32 → Option Int32} :
    ∀ (k m u M : Nat), u + k = nd G → k < m → (∀ o, M.testBit o = true ↔ o < u ∧ opB G rk v o = true) → ∃ M', f_X9_openTo_L4 (nI (nd G)) joined gv (nI v) kk m (nI M) (nI u) = kk (nI M') ∧ ∀ o, M'.testBit o = true ↔ opB G rk v o = true := by
  have hn := hW.1
  intro k
  induction k with
  | zero =>
    intro m u M e1 hm h
    obtain ⟨m, rfl⟩ : ∃ k, m = k + 1 := ⟨m - 1, by omega⟩
    refine ⟨M, ?_, fun o => ?_⟩
    · unfold f_X9_openTo_L4
      rw [if_pos (by rw [nI_leI (by omega) (by omega)]; omega)]
    · rw [h]
      exact ⟨fun x => x.2, fun x => ⟨by have := (opB_in hW x).2.1; omega, x⟩⟩
  | succ k ih =>
    intro m u M e1 hm h
    obtain ⟨m, rfl⟩ : ∃ k, m = k + 1 := ⟨m - 1, by omega⟩
    have had := adj_lt hW v
    unfold f_X9_openTo_L4
    rw [if_neg (fun h => by rw [nI_leI (by omega) (by omega)] at h; omega), cell_nI, rd_nI (by omega) (by decide), hg v u hv (by omega), nI_1]
    simp only [jn]
    have skip : opB G rk v u = false → ∃ M', f_X9_openTo_L4 (nI (nd G)) joined gv (nI v) kk m (nI M) (nI (u + 1)) = kk (nI M') ∧ ∀ o, M'.testBit o = true ↔ opB G rk v o = true := by
      intro c
      refine ih m (u + 1) M (by omega) (by omega) (fun o => ?_)
      rw [h]
      constructor
      · rintro ⟨x, y⟩; exact ⟨by omega, y⟩
      · rintro ⟨x, y⟩
        by_cases d : o = u
        · subst d; rw [c] at y; cases y
        · exact ⟨by omega, y⟩
    by_cases c1 : rk v u = -1
    · rw [if_pos c1, if_pos trivial]
      exact skip (by cases x : opB G rk v u with | false => rfl | true => exact absurd c1 (opB_iff.mp x).2.1)
    · rw [if_neg c1, cell_nI, rd_nI (by omega) (by decide), hg u v (by omega) hv]
      by_cases c2 : rk u v = -1
      · rw [if_pos c2, if_pos trivial]
        exact skip (by cases x : opB G rk v u with | false => rfl | true => exact absurd c2 (opB_iff.mp x).2.2)
      · rw [if_neg c2, if_neg (by decide), rd_nI (by omega) (by decide), hj v (by omega), has_nI (by omega) (by omega)]
        by_cases c3 : (adj G v).testBit u = true
        · rw [if_pos c3, if_neg (by decide), shl_nI (by omega), nI_or]
          have hop : opB G rk v u = true := opB_iff.mpr ⟨c3, c1, c2⟩
          refine ih m (u + 1) _ (by omega) (by omega) (fun o => ?_)
          rw [Nat.testBit_or, Nat.testBit_two_pow, Bool.or_eq_true, decide_eq_true_eq, h]
          constructor
          · rintro (⟨x, y⟩ | x)
            · exact ⟨by omega, y⟩
            · subst x; exact ⟨by omega, hop⟩
          · rintro ⟨x, y⟩
            by_cases d : u = o
            · exact Or.inr d
            · exact Or.inl ⟨by omega, y⟩
        · rw [if_neg c3, if_pos rfl]
          exact skip (by cases x : opB G rk v u with | false => rfl | true => exact absurd (opB_iff.mp x).1 c3)
def OpO (G : Gr) (rk : Nat → Nat → Int32) (op : Nat → Int32) (v : Nat) : Prop := ∃ M, M < 65536 ∧ op v = nI M ∧ ∀ o, M.testBit o = true ↔ opB G rk v o = true
theorem openTo_eq {F : Nat} (hF : 100000 ≤ F) {G : Gr} (hW : Wf G) {joined : Nat → Int32} (hj : ∀ v, v < 16 → joined v = nI (adj G v)) {rk : Nat → Nat → Int32} {gv : Nat → Int32} (hg : RkO G rk gv) {v : Nat} (hv : v < nd G) : ∃ M, M < 65536 ∧ f_X9_openTo F (nI v) (nI (nd G)) joined gv = some (nI M) ∧ ∀ o, M.testBit o = true ↔ opB G rk v o = true := by
  have hn := hW.1
  obtain ⟨M, m1, m2⟩ := openTo_L hW hj hg hv (kk := fun x => some x) (nd G) F 0 0 (by omega) (by omega) (fun o => by
    rw [Nat.zero_testBit]
    exact ⟨fun h => (by cases h), fun h => (by omega)⟩)
  refine ⟨M, lt_of_bits (n := 16) (fun o ho => by have := (opB_in hW ((m2 o).mp ho)).2.1; omega), ?_, m2⟩
  unfold f_X9_openTo
  simp only [jn]
  rw [z32]
  exact m1
theorem opens_L {F : Nat} (hF : 100000 ≤ F) {G : Gr} (hW : Wf G) {joined : Nat → Int32} (hj : ∀ v, v < 16 → joined v = nI (adj G v)) {rk : Nat → Nat → Int32} {gv : Nat → Int32} (hg : RkO G rk gv) {kk : (Nat → Int32) → Option (Int32 × Int64 × Int32 × Int32 × (Nat → Int64) × (Nat → Int32) × (Nat → Int32) × (Nat → Int32))} :
    ∀ (k m v : Nat) (op : Nat → Int32), v + k = nd G → k < m → (∀ w, w < v → OpO G rk op w) → ∃ op', f_X9_refresh_L56 F (nI (nd G)) joined gv kk m (nI v) op = kk op' ∧ ∀ w, w < nd G → OpO G rk op' w := by
  have hn := hW.1
  intro k
  induction k with
  | zero =>
    intro m v op e1 hm h
    obtain ⟨m, rfl⟩ : ∃ k, m = k + 1 := ⟨m - 1, by omega⟩
    refine ⟨op, ?_, fun w hw => h w (by omega)⟩
    unfold f_X9_refresh_L56
    rw [if_pos (by rw [nI_leI (by omega) (by omega)]; omega)]
  | succ k ih =>
    intro m v op e1 hm h
    obtain ⟨m, rfl⟩ : ∃ k, m = k + 1 := ⟨m - 1, by omega⟩
    obtain ⟨M, m0, m1, m2⟩ := openTo_eq hF hW hj hg (show v < nd G by omega)
    unfold f_X9_refresh_L56
    rw [if_neg (fun h => by rw [nI_leI (by omega) (by omega)] at h; omega), m1, bS, wr_nI (by omega) (by decide), nI_1]
    refine ih m (v + 1) _ (by omega) (by omega) (fun w hw => ?_)
    by_cases c : w = v
    · subst c; exact ⟨M, m0, up_s _ _ _, m2⟩
    · obtain ⟨M', x1, x2, x3⟩ := h w (by omega)
      exact ⟨M', x1, by rw [up_n c, x2], x3⟩
/-- whom v would rather have than q (v itself: than nobody) -/
def SoO (G : Gr) (rk : Nat → Nat → Int32) (so : Nat → Int32) (v q : Nat) : Prop := ∃ M, M < 65536 ∧ so (v * 16 + q) = nI M ∧ ∀ o, M.testBit o = true ↔ opB G rk v o = true ∧ (q = v ∨ rk v o < rk v q)
theorem sooner33_L {G : Gr} (hW : Wf G) {rk : Nat → Nat → Int32} {gv op : Nat → Int32} (hg : RkO G rk gv) {v : Nat} (hv : v < nd G) (ho : OpO G rk op v) {lim : Int32} {kk : Int32 → Option (Nat → Int32)} :
    ∀ (k m u M : Nat), u + k = nd G → k < m → (∀ o, M.testBit o = true ↔ o < u ∧ opB G rk v o = true ∧ rk v o < lim) → ∃ M', f_X9_findSooner_L33 (nI (nd G)) gv op (nI v) lim kk m (nI M) (nI u) = kk (nI M') ∧ ∀ o, M'.testBit o = true ↔ opB G rk v o = true ∧ rk v o < lim := by
  have hn := hW.1
  obtain ⟨O, o1, o2, o3⟩ := ho
  intro k
  induction k with
  | zero =>
    intro m u M e1 hm h
    obtain ⟨m, rfl⟩ : ∃ k, m = k + 1 := ⟨m - 1, by omega⟩
    refine ⟨M, ?_, fun o => ?_⟩
    · unfold f_X9_findSooner_L33
      rw [if_pos (by rw [nI_leI (by omega) (by omega)]; omega)]
    · rw [h]
      exact ⟨fun x => x.2, fun x => ⟨by have := (opB_in hW x.1).2.1; omega, x⟩⟩
  | succ k ih =>
    intro m u M e1 hm h
    obtain ⟨m, rfl⟩ : ∃ k, m = k + 1 := ⟨m - 1, by omega⟩
    have skip : ¬ (opB G rk v u = true ∧ rk v u < lim) → ∃ M', f_X9_findSooner_L33 (nI (nd G)) gv op (nI v) lim kk m (nI M) (nI (u + 1)) = kk (nI M') ∧ ∀ o, M'.testBit o = true ↔ opB G rk v o = true ∧ rk v o < lim := by
      intro c
      refine ih m (u + 1) M (by omega) (by omega) (fun o => ?_)
      rw [h]
      constructor
      · rintro ⟨x, y⟩; exact ⟨by omega, y⟩
      · rintro ⟨x, y⟩
        by_cases d : o = u
        · subst d; exact absurd y c
        · exact ⟨by omega, y⟩
    unfold f_X9_findSooner_L33
    rw [if_neg (fun h => by rw [nI_leI (by omega) (by omega)] at h; omega), rd_nI (by omega) (by decide), o2, has_nI (by omega) (by omega), nI_1]
    by_cases c : O.testBit u = true
    · rw [if_pos c, if_neg (by decide), cell_nI, rd_nI (by omega) (by decide), hg v u hv (by omega)]
      by_cases d : lim ≤ rk v u
      · rw [if_pos d]
        exact skip (fun x => by have h1 := x.2; rw [Int32.lt_iff_toInt_lt] at h1; rw [Int32.le_iff_toInt_le] at d; omega)
      · have hlt : rk v u < lim := by rw [Int32.lt_iff_toInt_lt]; rw [Int32.le_iff_toInt_le] at d; omega
        rw [if_neg d, shl_nI (by omega), nI_or]
        refine ih m (u + 1) _ (by omega) (by omega) (fun o => ?_)
        rw [Nat.testBit_or, Nat.testBit_two_pow, Bool.or_eq_true, decide_eq_true_eq, h]
        constructor
        · rintro (⟨x, y⟩ | x)
          · exact ⟨by omega, y⟩
          · subst x; exact ⟨by omega, (o3 u).mp c, hlt⟩
        · rintro ⟨x, y⟩
          by_cases e : u = o
          · exact Or.inr e
          · exact Or.inl ⟨by omega, y⟩
    · rw [if_neg c, if_pos rfl]
      exact skip (fun x => c ((o3 u).mpr x.1))
theorem sooner2_L {F : Nat} (hF : 100000 ≤ F) {G : Gr} (hW : Wf G) {rk : Nat → Nat → Int32} {gv op : Nat → Int32} (hg : RkO G rk gv) {v : Nat} (hv : v < nd G) (ho : OpO G rk op v) {kk : (Nat → Int32) → Option (Nat → Int32)} :
    ∀ (k m q : Nat) (so : Nat → Int32), q + k = nd G → k < m → (∀ w, w < q → w ≠ v → SoO G rk so v w) → ∃ so', f_X9_findSooner_L2 F (nI (nd G)) gv op (nI v) kk m (nI q) so = kk so' ∧ (∀ w, w < nd G → w ≠ v → SoO G rk so' v w) ∧ ∀ x, (x < v * 16 ∨ v * 16 + 16 ≤ x) → so' x = so x := by
  have hn := hW.1
  intro k
  induction k with
  | zero =>
    intro m q so e1 hm h
    obtain ⟨m, rfl⟩ : ∃ k, m = k + 1 := ⟨m - 1, by omega⟩
    refine ⟨so, ?_, fun w hw => h w (by omega), fun _ _ => rfl⟩
    unfold f_X9_findSooner_L2
    rw [if_pos (by rw [nI_leI (by omega) (by omega)]; omega)]
  | succ k ih =>
    intro m q so e1 hm h
    obtain ⟨m, rfl⟩ : ∃ k, m = k + 1 := ⟨m - 1, by omega⟩
    obtain ⟨M, m1, m2⟩ := sooner33_L hW hg hv ho (lim := rk v q) (kk := fun M => wr 256 so (f_X11_cell (nI v) (nI q)) M (fun s => f_X9_findSooner_L2 F (nI (nd G)) gv op (nI v) kk m (nI q + 1) s)) (nd G) F 0 0 (by omega) (by omega) (fun o => by
      rw [Nat.zero_testBit]
      exact ⟨fun h => (by cases h), fun h => (by omega)⟩)
    have hM16 : M < 65536 := lt_of_bits (n := 16) (fun o ho => by have := (opB_in hW ((m2 o).mp ho).1).2.1; omega)
    unfold f_X9_findSooner_L2
    rw [if_neg (fun h => by rw [nI_leI (by omega) (by omega)] at h; omega), cell_nI, rd_nI (by omega) (by decide), hg v q hv (by omega)]
    simp only [jn]
    rw [cell_nI] at m1
    rw [z32, m1, wr_nI (by omega) (by decide), nI_1]
    obtain ⟨so', x1, x2, x3⟩ := ih m (q + 1) (va_up so (v * 16 + q) (nI M)) (by omega) (by omega) (fun w hw hwv => by
      by_cases c : w = q
      · subst c
        exact ⟨M, hM16, up_s _ _ _, fun o => by rw [m2]; exact ⟨fun x => ⟨x.1, Or.inr x.2⟩, fun x => ⟨x.1, x.2.elim (fun y => absurd y hwv) id⟩⟩⟩
      · obtain ⟨M', y1, y2, y3⟩ := h w (by omega) hwv
        exact ⟨M', y1, by rw [up_n (by omega), y2], y3⟩)
    exact ⟨so', x1, x2, fun x hx => by rw [x3 x hx, up_n (by omega)]⟩
theorem findSooner_eq {F : Nat} (hF : 100000 ≤ F) {G : Gr} (hW : Wf G) {rk : Nat → Nat → Int32} {gv op : Nat → Int32} (hg : RkO G rk gv) {v : Nat} (hv : v < nd G) (ho : OpO G rk op v) (so : Nat → Int32) : ∃ so', f_X9_findSooner F (nI v) (nI (nd G)) gv op so = some so' ∧ (∀ w, w < nd G → SoO G rk so' v w) ∧ ∀ x, (x < v * 16 ∨ v * 16 + 16 ≤ x) → so' x = so x := by
  have hn := hW.1
  obtain ⟨O, o1, o2, o3⟩ := ho
  obtain ⟨s1, a1, a2, a3⟩ := sooner2_L hF hW hg hv ⟨O, o1, o2, o3⟩ (kk := fun t_sooner_1 => rd 16 op (nI v) (fun y_4 => wr 256 t_sooner_1 (f_X11_cell (nI v) (nI v)) y_4 (fun t_sooner_5 => some t_sooner_5))) (nd G) F 0 so (by omega) (by omega) (fun w hw => by omega)
  unfold f_X9_findSooner
  simp only [jn]
  rw [z32, a1, rd_nI (by omega) (by decide), o2, cell_nI, wr_nI (by omega) (by decide)]
  refine ⟨_, rfl, fun w hw => ?_, fun x hx => by rw [up_n (by omega), a3 x hx]⟩
  by_cases c : w = v
  · subst c
    exact ⟨O, o1, up_s _ _ _, fun o => by rw [o3]; exact ⟨fun x => ⟨x, Or.inl rfl⟩, fun x => x.1⟩⟩
  · obtain ⟨M, m1, m2, m3⟩ := a2 w hw c
    exact ⟨M, m1, by rw [up_n (by omega), m2], m3⟩
theorem sooners_L {F : Nat} (hF : 100000 ≤ F) {G : Gr} (hW : Wf G) {rk : Nat → Nat → Int32} {gv op : Nat → Int32} (hg : RkO G rk gv) (ho : ∀ w, w < nd G → OpO G rk op w) {kk : (Nat → Int32) → Option (Int32 × Int64 × Int32 × Int32 × (Nat → Int64) × (Nat → Int32) × (Nat → Int32) × (Nat → Int32))} :
    ∀ (k m v : Nat) (so : Nat → Int32), v + k = nd G → k < m → (∀ w q, w < v → q < nd G → SoO G rk so w q) → ∃ so', f_X9_refresh_L86 F (nI (nd G)) gv op kk m (nI v) so = kk so' ∧ ∀ w q, w < nd G → q < nd G → SoO G rk so' w q := by
  have hn := hW.1
  intro k
  induction k with
  | zero =>
    intro m v so e1 hm h
    obtain ⟨m, rfl⟩ : ∃ k, m = k + 1 := ⟨m - 1, by omega⟩
    refine ⟨so, ?_, fun w q hw => h w q (by omega)⟩
    unfold f_X9_refresh_L86
    rw [if_pos (by rw [nI_leI (by omega) (by omega)]; omega)]
  | succ k ih =>
    intro m v so e1 hm h
    obtain ⟨m, rfl⟩ : ∃ k, m = k + 1 := ⟨m - 1, by omega⟩
    obtain ⟨s1, a1, a2, a3⟩ := findSooner_eq hF hW hg (show v < nd G by omega) (ho v (by omega)) so
    unfold f_X9_refresh_L86
    rw [if_neg (fun h => by rw [nI_leI (by omega) (by omega)] at h; omega), a1, bS, nI_1]
    refine ih m (v + 1) s1 (by omega) (by omega) (fun w q hw hq => ?_)
    by_cases c : w = v
    · subst c; exact a2 q hq
    · obtain ⟨M, m1, m2, m3⟩ := h w q (by omega) hq
      exact ⟨M, m1, by rw [a3 _ (by omega), m2], m3⟩
def WtO (G : Gr) (rk : Nat → Nat → Int32) (p : Nat → Nat) (wt : Nat → Int32) (v : Nat) : Prop := ∃ M, M < 65536 ∧ wt v = nI M ∧ ∀ o, M.testBit o = true ↔ opB G rk v o = true ∧ Wn rk p v o
theorem tempt_L {G : Gr} (hW : Wf G) {rk : Nat → Nat → Int32} {p : Nat → Nat} {wt : Nat → Int32} {S x M : Nat} (hx : x < nd G) (hS : ∀ v, S.testBit v = true → v < nd G) (hM : M < 65536) (hw : ∀ v, S.testBit v = true → WtO G rk p wt v) :
    ∀ (k m u : Nat), u + k = nd G → k < m → ∃ r, f_X9_isTempted_L18 (nI (nd G)) wt (nI x) (nI S) (nI M) (some 0) m (nI u) = some r ∧ (r = 0 ∨ r = 1) ∧ (r = 0 ↔ ¬ ∃ o, u ≤ o ∧ M.testBit o = true ∧ S.testBit o = true ∧ opB G rk o x = true ∧ Wn rk p o x) := by
  have hn := hW.1
  have hS16 : S < 65536 := lt_of_bits (n := 16) (fun v hv => by have := hS v hv; omega)
  intro k
  induction k with
  | zero =>
    intro m u e1 hm
    obtain ⟨m, rfl⟩ : ∃ k, m = k + 1 := ⟨m - 1, by omega⟩
    refine ⟨0, ?_, Or.inl rfl, fun _ => ?_, fun _ => rfl⟩
    · unfold f_X9_isTempted_L18
      rw [if_pos (by rw [nI_leI (by omega) (by omega)]; omega)]
    · rintro ⟨o, h1, -, h2, -⟩
      have := hS o h2
      omega
  | succ k ih =>
    intro m u e1 hm
    obtain ⟨m, rfl⟩ : ∃ k, m = k + 1 := ⟨m - 1, by omega⟩
    have hand : M &&& S < 65536 := Nat.lt_of_le_of_lt Nat.and_le_right hS16
    unfold f_X9_isTempted_L18
    rw [if_neg (fun h => by rw [nI_leI (by omega) (by omega)] at h; omega), nx_and, has_nI (by omega) (by omega), nI_1]
    have skip : ¬ (M.testBit u = true ∧ S.testBit u = true ∧ opB G rk u x = true ∧ Wn rk p u x) → ∃ r, f_X9_isTempted_L18 (nI (nd G)) wt (nI x) (nI S) (nI M) (some 0) m (nI (u + 1)) = some r ∧ (r = 0 ∨ r = 1) ∧ (r = 0 ↔ ¬ ∃ o, u ≤ o ∧ M.testBit o = true ∧ S.testBit o = true ∧ opB G rk o x = true ∧ Wn rk p o x) := by
      intro c
      obtain ⟨r, r1, r2, r3⟩ := ih m (u + 1) (by omega) (by omega)
      refine ⟨r, r1, r2, r3.trans (not_congr ⟨?_, ?_⟩)⟩
      · rintro ⟨o, h1, h2⟩; exact ⟨o, by omega, h2⟩
      · rintro ⟨o, h1, h2⟩
        by_cases d : o = u
        · subst d; exact absurd h2 c
        · exact ⟨o, by omega, h2⟩
    by_cases c : (M &&& S).testBit u = true
    · rw [if_pos c, if_neg (by decide)]
      rw [Nat.testBit_and, Bool.and_eq_true] at c
      obtain ⟨N, n1, n2, n3⟩ := hw u c.2
      rw [rd_nI (by omega) (by decide), n2, has_nI (by omega) (by omega)]
      by_cases d : N.testBit x = true
      · rw [if_pos d, if_neg (by decide)]
        refine ⟨1, rfl, Or.inr rfl, fun h => absurd h (by decide), fun h => absurd ⟨u, Nat.le_refl _, c.1, c.2, (n3 x).mp d⟩ h⟩
      · rw [if_neg d, if_pos rfl]
        exact skip (fun q => d ((n3 x).mpr q.2.2))
    · rw [if_neg c, if_pos rfl]
      refine skip (fun q => c ?_)
      rw [Nat.testBit_and, q.1, q.2.1]; rfl
theorem tempt_eq {F : Nat} (hF : 100000 ≤ F) {G : Gr} (hW : Wf G) {rk : Nat → Nat → Int32} {p : Nat → Nat} {wt : Nat → Int32} {S x : Nat} (hx : x < nd G) (hS : ∀ v, S.testBit v = true → v < nd G) (hwx : WtO G rk p wt x) (hw : ∀ v, S.testBit v = true → WtO G rk p wt v) : ∃ r, f_X9_isTempted F (nI x) (nI S) (nI (nd G)) wt = some r ∧ (r = 0 ↔ ¬ ∃ o, S.testBit o = true ∧ opB G rk x o = true ∧ Wn rk p x o ∧ Wn rk p o x) := by
  have hn := hW.1
  have hS16 : S < 65536 := lt_of_bits (n := 16) (fun v hv => by have := hS v hv; omega)
  obtain ⟨M, m1, m2, m3⟩ := hwx
  unfold f_X9_isTempted
  rw [rd_nI (by omega) (by decide), m2]
  simp only [jn]
  rw [nx_and]
  by_cases c : M &&& S = 0
  · rw [c, if_pos (show nI 0 = (0 : Int32) from rfl)]
    refine ⟨0, rfl, fun _ => ?_, fun _ => rfl⟩
    rintro ⟨o, h1, h2, h3, -⟩
    exact and_z.mp c ⟨o, (m3 o).mpr ⟨h2, h3⟩, h1⟩
  · have hlt : M &&& S ≤ S := Nat.and_le_right
    rw [if_neg (nI_ne0 (by omega) (by omega)), z32]
    obtain ⟨r, r1, -, r3⟩ := tempt_L hW hx hS m1 hw (nd G) F 0 (by omega) (by omega)
    refine ⟨r, r1, r3.trans (not_congr ⟨?_, ?_⟩)⟩
    · rintro ⟨o, -, h2, h3, h4, h5⟩
      exact ⟨o, h3, ((m3 o).mp h2).1, ((m3 o).mp h2).2, h5⟩
    · rintro ⟨o, h1, h2, h3, h4⟩
      exact ⟨o, Nat.zero_le _, (m3 o).mpr ⟨h2, h3⟩, h1, by rw [opB_sym hW]; exact h2, h4⟩
