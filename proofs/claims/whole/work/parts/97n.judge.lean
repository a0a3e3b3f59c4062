/-! ===== the reference's judge ===== -/
theorem neg_low64 {k s : Nat} (hk : k ≤ 63) (h0 : 0 < s) (h : s < 2 ^ k) : lN s &&& (-(lN s)) = lN (2 ^ low k s) := by
  obtain ⟨q, hq, hl⟩ := low_spec h0 h
  have hs : s < 2 ^ 63 := Nat.lt_of_lt_of_le h (Nat.pow_le_pow_right (by decide) hk)
  have hn : -(lN s) = lN (2 ^ 64 - (s - 1 + 1)) := by
    apply wb_inj
    show -(BitVec.ofNat 64 s) = BitVec.ofNat 64 _
    apply BitVec.eq_of_toNat_eq
    rw [BitVec.toNat_neg, BitVec.toNat_ofNat, BitVec.toNat_ofNat]
    have : s % 2 ^ 64 = s := Nat.mod_eq_of_lt (by omega)
    rw [this]
    congr 1
    omega
  rw [hn, wb_and (by omega) (by omega)]
  congr 1
  apply Nat.eq_of_testBit_eq
  intro i
  have e1 := bit_mul (low k s) q i
  have e2 := bit_pred (low k s) q i
  rw [← hq] at e1 e2
  rw [Nat.testBit_and, Nat.testBit_two_pow_sub_succ (by omega), e1, e2, Nat.testBit_two_pow]
  by_cases c : i < low k s
  · have d' : ¬ low k s = i := by omega
    simp [c, d']
  · by_cases d : i = low k s
    · subst d
      have : low k s < 64 := by omega
      simp [this]
    · have d' : ¬ low k s = i := fun x => d x.symm
      simp [c, d, d']
      exact fun h _ => h
theorem rv60_bit (X i : Nat) : (rv X 60).testBit i = (decide (i < 60) && inX X i) := rv_bit X 60 i
theorem rv60_inj {X Y : Nat} (hX : X < 2 ^ 60) (hY : Y < 2 ^ 60) (h : rv X 60 = rv Y 60) : X = Y := by
  refine setX_ext hX hY (fun i hi => ?_)
  have h1 := rv60_bit X i
  have h2 := rv60_bit Y i
  rw [decide_eq_true hi, Bool.true_and] at h1 h2
  rw [← h1, ← h2, h]
/-- the lowest place where two sets differ decides -/
theorem first_cmp {X Y : Nat} (hX : X < 2 ^ 60) (hY : Y < 2 ^ 60) : lg_cmp ((lN (rv X 60) &&& (lN (rv X 60) ^^^ lN (rv Y 60))) &&& (-(lN (rv X 60) ^^^ lN (rv Y 60)))) (0 : Int64) = 0 ↔ X ≤ Y := by
  have bX := rv_lt X 60
  have bY := rv_lt Y 60
  rw [lN_xor, Int64.and_assoc]
  have hD : rv X 60 ^^^ rv Y 60 < 2 ^ 60 := Nat.xor_lt_two_pow bX bY
  by_cases c : rv X 60 ^^^ rv Y 60 = 0
  · have e : rv X 60 = rv Y 60 := by
      apply Nat.eq_of_testBit_eq
      intro i
      have := Nat.testBit_xor (rv X 60) (rv Y 60) i
      rw [c, Nat.zero_testBit] at this
      cases x : (rv X 60).testBit i <;> cases y : (rv Y 60).testBit i <;> simp_all
    have e2 := rv60_inj hX hY e
    rw [c]
    have z : lN (rv X 60) &&& (lN 0 &&& -(lN 0)) = lN 0 := by
      have z1 : lN 0 &&& -(lN 0) = lN 0 := by decide
      rw [z1, wb_and (by omega) (by omega), Nat.and_zero]
    rw [z, show (0 : Int64) = lN 0 from rfl, cmp_eq (by decide) (by decide)]
    exact ⟨fun _ => by omega, fun _ => rfl⟩
  · have h0 := Nat.pos_of_ne_zero c
    rw [neg_low64 (k := 60) (by omega) h0 hD]
    have hl := low_lt (k := 60) h0 hD
    have hb := low_bit (k := 60) h0 hD
    have hmin := fun i => low_min (k := 60) (i := i) h0 hD
    generalize low 60 (rv X 60 ^^^ rv Y 60) = l at hl hb hmin
    have hp : 2 ^ l < 2 ^ 60 := Nat.pow_lt_pow_right (by decide) hl
    rw [wb_and (by omega) (by omega), show (0 : Int64) = lN 0 from rfl, cmp_eq (Nat.lt_of_le_of_lt Nat.and_le_right (by omega)) (by decide)]
    rw [Nat.testBit_xor, rv60_bit, rv60_bit, decide_eq_true hl, Bool.true_and, Bool.true_and] at hb
    have hag : ∀ i, i < l → inX X i = inX Y i := fun i hi => by
      have := hmin i hi
      rw [Nat.testBit_xor, rv60_bit, rv60_bit, decide_eq_true (show i < 60 by omega), Bool.true_and, Bool.true_and] at this
      cases x : inX X i <;> cases y : inX Y i <;> simp_all
    have hz : rv X 60 &&& 2 ^ l = 0 ↔ inX X l = false := by
      rw [and_z]
      constructor
      · intro h
        cases x : inX X l with
        | false => rfl
        | true => exact absurd ⟨l, by rw [rv60_bit, decide_eq_true hl, x]; rfl, Nat.testBit_two_pow_self⟩ h
      · rintro h ⟨u, u1, u2⟩
        rw [Nat.testBit_two_pow, decide_eq_true_eq] at u2
        subst u2
        rw [rv60_bit, decide_eq_true hl, h] at u1
        cases u1
    rw [hz]
    cases x : inX X l with
    | true =>
      have y : inX Y l = false := by cases y : inX Y l with | false => rfl | true => rw [x, y] at hb; cases hb
      have := first_lt (X := Y) (Y := X) hY hX hl (fun i hi h => by rw [hag i hi]; exact h) y x
      exact ⟨fun h => (by cases h), fun h => (by omega)⟩
    | false =>
      have y : inX Y l = true := by cases y : inX Y l with | true => rfl | false => rw [x, y] at hb; cases hb
      have := first_lt (X := X) (Y := Y) hX hY hl (fun i hi h => by rw [← hag i hi]; exact h) x y
      exact ⟨fun _ => by omega, fun _ => rfl⟩
def RkV (rk : Nat → Nat → Int32) : Prop := ∀ v u, rk v u = -1 ∨ ∃ r, r < 100 ∧ rk v u = nI r
theorem rk_neg {rk : Nat → Nat → Int32} (h : RkV rk) (v u : Nat) : rk v u < 0 ↔ rk v u = -1 := by
  rcases h v u with c | ⟨r, r1, r2⟩
  · rw [c]; exact ⟨fun _ => rfl, fun _ => by decide⟩
  · rw [r2]
    exact ⟨fun x => absurd x (nI_pos (by omega)), fun x => absurd x (nI_ne_m1 (by omega))⟩
/-- the open arcs from k on -/
def OAk (G : Gr) (rk : Nat → Nat → Int32) (k : Nat) (oa : Nat → Int32) : Prop := ∀ a b, a < 16 → b < 16 → ((∀ i, k ≤ i → i < md G → al G i = true → Jn G i a b → ¬ (rk a b ≠ -1 ∧ rk b a ≠ -1)) ∧ oa (a * 16 + b) = -1) ∨ ∃ j, k ≤ j ∧ j < md G ∧ al G j = true ∧ Jn G j a b ∧ rk a b ≠ -1 ∧ rk b a ≠ -1 ∧ oa (a * 16 + b) = nI j ∧ ∀ i, k ≤ i → i < md G → al G i = true → Jn G i a b → j ≤ i
theorem open29_L {G : Gr} (hW : Wf G) {nodes made : Int32} {fm tm wm am : Nat → Int32} (hC : MG G nodes made fm tm wm am) {rk : Nat → Nat → Int32} (hv : RkV rk) {gv : Nat → Int32} (hg : RkO G rk gv) {kk : (Nat → Int32) → Option (Nat → Int32)} :
    ∀ (k m : Nat) (oa : Nat → Int32), k ≤ md G → k < m → OAk G rk k oa → ∃ oa', f_X12_findOpen_L29 fm tm am gv kk m (nI k - 1) oa = kk oa' ∧ OAk G rk 0 oa' := by
  have hn := hW.1
  have hm60 := hW.2.1
  obtain ⟨-, -, harc⟩ := hC
  intro k
  induction k with
  | zero =>
    intro m oa hk hm h
    obtain ⟨m, rfl⟩ : ∃ k, m = k + 1 := ⟨m - 1, by omega⟩
    refine ⟨oa, ?_, h⟩
    unfold f_X12_findOpen_L29
    rw [if_pos (by decide)]
  | succ k ih =>
    intro m oa hk hm h
    obtain ⟨m, rfl⟩ : ∃ k, m = k + 1 := ⟨m - 1, by omega⟩
    obtain ⟨f1, f2, f3, f4⟩ := harc k (by omega)
    obtain ⟨w1, w2, w3, -⟩ := hW.2.2 k (by omega)
    have hJk : ∀ a b, Jn G k a b ↔ (a = fr G k ∧ b = tt G k) ∨ (a = tt G k ∧ b = fr G k) := by
      intro a b
      constructor
      · rintro (⟨x, y⟩ | ⟨x, y⟩)
        · exact Or.inl ⟨x.symm, y.symm⟩
        · exact Or.inr ⟨y.symm, x.symm⟩
      · rintro (⟨x, y⟩ | ⟨x, y⟩)
        · exact Or.inl ⟨x.symm, y.symm⟩
        · exact Or.inr ⟨y.symm, x.symm⟩
    unfold f_X12_findOpen_L29
    rw [nI_pred, if_neg (nI_pos (by omega)), rd_nI (by omega) (by decide), rd_nI (by omega) (by decide), rd_nI (by omega) (by decide), f1, f2, f4, ← Int32.sub_eq_add_neg]
    have keep : ∀ (x : Int32) (a b : Nat), (al G k = true → Jn G k a b → ¬ (rk a b ≠ -1 ∧ rk b a ≠ -1)) → (((∀ i, k + 1 ≤ i → i < md G → al G i = true → Jn G i a b → ¬ (rk a b ≠ -1 ∧ rk b a ≠ -1)) ∧ x = -1) ∨ ∃ j, k + 1 ≤ j ∧ j < md G ∧ al G j = true ∧ Jn G j a b ∧ rk a b ≠ -1 ∧ rk b a ≠ -1 ∧ x = nI j ∧ ∀ i, k + 1 ≤ i → i < md G → al G i = true → Jn G i a b → j ≤ i) → (((∀ i, k ≤ i → i < md G → al G i = true → Jn G i a b → ¬ (rk a b ≠ -1 ∧ rk b a ≠ -1)) ∧ x = -1) ∨ ∃ j, k ≤ j ∧ j < md G ∧ al G j = true ∧ Jn G j a b ∧ rk a b ≠ -1 ∧ rk b a ≠ -1 ∧ x = nI j ∧ ∀ i, k ≤ i → i < md G → al G i = true → Jn G i a b → j ≤ i) := by
      intro x a b hno hx
      rcases hx with ⟨h1, h2⟩ | ⟨j, j1, j2, j3, j4, j5, j6, j7, j8⟩
      · refine Or.inl ⟨fun i i1 i2 i3 i4 => ?_, h2⟩
        by_cases c : i = k
        · subst c; exact hno i3 i4
        · exact h1 i (by omega) i2 i3 i4
      · refine Or.inr ⟨j, by omega, j2, j3, j4, j5, j6, j7, fun i i1 i2 i3 i4 => ?_⟩
        by_cases c : i = k
        · subst c; exact absurd ⟨j5, j6⟩ (hno i3 i4)
        · exact j8 i (by omega) i2 i3 i4
    have skip : (∀ a b, al G k = true → Jn G k a b → ¬ (rk a b ≠ -1 ∧ rk b a ≠ -1)) → ∃ oa', f_X12_findOpen_L29 fm tm am gv kk m (nI k - 1) oa = kk oa' ∧ OAk G rk 0 oa' := fun hno => ih m oa (by omega) (by omega) (fun a b ha hb => keep _ a b (hno a b) (h a b ha hb))
    by_cases c1 : al G k = true
    · rw [if_pos c1, if_neg (by decide), cell2_nI, rd_nI (by omega) (by decide), hg _ _ w1 w2]
      by_cases c2 : rk (fr G k) (tt G k) = -1
      · rw [if_pos ((rk_neg hv _ _).mpr c2)]
        refine skip (fun a b _ hJ => ?_)
        rcases (hJk a b).mp hJ with ⟨y, z⟩ | ⟨y, z⟩
        · rw [y, z]; exact fun q => q.1 c2
        · rw [y, z]; exact fun q => q.2 c2
      · rw [if_neg (fun q => c2 ((rk_neg hv _ _).mp q)), cell2_nI, rd_nI (by omega) (by decide), hg _ _ w2 w1]
        by_cases c3 : rk (tt G k) (fr G k) = -1
        · rw [if_pos ((rk_neg hv _ _).mpr c3)]
          refine skip (fun a b _ hJ => ?_)
          rcases (hJk a b).mp hJ with ⟨y, z⟩ | ⟨y, z⟩
          · rw [y, z]; exact fun q => q.2 c3
          · rw [y, z]; exact fun q => q.1 c3
        · rw [if_neg (fun q => c3 ((rk_neg hv _ _).mp q)), wr_nI (by omega) (by decide), wr_nI (by omega) (by decide)]
          refine ih m _ (by omega) (by omega) (fun a b ha hb => ?_)
          by_cases q : Jn G k a b
          · have hcell : va_up (va_up oa (fr G k * 16 + tt G k) (nI k)) (tt G k * 16 + fr G k) (nI k) (a * 16 + b) = nI k := by
              rcases (hJk a b).mp q with ⟨y, z⟩ | ⟨y, z⟩
              · rw [y, z, up_n (by omega), up_s]
              · rw [y, z, up_s]
            rw [hcell]
            refine Or.inr ⟨k, Nat.le_refl _, by omega, c1, q, ?_, ?_, rfl, fun i i1 _ _ _ => i1⟩
            · rcases (hJk a b).mp q with ⟨y, z⟩ | ⟨y, z⟩ <;> rw [y, z] <;> assumption
            · rcases (hJk a b).mp q with ⟨y, z⟩ | ⟨y, z⟩ <;> rw [y, z] <;> assumption
          · have hcell : va_up (va_up oa (fr G k * 16 + tt G k) (nI k)) (tt G k * 16 + fr G k) (nI k) (a * 16 + b) = oa (a * 16 + b) := by
              rw [up_n (fun y => q ((hJk a b).mpr (Or.inr ((cell_inj hb (by omega)).mp y)))), up_n (fun y => q ((hJk a b).mpr (Or.inl ((cell_inj hb (by omega)).mp y))))]
            rw [hcell]
            exact keep _ a b (fun _ y => absurd y q) (h a b ha hb)
    · rw [if_neg c1, if_pos rfl]
      exact skip (fun a b y => absurd y c1)
theorem open2_L {kk : (Nat → Int32) → Option (Nat → Int32)} : ∀ (k m j : Nat) (oa : Nat → Int32), j + k = 256 → k < m → (∀ i, i < j → oa i = -1) → ∃ oa', f_X12_findOpen_L2 kk m (nI j) oa = kk oa' ∧ ∀ i, i < 256 → oa' i = -1 := by
  intro k
  induction k with
  | zero =>
    intro m j oa e1 hm h
    obtain ⟨m, rfl⟩ : ∃ k, m = k + 1 := ⟨m - 1, by omega⟩
    refine ⟨oa, ?_, fun i hi => h i (by omega)⟩
    unfold f_X12_findOpen_L2
    rw [if_pos (show (256 : Int32) ≤ nI j from (nI_leI (a := 256) (by decide) (by omega)).mpr (by omega))]
  | succ k ih =>
    intro m j oa e1 hm h
    obtain ⟨m, rfl⟩ : ∃ k, m = k + 1 := ⟨m - 1, by omega⟩
    unfold f_X12_findOpen_L2
    rw [if_neg (show ¬ (256 : Int32) ≤ nI j from fun h => by rw [show (256 : Int32) = nI 256 from rfl, nI_leI (by decide) (by omega)] at h; omega), wr_nI (by omega) (by decide), nI_1]
    refine ih m (j + 1) _ (by omega) (by omega) (fun i hi => ?_)
    by_cases c : i = j
    · rw [c, up_s]
    · rw [up_n c]; exact h i (by omega)
def OAO (G : Gr) (rk : Nat → Nat → Int32) (ar : Nat → Nat → Nat) (oa : Nat → Int32) : Prop := ∀ a b, a < 16 → b < 16 → oa (a * 16 + b) = if opB G rk a b = true then nI (ar a b) else -1
theorem findOpen_eq {F : Nat} (hF : 100000 ≤ F) {G : Gr} (hW : Wf G) {nodes made : Int32} {fm tm wm am : Nat → Int32} (hC : MG G nodes made fm tm wm am) {rk : Nat → Nat → Int32} (hv : RkV rk) {gv : Nat → Int32} (hg : RkO G rk gv) {ar : Nat → Nat → Nat} (har : ArOK G ar) (oa : Nat → Int32) : ∃ oa', f_X12_findOpen F made fm tm am gv oa = some oa' ∧ OAO G rk ar oa' := by
  have hn := hW.1
  have hm60 := hW.2.1
  have hmd := hC.2.1
  obtain ⟨o1, a1, a2⟩ := open2_L (kk := fun o => f_X12_findOpen_L29 fm tm am gv (fun x => some x) F (made - 1) o) 256 F 0 oa (by omega) (by omega) (fun i hi => by omega)
  obtain ⟨o2, b1, b2⟩ := open29_L hW hC hv hg (kk := fun x => some x) (md G) F o1 (Nat.le_refl _) (by omega) (fun a b ha hb => Or.inl ⟨fun i i1 i2 => by omega, a2 _ (by omega)⟩)
  refine ⟨o2, ?_, fun a b ha hb => ?_⟩
  · unfold f_X12_findOpen
    simp only [jn]
    rw [z32, a1, hmd]
    exact b1
  · rcases b2 a b ha hb with ⟨h1, h2⟩ | ⟨j, j1, j2, j3, j4, j5, j6, j7, j8⟩
    · rw [h2, if_neg]
      intro q
      obtain ⟨q1, q2, q3⟩ := opB_iff.mp q
      obtain ⟨i, i1, i2, i3⟩ := (adj_bit hW a b).mp q1
      exact h1 i (Nat.zero_le _) i1 i2 i3 ⟨q2, q3⟩
    · have hadj : (adj G a).testBit b = true := (adj_bit hW a b).mpr ⟨j, j2, j3, j4⟩
      rw [if_pos (opB_iff.mpr ⟨hadj, j5, j6⟩), j7]
      obtain ⟨r1, r2, r3, r4⟩ := har a b hadj
      have := j8 _ (Nat.zero_le _) r1 r2 r3
      have := r4 j j2 j3 j4
      rw [show j = ar a b by omega]
/-- the array of partners -/
def WiO (G : Gr) (S : Nat) (p : Nat → Nat) (wt : Nat → Int32) : Prop := ∀ v, v < 16 → wt v = if S.testBit v = true ∧ p v ≠ v then nI (p v) else -1
theorem wants_eq {G : Gr} (hW : Wf G) {rk : Nat → Nat → Int32} {gv : Nat → Int32} (hg : RkO G rk gv) {S : Nat} {p : Nat → Nat} {wt : Nat → Int32} (hw : WiO G S p wt) {v u : Nat} (hv : v < nd G) (hu : u < nd G) (hS : S.testBit v = true) (hp : p v < nd G) : ∃ r, f_X12_wants (nI v) (nI u) gv wt = some r ∧ (r = 0 ↔ ¬ Wn rk p v u) := by
  have hn := hW.1
  unfold f_X12_wants
  by_cases c : p v = v
  · have hwv : wt v = -1 := by rw [hw v (by omega), if_neg (fun x => x.2 c)]
    rw [rd_nI (by omega) (by decide), hwv, if_pos (by decide)]
    exact ⟨1, rfl, fun h => absurd h (by decide), fun h => absurd (Or.inl c) h⟩
  · have hwv : wt v = nI (p v) := by rw [hw v (by omega), if_pos ⟨hS, c⟩]
    rw [rd_nI (by omega) (by decide), hwv, if_neg (nI_pos (by omega)), cell2_nI, rd_nI (by omega) (by decide), hg v u hv hu, rd_nI (by omega) (by decide), hwv, cell2_nI, rd_nI (by omega) (by decide), hg v (p v) hv hp]
    by_cases d : rk v (p v) ≤ rk v u
    · rw [if_pos d]
      refine ⟨0, rfl, fun _ h => ?_, fun _ => rfl⟩
      rcases h with h | h
      · exact c h
      · rw [Int32.lt_iff_toInt_lt] at h; rw [Int32.le_iff_toInt_le] at d; omega
    · rw [if_neg d]
      refine ⟨1, rfl, fun h => absurd h (by decide), fun h => absurd (Or.inr ?_) h⟩
      rw [Int32.lt_iff_toInt_lt]; rw [Int32.le_iff_toInt_le] at d; omega
theorem judge48_L {G : Gr} (hW : Wf G) {rk : Nat → Nat → Int32} {gv oa : Nat → Int32} (hg : RkO G rk gv) {ar : Nat → Nat → Nat} (har : ArOK G ar) (hoa : OAO G rk ar oa) {S : Nat} {p : Nat → Nat} {wt : Nat → Int32} (hw : WiO G S p wt) (hS : ∀ v, v < nd G → S.testBit v = true) (hp : ∀ v, v < nd G → p v < nd G) {st : Int32} {fs : Int64} {v : Nat} (hv : v < nd G) {kk : Option (Int32 × Int64)} :
    ∀ (c m u : Nat), u + c = nd G → c < m → ((∃ w, u ≤ w ∧ w < nd G ∧ opB G rk v w = true ∧ Wn rk p v w ∧ Wn rk p w v) ∧ f_X12_judge_L48 (nI (nd G)) gv oa wt st fs (nI v) kk m (nI u) = some (st, fs)) ∨ ((¬ ∃ w, u ≤ w ∧ w < nd G ∧ opB G rk v w = true ∧ Wn rk p v w ∧ Wn rk p w v) ∧ f_X12_judge_L48 (nI (nd G)) gv oa wt st fs (nI v) kk m (nI u) = kk) := by
  have hn := hW.1
  have hm60 := hW.2.1
  intro c
  induction c with
  | zero =>
    intro m u e1 hm
    obtain ⟨m, rfl⟩ : ∃ k, m = k + 1 := ⟨m - 1, by omega⟩
    refine Or.inr ⟨fun ⟨w, h1, h2, _⟩ => by omega, ?_⟩
    unfold f_X12_judge_L48
    rw [if_pos (by rw [nI_leI (by omega) (by omega)]; omega)]
  | succ c ih =>
    intro m u e1 hm
    obtain ⟨m, rfl⟩ : ∃ k, m = k + 1 := ⟨m - 1, by omega⟩
    unfold f_X12_judge_L48
    rw [if_neg (fun h => by rw [nI_leI (by omega) (by omega)] at h; omega), cell2_nI, rd_nI (by omega) (by decide), nI_1]
    have skip : ¬ (opB G rk v u = true ∧ Wn rk p v u ∧ Wn rk p u v) → ((∃ w, u ≤ w ∧ w < nd G ∧ opB G rk v w = true ∧ Wn rk p v w ∧ Wn rk p w v) ∧ f_X12_judge_L48 (nI (nd G)) gv oa wt st fs (nI v) kk m (nI (u + 1)) = some (st, fs)) ∨ ((¬ ∃ w, u ≤ w ∧ w < nd G ∧ opB G rk v w = true ∧ Wn rk p v w ∧ Wn rk p w v) ∧ f_X12_judge_L48 (nI (nd G)) gv oa wt st fs (nI v) kk m (nI (u + 1)) = kk) := by
      intro q
      rcases ih m (u + 1) (by omega) (by omega) with ⟨⟨w, w1, w2⟩, h2⟩ | ⟨h1, h2⟩
      · exact Or.inl ⟨⟨w, by omega, w2⟩, h2⟩
      · refine Or.inr ⟨fun ⟨w, w1, w2, w3⟩ => ?_, h2⟩
        by_cases d : w = u
        · subst d; exact q w3
        · exact h1 ⟨w, by omega, w2, w3⟩
    by_cases d : opB G rk v u = true
    · have hr := (har v u (opB_iff.mp d).1).1
      have ho : oa (v * 16 + u) = nI (ar v u) := by rw [hoa v u (by omega) (by omega), if_pos d]
      rw [ho, if_neg (nI_pos (by omega))]
      obtain ⟨r1, r2, r3⟩ := wants_eq hW hg hw hv (show u < nd G by omega) (hS v hv) (hp v hv)
      obtain ⟨s1, s2, s3⟩ := wants_eq hW hg hw (show u < nd G by omega) hv (hS u (by omega)) (hp u (by omega))
      rw [r2, bS]
      by_cases e : r1 = 0
      · rw [if_pos e]; exact skip (fun q => (r3.mp e) q.2.1)
      · rw [if_neg e, s2, bS]
        by_cases f : s1 = 0
        · rw [if_pos f]; exact skip (fun q => (s3.mp f) q.2.2)
        · rw [if_neg f]
          exact Or.inl ⟨⟨u, Nat.le_refl _, by omega, d, Classical.byContradiction (fun q => e (r3.mpr q)), Classical.byContradiction (fun q => f (s3.mpr q))⟩, rfl⟩
    · have ho : oa (v * 16 + u) = -1 := by rw [hoa v u (by omega) (by omega), if_neg d]
      rw [ho, if_pos (by decide)]
      exact skip (fun q => d q.1)
/-- the arcs of the first k nodes -/
def jR (ar : Nat → Nat → Nat) (p : Nat → Nat) : Nat → Nat
  | 0 => 0
  | v + 1 => if v < p v then jR ar p v ||| 2 ^ ar v (p v) else jR ar p v
theorem jR_s (ar : Nat → Nat → Nat) (p : Nat → Nat) (v : Nat) : jR ar p (v + 1) = if v < p v then jR ar p v ||| 2 ^ ar v (p v) else jR ar p v := rfl
theorem jR_bit {ar : Nat → Nat → Nat} {p : Nat → Nat} {i : Nat} : ∀ k, (jR ar p k).testBit i = true ↔ ∃ v, v < k ∧ v < p v ∧ i = ar v (p v) := by
  intro k
  induction k with
  | zero => unfold jR; rw [Nat.zero_testBit]; exact ⟨fun h => (by cases h), fun ⟨v, h, _⟩ => (by omega)⟩
  | succ k ih =>
    rw [jR_s]
    by_cases c : k < p k
    · rw [if_pos c, Nat.testBit_or, Nat.testBit_two_pow, Bool.or_eq_true, decide_eq_true_eq, ih]
      constructor
      · rintro (⟨v, h1, h2⟩ | h)
        · exact ⟨v, by omega, h2⟩
        · exact ⟨k, by omega, c, h.symm⟩
      · rintro ⟨v, h1, h2, h3⟩
        by_cases d : v = k
        · subst d; exact Or.inr h3.symm
        · exact Or.inl ⟨v, by omega, h2, h3⟩
    · rw [if_neg c, ih]
      constructor
      · rintro ⟨v, h1, h2⟩; exact ⟨v, by omega, h2⟩
      · rintro ⟨v, h1, h2, h3⟩
        by_cases d : v = k
        · subst d; exact absurd h2 c
        · exact ⟨v, by omega, h2, h3⟩
theorem judge4_L {F : Nat} (hF : 100000 ≤ F) {G : Gr} (hW : Wf G) {rk : Nat → Nat → Int32} {gv oa : Nat → Int32} (hg : RkO G rk gv) {ar : Nat → Nat → Nat} (har : ArOK G ar) (hoa : OAO G rk ar oa) {S : Nat} {p : Nat → Nat} {wt : Nat → Int32} (hw : WiO G S p wt) (hS : ∀ v, v < nd G → S.testBit v = true) (hp : ∀ v, v < nd G → p v < nd G) (hop : ∀ v, v < nd G → p v ≠ v → opB G rk v (p v) = true) {st : Int32} {fs : Int64} {kk : Int64 → Option (Int32 × Int64)} :
    ∀ (c m v : Nat), v + c = nd G → c < m → jR ar p v < 2 ^ 60 → ((∃ a w, v ≤ a ∧ a < w ∧ w < nd G ∧ opB G rk a w = true ∧ Wn rk p a w ∧ Wn rk p w a) ∧ f_X12_judge_L4 F (nI (nd G)) gv oa wt st fs kk m (lN (jR ar p v)) (nI v) = some (st, fs)) ∨ ((¬ ∃ a w, v ≤ a ∧ a < w ∧ w < nd G ∧ opB G rk a w = true ∧ Wn rk p a w ∧ Wn rk p w a) ∧ f_X12_judge_L4 F (nI (nd G)) gv oa wt st fs kk m (lN (jR ar p v)) (nI v) = kk (lN (jR ar p (nd G)))) := by
  have hn := hW.1
  have hm60 := hW.2.1
  intro c
  induction c with
  | zero =>
    intro m v e1 hm hj
    obtain ⟨m, rfl⟩ : ∃ k, m = k + 1 := ⟨m - 1, by omega⟩
    refine Or.inr ⟨fun ⟨a, w, h1, h2, h3, _⟩ => by omega, ?_⟩
    unfold f_X12_judge_L4
    rw [if_pos (by rw [nI_leI (by omega) (by omega)]; omega), show v = nd G by omega]
  | succ c ih =>
    intro m v e1 hm hj
    obtain ⟨m, rfl⟩ : ∃ k, m = k + 1 := ⟨m - 1, by omega⟩
    -- the arc of this node
    have hj2 : jR ar p (v + 1) < 2 ^ 60 := by
      rw [jR_s]
      by_cases q : v < p v
      · rw [if_pos q]
        have := (har v (p v) (opB_iff.mp (hop v (by omega) (by omega))).1).1
        exact Nat.or_lt_two_pow hj (Nat.pow_lt_pow_right (by decide) (by omega))
      · rw [if_neg q]; exact hj
    have key : f_X12_judge_L4 F (nI (nd G)) gv oa wt st fs kk (m + 1) (lN (jR ar p v)) (nI v) = f_X12_judge_L48 (nI (nd G)) gv oa wt st fs (nI v) (f_X12_judge_L4 F (nI (nd G)) gv oa wt st fs kk m (lN (jR ar p (v + 1))) (nI (v + 1))) F (nI (v + 1)) := by
      rw [jR_s]
      conv => lhs; unfold f_X12_judge_L4
      rw [if_neg (fun h => by rw [nI_leI (by omega) (by omega)] at h; omega), rd_nI (by omega) (by decide)]
      simp only [jn]
      by_cases q : p v = v
      · have hwv : wt v = -1 := by rw [hw v (by omega), if_neg (fun x => x.2 q)]
        rw [hwv, if_pos (show (-1 : Int32) ≤ nI v from by rw [Int32.le_iff_toInt_le, nI_toInt (by omega)]; show (-1 : Int) ≤ v; omega), if_neg (by omega), nI_1]
      · have hwv : wt v = nI (p v) := by rw [hw v (by omega), if_pos ⟨hS v (by omega), q⟩]
        rw [hwv]
        have hpv := hp v (by omega)
        by_cases r : v < p v
        · have hopv := hop v (by omega) q
          have hr := (har v (p v) (opB_iff.mp hopv).1).1
          have ho : oa (v * 16 + p v) = nI (ar v (p v)) := by rw [hoa v (p v) (by omega) (by omega), if_pos hopv]
          rw [if_neg (fun h => by rw [nI_leI (by omega) (by omega)] at h; omega), if_pos r, rd_nI (by omega) (by decide), hwv, cell2_nI, rd_nI (by omega) (by decide), ho, nI_1]
          have e1 : (1 : Int64) <<< ((nI (ar v (p v))).toInt64 &&& 63) = lN (2 ^ ar v (p v)) := by
            have := wb_shl 1 (k := ar v (p v)) (by omega)
            rw [Nat.one_mul] at this
            exact this
          have hp2 : 2 ^ ar v (p v) < 2 ^ 60 := Nat.pow_lt_pow_right (by decide) (by omega)
          rw [e1, wb_or (by omega) (by omega)]
        · rw [if_pos ((nI_leI (by omega) (by omega)).mpr (by omega)), if_neg r, nI_1]
    rw [key]
    rcases judge48_L hW hg har hoa hw hS hp (st := st) (fs := fs) (show v < nd G by omega) (kk := f_X12_judge_L4 F (nI (nd G)) gv oa wt st fs kk m (lN (jR ar p (v + 1))) (nI (v + 1))) (nd G - (v + 1)) F (v + 1) (by omega) (by omega) with ⟨⟨w, w1, w2, w3⟩, h2⟩ | ⟨h1, h2⟩
    · rw [h2]
      exact Or.inl ⟨⟨v, w, Nat.le_refl _, by omega, w2, w3⟩, rfl⟩
    · rw [h2]
      rcases ih m (v + 1) (by omega) (by omega) hj2 with ⟨⟨a, w, a1, a2⟩, h4⟩ | ⟨h3, h4⟩
      · exact Or.inl ⟨⟨a, w, by omega, a2⟩, h4⟩
      · refine Or.inr ⟨fun ⟨a, w, a1, a2, a3, a4⟩ => ?_, h4⟩
        by_cases d : a = v
        · subst d; exact h1 ⟨w, by omega, a3, a4⟩
        · exact h3 ⟨a, w, by omega, a2, a3, a4⟩
theorem judge_eq {F : Nat} (hF : 100000 ≤ F) {G : Gr} (hW : Wf G) {rk : Nat → Nat → Int32} {gv oa : Nat → Int32} (hg : RkO G rk gv) {ar : Nat → Nat → Nat} (har : ArOK G ar) (hoa : OAO G rk ar oa) {S : Nat} {p : Nat → Nat} {wt : Nat → Int32} (hw : WiO G S p wt) (hS : ∀ v, v < nd G → S.testBit v = true) (hp : ∀ v, v < nd G → p v < nd G) (hop : ∀ v, v < nd G → p v ≠ v → opB G rk v (p v) = true) {X : Nat} (hX : X < 2 ^ 60) (hXb : ∀ i, i < 60 → (inX X i = true ↔ ∃ v, v < nd G ∧ v < p v ∧ i = ar v (p v))) {J : (Nat → Nat) → Nat → Nat × Nat → Nat × Nat} (hJ : JOK G rk J) {t f : Nat} (ht : t < 2 ^ 30) (hf : f < 2 ^ 60) (h0 : t = 0 → f = 0) :
    f_X12_judge F (nI (nd G)) gv oa wt (nI t) (lN (rv f 60)) = some (nI (J p X (t, f)).1, lN (rv (J p X (t, f)).2 60)) := by
  have hn := hW.1
  have hm60 := hW.2.1
  have hRX : jR ar p (nd G) = rv X 60 := by
    apply Nat.eq_of_testBit_eq
    intro i
    rw [Bool.eq_iff_iff, jR_bit, rv60_bit, Bool.and_eq_true, decide_eq_true_eq]
    constructor
    · rintro ⟨v, h1, h2, h3⟩
      have := (har v (p v) (opB_iff.mp (hop v h1 (by omega))).1).1
      exact ⟨by omega, (hXb i (by omega)).mpr ⟨v, h1, h2, h3⟩⟩
    · rintro ⟨h1, h2⟩; exact (hXb i h1).mp h2
  have hblk : Blk G rk (allN G) p ↔ ∃ a w, 0 ≤ a ∧ a < w ∧ w < nd G ∧ opB G rk a w = true ∧ Wn rk p a w ∧ Wn rk p w a := by
    constructor
    · rintro ⟨v, o, -, -, h3, h4, h5⟩
      obtain ⟨n1, n2, n3⟩ := opB_in hW h3
      rcases Nat.lt_or_ge v o with c | c
      · exact ⟨v, o, Nat.zero_le _, c, n2, h3, h4, h5⟩
      · exact ⟨o, v, Nat.zero_le _, by omega, n1, by rw [opB_sym hW]; exact h3, h5, h4⟩
    · rintro ⟨a, w, -, h2, h3, h4, h5, h6⟩
      exact ⟨a, w, by rw [allN_bit]; exact decide_eq_true (by omega), by rw [allN_bit]; exact decide_eq_true h3, h4, h5, h6⟩
  unfold f_X12_judge
  simp only [jn]
  rcases judge4_L hF hW hg har hoa hw hS hp hop (st := nI t) (fs := lN (rv f 60)) (kk := fun v1_1 => (if nI t = 0 then some (nI t + 1, v1_1) else (if (lg_cmp ((v1_1 &&& (v1_1 ^^^ lN (rv f 60))) &&& (-(v1_1 ^^^ lN (rv f 60)))) (0 : Int64)) = 0 then some (nI t + 1, lN (rv f 60)) else some (nI t + 1, v1_1)))) (nd G) F 0 (by omega) (by omega) (by show (0 : Nat) < 2 ^ 60; decide) with ⟨h1, h2⟩ | ⟨h1, h2⟩
  · have h2' := h2
    rw [(hJ p X (t, f)).1 (hblk.mpr h1)]
    exact h2
  · refine Eq.trans h2 ?_
    rw [(hJ p X (t, f)).2 (fun q => h1 (hblk.mp q)), hRX]
    show _ = some (nI (t + 1), lN (rv (if X < f then f else X) 60))
    rw [nI_1]
    by_cases c : t = 0
    · subst c
      rw [if_pos (show nI 0 = (0 : Int32) from rfl), h0 rfl, if_neg (by omega)]
    · rw [if_neg (nI_ne0 (by omega) (by omega))]
      have hcm := first_cmp hX hf
      by_cases d : X ≤ f
      · rw [if_pos (hcm.mpr d)]
        by_cases e : X < f
        · rw [if_pos e]
        · rw [if_neg e, show X = f by omega]
      · rw [if_neg (fun q => d (hcm.mp q)), if_neg (by omega)]
