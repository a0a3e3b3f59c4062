/-! ===== the reference's hold ===== -/
def Ind (G : Gr) (T I : Nat) : Prop := (∀ v, I.testBit v = true → T.testBit v = true) ∧ ∀ v u, I.testBit v = true → I.testBit u = true → (adj G v).testBit u = false
def Alf (G : Gr) (T a : Nat) : Prop := (∃ I, Ind G T I ∧ pcF 16 I = a) ∧ ∀ I, Ind G T I → pcF 16 I ≤ a
theorem alf_step {G : Gr} (hW : Wf G) {s a0 a1 : Nat} (h0 : 0 < s) (hs : s < 65536) (h1 : Alf G (rst s) a0) (h2 : Alf G (dif (rst s) (adj G (low 16 s))) a1) : Alf G s (if 1 + a1 ≤ a0 then a0 else 1 + a1) := by
  have hl := low_lt (k := 16) h0 hs
  have hlb := low_bit (k := 16) h0 hs
  obtain ⟨⟨I0, i1, i2⟩, i3⟩ := h1
  obtain ⟨⟨I1, j1, j2⟩, j3⟩ := h2
  have hn1 : I1.testBit (low 16 s) = false := by
    cases x : I1.testBit (low 16 s) with
    | false => rfl
    | true => have := j1.1 _ x; rw [dif_bit, rst_bit] at this; simp at this
  have w1 : Ind G s (I1 ||| 2 ^ low 16 s) := by
    refine ⟨fun v hv => ?_, fun v u hv hu => ?_⟩
    · rw [Nat.testBit_or, Nat.testBit_two_pow, Bool.or_eq_true, decide_eq_true_eq] at hv
      rcases hv with hv | hv
      · have := j1.1 v hv; rw [dif_bit, rst_bit] at this; simp at this; exact this.1.1
      · rw [← hv]; exact hlb
    · rw [Nat.testBit_or, Nat.testBit_two_pow, Bool.or_eq_true, decide_eq_true_eq] at hv hu
      rcases hv with hv | hv
      · rcases hu with hu | hu
        · exact j1.2 v u hv hu
        · have := j1.1 v hv
          rw [dif_bit] at this
          simp at this
          rw [adj_sym hW, ← hu]
          exact this.2
      · rcases hu with hu | hu
        · have := j1.1 u hu
          rw [dif_bit] at this
          simp at this
          rw [← hv]
          exact this.2
        · cases x : (adj G v).testBit u with
          | false => rfl
          | true => exact absurd (hv.symm.trans hu) (adj_in hW x).2.2
  have w0 : Ind G s I0 := ⟨fun v hv => by have := i1.1 v hv; rw [rst_bit] at this; simp at this; exact this.1, i1.2⟩
  have up : ∀ I, Ind G s I → pcF 16 I ≤ a0 ∨ pcF 16 I ≤ 1 + a1 := by
    intro I hI
    cases x : I.testBit (low 16 s) with
    | false =>
      left
      refine i3 I ⟨fun v hv => ?_, hI.2⟩
      rw [rst_bit, hI.1 v hv]
      have : ¬ low 16 s = v := fun e => by rw [← e, x] at hv; cases hv
      simp [this]
    | true =>
      right
      have e := pcF_dif 16 I _ hl x
      have := j3 (dif I (2 ^ low 16 s)) ⟨fun v hv => by
        rw [dif_bit, Nat.testBit_two_pow] at hv
        simp at hv
        rw [dif_bit, rst_bit, hI.1 v hv.1, hI.2 _ v x hv.1]
        simp [hv.2], fun v u hv hu => by
        rw [dif_bit, Bool.and_eq_true] at hv hu
        exact hI.2 v u hv.1 hu.1⟩
      omega
  have p1 := pcF_or (k := 16) (s := I1) (j := low 16 s) hl hn1
  by_cases c : 1 + a1 ≤ a0
  · rw [if_pos c]
    exact ⟨⟨I0, w0, i2⟩, fun I hI => by rcases up I hI with z | z <;> omega⟩
  · rw [if_neg c]
    exact ⟨⟨_, w1, by omega⟩, fun I hI => by rcases up I hI with z | z <;> omega⟩
theorem hold33_L {G : Gr} (hW : Wf G) {near : Nat → Int32} (hnr : ∀ v u, v < 16 → u < 16 → near (v * 16 + u) = nI (cnt G (md G) v u)) {v R : Nat} (hv : v < 16) (hR : R < 65536) {kk : Int32 → Option (Int32 × (Nat → Int32))} :
    ∀ (k m u O : Nat), u + k = nd G → k < m → (∀ w, O.testBit w = true ↔ R.testBit w = true ∧ (w < u → (adj G v).testBit w = false)) → f_X12_findHold_L33 (nI (nd G)) near (nI v) kk m (nI O) (nI u) = kk (nI (dif R (adj G v))) := by
  have hn := hW.1
  have hm60 := hW.2.1
  intro k
  induction k with
  | zero =>
    intro m u O e1 hm hO
    obtain ⟨m, rfl⟩ : ∃ k, m = k + 1 := ⟨m - 1, by omega⟩
    have e : O = dif R (adj G v) := by
      apply Nat.eq_of_testBit_eq
      intro j
      rw [Bool.eq_iff_iff, hO, dif_bit, Bool.and_eq_true, Bool.not_eq_true']
      constructor
      · rintro ⟨h1, h2⟩
        refine ⟨h1, ?_⟩
        cases x : (adj G v).testBit j with
        | false => rfl
        | true => have := (adj_in hW x).2.1; rw [h2 (by omega)] at x; cases x
      · rintro ⟨h1, h2⟩; exact ⟨h1, fun _ => h2⟩
    unfold f_X12_findHold_L33
    rw [if_pos (by rw [nI_leI (by omega) (by omega)]; omega), e]
  | succ k ih =>
    intro m u O e1 hm hO
    obtain ⟨m, rfl⟩ : ∃ k, m = k + 1 := ⟨m - 1, by omega⟩
    have hcl := cnt_le (G := G) (md G) v u
    have hcp : 0 < cnt G (md G) v u ↔ (adj G v).testBit u = true := by rw [cnt_pos, adj_bit hW]
    unfold f_X12_findHold_L33
    rw [if_neg (fun h => by rw [nI_leI (by omega) (by omega)] at h; omega), cell2_nI, rd_nI (by omega) (by decide), hnr _ _ hv (by omega)]
    simp only [jn]
    rw [nI_1]
    cases c : (adj G v).testBit u with
    | true =>
      rw [if_neg (fun h => by rw [z32, nI_leI (by omega) (by decide)] at h; have := hcp.mpr c; omega), without_nI _ (by omega)]
      refine ih m (u + 1) _ (by omega) (by omega) (fun w => ?_)
      rw [dif_bit, Nat.testBit_two_pow, Bool.and_eq_true, hO, Bool.not_eq_true', decide_eq_false_iff_not]
      constructor
      · rintro ⟨⟨h1, h2⟩, h3⟩
        exact ⟨h1, fun h => h2 (by omega)⟩
      · rintro ⟨h1, h2⟩
        refine ⟨⟨h1, fun h => h2 (by omega)⟩, fun e => ?_⟩
        subst e
        rw [h2 (by omega)] at c
        cases c
    | false =>
      rw [if_pos (by rw [z32, nI_leI (by omega) (by decide)]; have : ¬ 0 < cnt G (md G) v u := fun h => by rw [hcp.mp h] at c; cases c
                     omega), Int32.and_neg_one]
      refine ih m (u + 1) _ (by omega) (by omega) (fun w => ?_)
      rw [hO]
      constructor
      · rintro ⟨h1, h2⟩
        refine ⟨h1, fun h => ?_⟩
        by_cases e : w = u
        · subst e; exact c
        · exact h2 (by omega)
      · rintro ⟨h1, h2⟩; exact ⟨h1, fun h => h2 (by omega)⟩
theorem hold9_L {F : Nat} (hF : 100000 ≤ F) {G : Gr} (hW : Wf G) {near : Nat → Int32} (hnr : ∀ v u, v < 16 → u < 16 → near (v * 16 + u) = nI (cnt G (md G) v u)) {kk : (Nat → Int32) → Option (Int32 × (Nat → Int32))} :
    ∀ (k m s : Nat) (ap : Nat → Int32), s + k = allN G + 1 → 0 < s → k < m → (∀ t, t < s → ∃ a, a ≤ 16 ∧ ap t = nI a ∧ Alf G t a) → ∃ ap', f_X12_findHold_L9 F (nI (nd G)) near kk m (nI s) ap = kk ap' ∧ ∀ t, t ≤ allN G → ∃ a, a ≤ 16 ∧ ap' t = nI a ∧ Alf G t a := by
  have hn := hW.1
  have ha := allN_lt hW
  intro k
  induction k with
  | zero =>
    intro m s ap e1 h0 hm hc
    obtain ⟨m, rfl⟩ : ∃ k, m = k + 1 := ⟨m - 1, by omega⟩
    refine ⟨ap, ?_, fun t ht => hc t (by omega)⟩
    unfold f_X12_findHold_L9
    rw [mall_eq hW, if_pos ((nI_ltI (by omega) (by omega)).mpr (by omega))]
  | succ k ih =>
    intro m s ap e1 h0 hm hc
    obtain ⟨m, rfl⟩ : ∃ k, m = k + 1 := ⟨m - 1, by omega⟩
    have hs : s < 65536 := by omega
    have hl := low_lt (k := 16) h0 (show s < 2 ^ 16 by omega)
    have hrl := rst_lt h0 hs
    have hdl := dif_le (rst s) (adj G (low 16 s))
    have hrst : nI s &&& (((1 : Int32) <<< (nI (low 16 s) &&& 31)) ^^^ (-1)) = nI (rst s) := without_nI s (by omega)
    obtain ⟨a0, x1, x2, x3⟩ := hc (rst s) (by omega)
    obtain ⟨a1, y1, y2, y3⟩ := hc (dif (rst s) (adj G (low 16 s))) (by omega)
    have hst := alf_step hW h0 hs x3 y3
    have hle : (if 1 + a1 ≤ a0 then a0 else 1 + a1) ≤ 16 := by
      obtain ⟨⟨I, -, i2⟩, -⟩ := hst
      have := pcF_le 16 I
      omega
    unfold f_X12_findHold_L9
    rw [mall_eq hW, if_neg (fun h => by rw [nI_ltI (by omega) (by omega)] at h; omega), mleast_eq hF h0 hs, bS]
    simp only [jn]
    rw [hrst, z32, hold33_L hW hnr hl (show rst s < 65536 by omega) (nd G) F 0 (rst s) (by omega) (by omega) (fun w => ⟨fun h => ⟨h, fun h' => by omega⟩, fun h => h.1⟩), rd_nI (by omega) (by decide), rd_nI (by omega) (by decide), x2, y2, show (1 : Int32) = nI 1 from rfl, nI_add, wr_nI (by omega) (by decide), wr_nI (by omega) (by decide), byte_nI _ (by omega), byte_nI _ (by omega), nI_add]
    have fin : ∀ z, z = (if 1 + a1 ≤ a0 then a0 else 1 + a1) → ∃ ap', f_X12_findHold_L9 F (nI (nd G)) near kk m (nI (s + 1)) (va_up ap s (nI z)) = kk ap' ∧ ∀ t, t ≤ allN G → ∃ a, a ≤ 16 ∧ ap' t = nI a ∧ Alf G t a := by
      intro z hz
      refine ih m (s + 1) _ (by omega) (by omega) (by omega) (fun t ht => ?_)
      by_cases c : t = s
      · subst c
        rw [up_s]
        exact ⟨z, by omega, rfl, by rw [hz]; exact hst⟩
      · rw [up_n c]; exact hc t (by omega)
    by_cases c : 1 + a1 ≤ a0
    · rw [if_pos ((nI_leI (by omega) (by omega)).mpr c)]
      exact fin a0 (by rw [if_pos c])
    · rw [if_neg (fun h => c ((nI_leI (by omega) (by omega)).mp h))]
      exact fin (1 + a1) (by rw [if_neg c])
def Tau (G : Gr) (T r : Nat) : Prop := (∃ H, H < 65536 ∧ Vo G T H ∧ pcF 16 H = r) ∧ ∀ H, H < 65536 → Vo G T H → r ≤ pcF 16 H
theorem Tau_one {G : Gr} {T r q : Nat} (h : Tau G T r) (h' : Tau G T q) : r = q := by
  obtain ⟨⟨X, x0, x1, x2⟩, x3⟩ := h
  obtain ⟨⟨Y, y0, y1, y2⟩, y3⟩ := h'
  have := x3 Y y0 y1
  have := y3 X x0 x1
  omega
theorem pcF_orle {a b : Nat} : ∀ k, pcF k (a ||| b) ≤ pcF k a + pcF k b := by
  intro k
  induction k with
  | zero => exact Nat.le_refl _
  | succ k ih =>
    rw [pcF_s, pcF_s, pcF_s, Nat.testBit_or]
    cases a.testBit k <;> cases b.testBit k <;> simp <;> omega
theorem tau_of {G : Gr} {T a : Nat} (hT : T < 65536) (h : Alf G T a) : a ≤ pcF 16 T ∧ Tau G T (pcF 16 T - a) := by
  obtain ⟨⟨I, i1, i2⟩, i3⟩ := h
  have e1 : pcF 16 T = pcF 16 I + pcF 16 (dif T I) := by
    rw [← pcF_disj (fun i hi => by rw [dif_bit, hi]; simp) 16]
    congr 1
    apply Nat.eq_of_testBit_eq
    intro j
    rw [Nat.testBit_or, dif_bit]
    cases x : I.testBit j with
    | true => rw [i1.1 j x]; rfl
    | false => simp
  refine ⟨by omega, ⟨dif T I, Nat.lt_of_le_of_lt (dif_le _ _) hT, fun v u hv hu hvu => ?_, by omega⟩, fun H hH hV => ?_⟩
  · rw [dif_bit, dif_bit, hv, hu]
    cases x : I.testBit v with
    | false => left; rfl
    | true =>
      right
      cases y : I.testBit u with
      | false => rfl
      | true => rw [i1.2 v u x y] at hvu; cases hvu
  · have h1 := i3 (dif T H) ⟨fun v hv => by rw [dif_bit, Bool.and_eq_true] at hv; exact hv.1, fun v u hv hu => by
      rw [dif_bit, Bool.and_eq_true, Bool.not_eq_true'] at hv hu
      cases x : (adj G v).testBit u with
      | false => rfl
      | true =>
        rcases hV v u hv.1 hu.1 x with z | z
        · rw [hv.2] at z; cases z
        · rw [hu.2] at z; cases z⟩
    have h2 := pcF_orle (a := dif T H) (b := H) 16
    have h3 := pcF_mono 16 T (dif T H ||| H) (fun i _ hi => by
      rw [Nat.testBit_or, dif_bit, hi]
      cases H.testBit i <;> rfl)
    omega
theorem isH_exists {G : Gr} {r : Nat} (h : Tau G (allN G) r) : ∃ H, IsH G H ∧ pcF 16 H = r := by
  obtain ⟨⟨Z, z0, z1, z2⟩, h4⟩ := h
  have hfz := flp_lt Z
  obtain ⟨d, ⟨X, x0, x1, x2, x3⟩, hmin⟩ := pk_least (fun d => ∃ X, X < 65536 ∧ Vo G (allN G) X ∧ pcF 16 X = r ∧ flp X + d = 65536) ⟨65536 - flp Z, Z, z0, z1, z2, by omega⟩
  refine ⟨X, ⟨x0, x1, fun Y y0 y1 => ?_⟩, x2⟩
  have hv := h4 Y y0 y1
  rw [x2]
  by_cases c : r = pcF 16 Y
  · right
    refine ⟨c, ?_⟩
    have hfy := flp_lt Y
    rcases Nat.lt_or_ge (flp X) (flp Y) with e | e
    · exact absurd ⟨Y, y0, y1, c.symm, by omega⟩ (hmin (65536 - flp Y) (by omega))
    · exact e
  · left; omega
theorem first16_lt {H Y v : Nat} (hv : v < 16) (h : ∀ i, i < v → H.testBit i = true → Y.testBit i = true) (hx : H.testBit v = false) (hy : Y.testBit v = true) : flp H < flp Y := by
  have hb : ∀ (X i : Nat), i < 60 → inX (2 ^ 44 * flp X) i = (decide (i < 16) && X.testBit i) := by
    intro X i hi
    unfold inX
    rw [Nat.testBit_two_pow_mul]
    by_cases c : i < 16
    · rw [decide_eq_true (show 59 - i ≥ 44 by omega), decide_eq_true c, Bool.true_and, Bool.true_and, flp_bit, decide_eq_true (show 59 - i - 44 < 16 by omega), Bool.true_and, show 15 - (59 - i - 44) = i by omega]
    · rw [decide_eq_false (show ¬ 59 - i ≥ 44 by omega), decide_eq_false c]; rfl
  have h1 := flp_lt H
  have h2 := flp_lt Y
  have := first_lt (X := 2 ^ 44 * flp H) (Y := 2 ^ 44 * flp Y) (k := v) (by omega) (by omega) (by omega) (fun i hi hx2 => by
    rw [hb _ _ (by omega), decide_eq_true (show i < 16 by omega), Bool.true_and] at hx2 ⊢
    exact h i hi hx2) (by rw [hb _ _ (by omega), hx]; simp) (by rw [hb _ _ (by omega), hy, decide_eq_true hv]; rfl)
  omega
theorem hd_bit (H v j : Nat) : (H % 2 ^ v).testBit j = (decide (j < v) && H.testBit j) := Nat.testBit_mod_two_pow H v j
theorem hd_pc {H v : Nat} (hv : v ≤ 16) : pcF 16 (H % 2 ^ v) = pcF v H := by
  have h := pcF_top (x := H % 2 ^ v) (n := v) (fun i hi => by rw [hd_bit, decide_eq_false (by omega)]; rfl) (16 - v)
  rw [show v + (16 - v) = 16 by omega, pcF_mod] at h
  exact h
theorem tl_pc {H v : Nat} (hv : v ≤ 16) : pcF 16 (dif H (H % 2 ^ v)) + pcF v H = pcF 16 H := by
  rw [← hd_pc hv, ← pcF_disj (fun i hi => by rw [dif_bit, Bool.and_eq_true, Bool.not_eq_true'] at hi; exact hi.2) 16]
  congr 1
  apply Nat.eq_of_testBit_eq
  intro j
  rw [Nat.testBit_or, dif_bit, hd_bit]
  cases H.testBit j <;> cases (decide (j < v)) <;> rfl
/-- what is left behind the first v nodes -/
def LfH (G : Gr) (H v L : Nat) : Prop := ∀ u, L.testBit u = true ↔ u < nd G ∧ ¬ (u < v ∧ H.testBit u = true)
theorem hd_vo {G : Gr} {H v L Z : Nat} (hL : LfH G H v L) (hZ : Vo G L Z) : Vo G (allN G) (H % 2 ^ v ||| Z) := by
  intro a b ha hb hab
  rw [allN_bit] at ha hb
  have ha := of_decide_eq_true ha
  have hb := of_decide_eq_true hb
  rw [Nat.testBit_or, Nat.testBit_or, hd_bit, hd_bit]
  by_cases c : a < v ∧ H.testBit a = true
  · left; rw [decide_eq_true c.1, c.2]; rfl
  · by_cases d : b < v ∧ H.testBit b = true
    · right; rw [decide_eq_true d.1, d.2]; rfl
    · rcases hZ a b ((hL a).mpr ⟨ha, c⟩) ((hL b).mpr ⟨hb, d⟩) hab with z | z
      · left; rw [z]; simp
      · right; rw [z]; simp
theorem need_h {G : Gr} {H v L : Nat} (hH : IsH G H) (hv : v ≤ 16) (hL : LfH G H v L) : Tau G L (pcF 16 H - pcF v H) := by
  have ht := tl_pc (H := H) hv
  refine ⟨⟨dif H (H % 2 ^ v), Nat.lt_of_le_of_lt (dif_le _ _) hH.1, fun a b ha hb hab => ?_, by omega⟩, fun Z hZ hV => ?_⟩
  · obtain ⟨a1, a2⟩ := (hL a).mp ha
    obtain ⟨b1, b2⟩ := (hL b).mp hb
    have h1 := hH.2.1 a b (by rw [allN_bit]; exact decide_eq_true a1) (by rw [allN_bit]; exact decide_eq_true b1) hab
    rw [dif_bit, dif_bit, hd_bit, hd_bit]
    rcases h1 with z | z
    · left
      rw [z, decide_eq_false (fun h => a2 ⟨h, z⟩)]; rfl
    · right
      rw [z, decide_eq_false (fun h => b2 ⟨h, z⟩)]; rfl
  · have hm : H % 2 ^ v < 65536 := Nat.lt_of_le_of_lt (Nat.mod_le _ _) hH.1
    have h1 := hH.2.2 _ (Nat.or_lt_two_pow (n := 16) hm hZ) (hd_vo hL hV)
    have h2 := pcF_orle (a := H % 2 ^ v) (b := Z) 16
    rw [hd_pc hv] at h2
    omega
theorem hold_iff {G : Gr} (hW : Wf G) {H v L r : Nat} (hH : IsH G H) (hv : v < nd G) (hL : LfH G H v L) (hpos : pcF v H < pcF 16 H) (hr : Tau G (dif L (2 ^ v)) r) : r = pcF 16 H - pcF v H - 1 ↔ H.testBit v = true := by
  have hn := hW.1
  constructor
  · intro e
    cases hh : H.testBit v with
    | true => rfl
    | false =>
      exfalso
      obtain ⟨⟨Z, z0, z1, z2⟩, -⟩ := hr
      have hp : 2 ^ v < 65536 := Nat.pow_lt_pow_right (n := 16) (by decide) (by omega)
      have hV : Vo G L (2 ^ v ||| Z) := by
        intro a b ha hb hab
        rw [Nat.testBit_or, Nat.testBit_or, Nat.testBit_two_pow, Nat.testBit_two_pow]
        by_cases c : v = a
        · left; simp [c]
        · by_cases d : v = b
          · right; simp [d]
          · rcases z1 a b (by rw [dif_bit, ha, Nat.testBit_two_pow]; simp [c]) (by rw [dif_bit, hb, Nat.testBit_two_pow]; simp [d]) hab with z | z
            · left; rw [z]; simp
            · right; rw [z]; simp
      have hm : H % 2 ^ v < 65536 := Nat.lt_of_le_of_lt (Nat.mod_le _ _) hH.1
      have h1 := hH.2.2 _ (Nat.or_lt_two_pow (n := 16) hm (Nat.or_lt_two_pow (n := 16) hp z0)) (hd_vo hL hV)
      have h2 := pcF_orle (a := H % 2 ^ v) (b := 2 ^ v ||| Z) 16
      have h3 := pcF_orle (a := 2 ^ v) (b := Z) 16
      rw [hd_pc (by omega)] at h2
      rw [pcF_two (by omega)] at h3
      have h4 := first16_lt (H := H) (Y := H % 2 ^ v ||| (2 ^ v ||| Z)) (v := v) (by omega) (fun i hi hx => by rw [Nat.testBit_or, hd_bit, hx, decide_eq_true hi]; rfl) hh (by rw [Nat.testBit_or, Nat.testBit_or, Nat.testBit_two_pow_self]; simp)
      omega
  · intro h
    have h1 := need_h (v := v + 1) (L := dif L (2 ^ v)) hH (by omega) (fun u => by
      rw [dif_bit, Nat.testBit_two_pow, Bool.and_eq_true, hL, Bool.not_eq_true', decide_eq_false_iff_not]
      constructor
      · rintro ⟨⟨a, b⟩, c⟩
        exact ⟨a, fun x => b ⟨by omega, x.2⟩⟩
      · rintro ⟨a, b⟩
        exact ⟨⟨a, fun x => b ⟨by omega, x.2⟩⟩, fun e => b ⟨by omega, by rw [← e]; exact h⟩⟩)
    rw [pcF_s v, if_pos h] at h1
    rw [Tau_one hr h1]
    omega
theorem pcF_le16 {H v : Nat} (hv : v ≤ 16) : pcF v H ≤ pcF 16 H := by
  have := tl_pc (H := H) hv
  omega
theorem isH_in {G : Gr} (hW : Wf G) {H : Nat} (h : IsH G H) : ∀ v, H.testBit v = true → v < nd G := by
  have hn := hW.1
  intro v hv
  rcases Nat.lt_or_ge v (nd G) with c | c
  · exact c
  · exfalso
    have hv16 := lt16_bit h.1 hv
    have h1 := h.2.2 (dif H (2 ^ v)) (Nat.lt_of_le_of_lt (dif_le _ _) h.1) (fun a b ha hb hab => by
      obtain ⟨n1, n2, -⟩ := adj_in hW hab
      have e1 : ¬ v = a := by omega
      have e2 : ¬ v = b := by omega
      rw [dif_bit, dif_bit, Nat.testBit_two_pow, Nat.testBit_two_pow]
      rcases h.2.1 a b ha hb hab with z | z
      · left; rw [z]; simp [e1]
      · right; rw [z]; simp [e2])
    have h2 := pcF_dif 16 H v hv16 hv
    omega
theorem hold154_L {F : Nat} (hF : 100000 ≤ F) {G : Gr} (hW : Wf G) {ap : Nat → Int32} (hap : ∀ t, t ≤ allN G → ∃ a, a ≤ 16 ∧ ap t = nI a ∧ Alf G t a) {H : Nat} (hH : IsH G H) {kk : Int32 → Option (Int32 × (Nat → Int32))} :
    ∀ (k m v L : Nat), v + k = nd G → k < m → LfH G H v L → f_X12_findHold_L154 F (nI (nd G)) ap kk m (nI L) (nI (pcF 16 H - pcF v H)) (nI v) (nI (H % 2 ^ v)) = kk (nI H) := by
  have hn := hW.1
  have hall := allN_lt hW
  have hp16 := pcF_le 16 H
  -- all of H is found once v passes its last node
  have full : ∀ v, (∀ i, v ≤ i → H.testBit i = false) → H % 2 ^ v = H := by
    intro v hv
    apply Nat.eq_of_testBit_eq
    intro j
    rw [hd_bit]
    by_cases c : j < v
    · rw [decide_eq_true c]; rfl
    · rw [decide_eq_false c, hv j (by omega)]; rfl
  intro k
  induction k with
  | zero =>
    intro m v L e1 hm hL
    obtain ⟨m, rfl⟩ : ∃ k, m = k + 1 := ⟨m - 1, by omega⟩
    unfold f_X12_findHold_L154
    rw [if_pos (by rw [nI_leI (by omega) (by omega)]; omega), full v (fun i hi => by
      cases x : H.testBit i with
      | false => rfl
      | true => have := isH_in hW hH i x; omega)]
  | succ k ih =>
    intro m v L e1 hm hL
    obtain ⟨m, rfl⟩ : ∃ k, m = k + 1 := ⟨m - 1, by omega⟩
    have hle := pcF_le16 (H := H) (v := v) (by omega)
    have hLsub : ∀ u, L.testBit u = true → u < nd G := fun u hu => ((hL u).mp hu).1
    have hL16 : L ≤ allN G := or_ge (fun u hu => by rw [allN_bit]; exact decide_eq_true (hLsub u hu))
    unfold f_X12_findHold_L154
    rw [if_neg (fun h => by rw [nI_leI (by omega) (by omega)] at h; omega)]
    by_cases hz : pcF 16 H = pcF v H
    · rw [if_pos (by rw [z32, nI_leI (by omega) (by decide)]; omega), full v (fun i hi => ?_)]
      cases x : H.testBit i with
      | false => rfl
      | true =>
        exfalso
        have hi16 := lt16_bit hH.1 x
        have h1 := pcF_strict (k := 16) (s := H % 2 ^ v) (t := H) (j := i) (fun j _ hj => by rw [hd_bit, Bool.and_eq_true] at hj; exact hj.2) hi16 (by rw [hd_bit, decide_eq_false (by omega)]; rfl) x
        rw [hd_pc (by omega)] at h1
        omega
    · rw [if_neg (fun h => by rw [z32, nI_leI (by omega) (by decide)] at h; omega), without_nI _ (by omega)]
      have hdle := dif_le L (2 ^ v)
      rw [mbits_eq hF (by omega), bS, rd_nI (by omega) (by decide)]
      obtain ⟨a, a1, a2, a3⟩ := hap (dif L (2 ^ v)) (by omega)
      obtain ⟨r1, r2⟩ := tau_of (by omega) a3
      have hhi := hold_iff hW hH (show v < nd G by omega) hL (by omega) r2
      have hpc := pcF_le 16 (dif L (2 ^ v))
      have hpred : nI (pcF 16 H - pcF v H) - 1 = nI (pcF 16 H - pcF v H - 1) := by
        obtain ⟨q, hq⟩ : ∃ q, pcF 16 H - pcF v H = q + 1 := ⟨pcF 16 H - pcF v H - 1, by omega⟩
        rw [hq]
        exact nI_pred q
      rw [a2, pk_sub r1, hpred]
      cases c : H.testBit v with
      | true =>
        rw [if_pos (by rw [hhi.mpr c]), ← Int32.sub_eq_add_neg, hpred, shl_nI (by omega), nI_or, nI_1]
        have h1 := ih m (v + 1) (dif L (2 ^ v)) (by omega) (by omega) (fun u => by
          rw [dif_bit, Nat.testBit_two_pow, Bool.and_eq_true, hL, Bool.not_eq_true', decide_eq_false_iff_not]
          constructor
          · rintro ⟨⟨a, b⟩, d⟩
            exact ⟨a, fun x => b ⟨by omega, x.2⟩⟩
          · rintro ⟨a, b⟩
            exact ⟨⟨a, fun x => b ⟨by omega, x.2⟩⟩, fun e => b ⟨by omega, by rw [← e]; exact c⟩⟩)
        rw [pcF_s v, if_pos c, show pcF 16 H - (pcF v H + 1) = pcF 16 H - pcF v H - 1 by omega] at h1
        have e : H % 2 ^ v ||| 2 ^ v = H % 2 ^ (v + 1) := by
          apply Nat.eq_of_testBit_eq
          intro j
          rw [Nat.testBit_or, hd_bit, hd_bit, Nat.testBit_two_pow]
          by_cases x : v = j
          · subst x
            rw [decide_eq_true (show v < v + 1 by omega), c]; simp
          · have y : decide (j < v + 1) = decide (j < v) := decide_eq_decide.mpr (by omega)
            rw [y]; simp [x]
        rw [e]
        exact h1
      | false =>
        rw [if_neg (fun h => by rw [hhi.mp ((nI_eq (by omega) (by omega)).mp h)] at c; cases c), nI_1]
        have h1 := ih m (v + 1) L (by omega) (by omega) (fun u => by
          rw [hL]
          constructor
          · rintro ⟨a, b⟩
            refine ⟨a, fun x => ?_⟩
            by_cases y : u = v
            · rw [y, c] at x; cases x.2
            · exact b ⟨by omega, x.2⟩
          · rintro ⟨a, b⟩; exact ⟨a, fun x => b ⟨by omega, x.2⟩⟩)
        rw [pcF_s v, c] at h1
        have e : H % 2 ^ v = H % 2 ^ (v + 1) := by
          apply Nat.eq_of_testBit_eq
          intro j
          rw [hd_bit, hd_bit]
          by_cases x : v = j
          · subst x
            rw [c]; simp
          · have y : decide (j < v + 1) = decide (j < v) := decide_eq_decide.mpr (by omega)
            rw [y]
        rw [e]
        exact h1
theorem mhold_eq {F : Nat} (hF : 100000 ≤ F) {G : Gr} (hW : Wf G) {near : Nat → Int32} (hnr : ∀ v u, v < 16 → u < 16 → near (v * 16 + u) = nI (cnt G (md G) v u)) (ap : Nat → Int32) : ∃ H ap', f_X12_findHold F (nI (nd G)) ap near = some (nI H, ap') ∧ IsH G H := by
  have hn := hW.1
  have hall := allN_lt hW
  unfold f_X12_findHold
  simp only [jn]
  rw [z32, wr_nI (by decide) (by decide), show (1 : Int32) = nI 1 from rfl]
  obtain ⟨ap1, a1, a2⟩ := hold9_L hF hW hnr (kk := fun m_apart_2 => rd 65536 m_apart_2 (f_X12_all (nI (nd G))) (fun y_7 => f_X12_findHold_L154 F (nI (nd G)) m_apart_2 (fun h => some (h, m_apart_2)) F (f_X12_all (nI (nd G))) (nI (nd G) - y_7) (nI 0) (nI 0))) (allN G) F 1 (va_up ap 0 ((nI 0).toInt8.toInt32)) (by omega) (by omega) (by omega) (fun t ht => by
    have : t = 0 := by omega
    subst this
    rw [up_s]
    refine ⟨0, by omega, by decide, ⟨0, ⟨fun v hv => hv, fun v u hv => by rw [Nat.zero_testBit] at hv; cases hv⟩, pcF_0 16⟩, fun I hI => ?_⟩
    have : I = 0 := by
      apply Nat.eq_of_testBit_eq
      intro j
      rw [Nat.zero_testBit]
      cases x : I.testBit j with
      | false => rfl
      | true => have := hI.1 j x; rw [Nat.zero_testBit] at this; cases this
    rw [this, pcF_0]
    exact Nat.le_refl _)
  rw [a1, mall_eq hW, rd_nI (by omega) (by decide)]
  obtain ⟨a, b1, b2, b3⟩ := a2 (allN G) (Nat.le_refl _)
  obtain ⟨r1, r2⟩ := tau_of hall b3
  rw [pcF_all hW] at r1 r2
  obtain ⟨H, h1, h2⟩ := isH_exists r2
  refine ⟨H, ap1, ?_, h1⟩
  rw [b2, pk_sub r1, ← h2]
  have e := hold154_L hF hW a2 h1 (kk := fun h => some (h, ap1)) (nd G) F 0 (allN G) (by omega) (by omega) (fun u => by
    rw [allN_bit, decide_eq_true_eq]
    exact ⟨fun h => ⟨h, fun x => by omega⟩, fun h => h.1⟩)
  have e0 : pcF 16 H - pcF 0 H = pcF 16 H := Nat.sub_zero _
  have e1 : H % 2 ^ 0 = 0 := Nat.mod_one _
  rw [e0, e1] at e
  exact e
