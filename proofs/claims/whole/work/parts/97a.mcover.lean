/-! ===== the reference's cover: nodes less pairs, and the arcs one by one ===== -/
theorem mt0_c {G : Gr} {X : Nat} (h : Mt G 0 X) : cX X 60 = 0 := by
  have : X = 0 := setX_ext h.1 (by decide) (fun i hi => by
    cases c : inX X i with
    | false => unfold inX; rw [Nat.zero_testBit]
    | true => have := (h.2.1 i hi c).2.2.1; rw [Nat.zero_testBit] at this; cases this)
  rw [this, cX_0]
theorem cX_or {A B : Nat} : ∀ k, cX (A ||| B) k ≤ cX A k + cX B k := by
  intro k
  induction k with
  | zero => exact Nat.le_refl _
  | succ k ih =>
    rw [cX_s, cX_s, cX_s, inX_or]
    cases inX A k <;> cases inX B k <;> simp <;> omega
theorem cX_mkA {i : Nat} (hi : i < 60) : cX (mkA i) 60 = 1 := by
  have h := cX_add (X := 0) hi (by unfold inX; exact Nat.zero_testBit _)
  rw [Nat.zero_add, cX_0] at h
  exact h
theorem inX_mkA {i j : Nat} (hi : i < 60) (hj : j < 60) : inX (mkA i) j = decide (j = i) := by
  have h := inX_add (X := 0) hi (by unfold inX; exact Nat.zero_testBit _) hj
  rw [Nat.zero_add] at h
  rw [h]
  unfold inX
  rw [Nat.zero_testBit]
  rfl
theorem Cw_or {G : Gr} {s t u A B : Nat} (hA : Cw G s A) (hB : Cw G t B) (h : ∀ v, u.testBit v = true → s.testBit v = true ∨ t.testBit v = true) : Cw G u (A ||| B) := by
  refine ⟨Nat.or_lt_two_pow hA.1 hB.1, fun i hi hx => ?_, fun v hv => ?_⟩
  · rw [inX_or] at hx
    rcases Bool.or_eq_true _ _ |>.mp hx with c | c
    · exact hA.2.1 i hi c
    · exact hB.2.1 i hi c
  · rcases h v hv with c | c
    · obtain ⟨i, i1, i2, i3⟩ := hA.2.2 v c
      exact ⟨i, i1, by rw [inX_or, i2]; rfl, i3⟩
    · obtain ⟨i, i1, i2, i3⟩ := hB.2.2 v c
      exact ⟨i, i1, by rw [inX_or, i2]; simp, i3⟩
theorem Cw_one {G : Gr} (hW : Wf G) {i : Nat} (hi : i < md G) (ha : al G i = true) : Cw G (2 ^ fr G i ||| 2 ^ tt G i) (mkA i) := by
  have h60 := hW.2.1
  refine ⟨mkA_lt, fun j hj hx => ?_, fun v hv => ?_⟩
  · rw [inX_mkA (by omega) hj] at hx
    have := of_decide_eq_true hx
    subst this
    exact ⟨hi, ha⟩
  · refine ⟨i, by omega, by rw [inX_mkA (by omega) (by omega)]; simp, ?_⟩
    rw [Nat.testBit_or, Nat.testBit_two_pow, Nat.testBit_two_pow, Bool.or_eq_true, decide_eq_true_eq, decide_eq_true_eq] at hv
    exact hv
theorem rhoA {G : Gr} (hW : Wf G) : ∀ (c T Y : Nat), T ≤ c → T < 65536 → Cw G T Y → ∃ X, Mt G T X ∧ pcF 16 T ≤ cX Y 60 + cX X 60 := by
  have h16 := hW.1
  have zero : ∀ Y, ∃ X, Mt G 0 X ∧ pcF 16 0 ≤ cX Y 60 + cX X 60 := fun Y => ⟨0, mt_0 G 0, by rw [show pcF 16 0 = 0 by decide]; omega⟩
  intro c
  induction c with
  | zero =>
    intro T Y hc hT hC
    have : T = 0 := by omega
    subst this
    exact zero Y
  | succ c ih =>
    intro T Y hc hT hC
    by_cases h0 : T = 0
    · subst h0; exact zero Y
    · have h0 : 0 < T := by omega
      have hl := low_lt (k := 16) h0 hT
      have hrl := rst_lt h0 hT
      obtain ⟨i, i1, i2, i3⟩ := hC.2.2 _ (low_bit (k := 16) h0 hT)
      obtain ⟨b1, b2⟩ := hC.2.1 i i1 i2
      obtain ⟨w1, w2, w3, -⟩ := hW.2.2 i b1
      obtain ⟨u, hJ, hun⟩ : ∃ u, Jn G i (low 16 T) u ∧ u < nd G := by
        rcases i3 with x | x
        · exact ⟨tt G i, Or.inl ⟨x, rfl⟩, w2⟩
        · exact ⟨fr G i, Or.inr ⟨rfl, x⟩, w1⟩
      have hne : low 16 T ≠ u := by rcases hJ with ⟨x, y⟩ | ⟨x, y⟩ <;> omega
      have hcx := cX_dif i1 i2
      have hp1 : pcF 16 (rst T) + 1 = pcF 16 T := pcF_dif 16 T _ hl (low_bit (k := 16) h0 hT)
      cases hub : T.testBit u with
      | false =>
        have hC' : Cw G (rst T) (dif Y (mkA i)) := Cw_dif hC i1 (fun v hv => by
          rw [rst_bit] at hv
          simp at hv
          have : v ≠ u := fun e => by rw [e, hub] at hv; cases hv.1
          refine ⟨hv.1, ?_, ?_⟩ <;> rcases hJ with ⟨x, y⟩ | ⟨x, y⟩ <;> omega)
        obtain ⟨X, x1, x2⟩ := ih (rst T) _ (by omega) (by omega) hC'
        exact ⟨X, mt_sub (fun v hv => by rw [rst_bit] at hv; simp at hv; exact hv.1) x1, by omega⟩
      | true =>
        have hru : (rst T).testBit u = true := by
          rw [rst_bit, hub]
          simp [hne]
        have hle := dif_le (rst T) (2 ^ u)
        have hp2 : pcF 16 (dif (rst T) (2 ^ u)) + 1 = pcF 16 (rst T) := pcF_dif 16 _ _ (by omega) hru
        have hC' : Cw G (dif (rst T) (2 ^ u)) (dif Y (mkA i)) := Cw_dif hC i1 (fun v hv => by
          rw [rst2_bit] at hv
          simp at hv
          refine ⟨hv.1.1, ?_, ?_⟩ <;> rcases hJ with ⟨x, y⟩ | ⟨x, y⟩ <;> omega)
        obtain ⟨X, x1, x2⟩ := ih _ _ (by omega) (by omega) hC'
        obtain ⟨m1, m2⟩ := mt_add hW h0 hT hru x1 b1 b2 hJ
        exact ⟨X + mkA i, m2, by rw [cX_add i1 m1]; omega⟩
def Tch (G : Gr) (v : Nat) : Prop := ∃ i, i < md G ∧ al G i = true ∧ (fr G i = v ∨ tt G i = v)
theorem rhoB {G : Gr} (hW : Wf G) : ∀ (c T X : Nat), T ≤ c → T < 65536 → (∀ v, T.testBit v = true → Tch G v) → Mt G T X → ∃ Y, Cw G T Y ∧ cX Y 60 + cX X 60 ≤ pcF 16 T := by
  have h16 := hW.1
  have h60 := hW.2.1
  have hz : ∀ i, inX 0 i = false := fun i => by unfold inX; exact Nat.zero_testBit _
  have zero : ∀ X, Mt G 0 X → ∃ Y, Cw G 0 Y ∧ cX Y 60 + cX X 60 ≤ pcF 16 0 := fun X hX => ⟨0, ⟨by decide, fun i _ h => (by rw [hz] at h; cases h), fun v hv => by rw [Nat.zero_testBit] at hv; cases hv⟩, by rw [mt0_c hX, cX_0]; omega⟩
  intro c
  induction c with
  | zero =>
    intro T X hc hT hA hX
    have : T = 0 := by omega
    subst this
    exact zero X hX
  | succ c ih =>
    intro T X hc hT hA hX
    by_cases h0 : T = 0
    · subst h0; exact zero X hX
    · have h0 : 0 < T := by omega
      have hl := low_lt (k := 16) h0 hT
      have hrl := rst_lt h0 hT
      have hp1 : pcF 16 (rst T) + 1 = pcF 16 T := pcF_dif 16 T _ hl (low_bit (k := 16) h0 hT)
      rcases mt_split hW h0 hT hX with ⟨h1, -⟩ | ⟨u, i, h1, h2, h3, h4, h5, h6, h7, h8, h9⟩
      · obtain ⟨Y, y1, y2⟩ := ih (rst T) X (by omega) (by omega) (fun v hv => by rw [rst_bit] at hv; simp at hv; exact hA v hv.1) h1
        obtain ⟨i, i1, i2, i3⟩ := hA _ (low_bit (k := 16) h0 hT)
        refine ⟨Y ||| mkA i, Cw_or y1 (Cw_one hW i1 i2) (fun v hv => ?_), ?_⟩
        · by_cases e : low 16 T = v
          · right
            rw [Nat.testBit_or, Nat.testBit_two_pow, Nat.testBit_two_pow, Bool.or_eq_true, decide_eq_true_eq, decide_eq_true_eq, ← e]
            exact i3
          · left; rw [rst_bit, hv]; simp [e]
        · have := cX_or (A := Y) (B := mkA i) 60
          rw [cX_mkA (by omega)] at this
          omega
      · have hle := dif_le (rst T) (2 ^ u)
        have hp2 : pcF 16 (dif (rst T) (2 ^ u)) + 1 = pcF 16 (rst T) := pcF_dif 16 _ _ (by omega) h4
        obtain ⟨Y, y1, y2⟩ := ih _ (dif X (mkA i)) (by omega) (by omega) (fun v hv => by rw [rst2_bit] at hv; simp at hv; exact hA v hv.1.1) h9
        have hcx := cX_dif (show i < 60 by omega) h8
        refine ⟨Y ||| mkA i, Cw_or y1 (Cw_one hW h5 h6) (fun v hv => ?_), ?_⟩
        · by_cases e : low 16 T = v
          · right
            rw [Nat.testBit_or, Nat.testBit_two_pow, Nat.testBit_two_pow, Bool.or_eq_true, decide_eq_true_eq, decide_eq_true_eq]
            rcases h7 with ⟨x, y⟩ | ⟨x, y⟩ <;> omega
          · by_cases f : u = v
            · right
              rw [Nat.testBit_or, Nat.testBit_two_pow, Nat.testBit_two_pow, Bool.or_eq_true, decide_eq_true_eq, decide_eq_true_eq]
              rcases h7 with ⟨x, y⟩ | ⟨x, y⟩ <;> omega
            · left; rw [rst2_bit, hv]; simp [e, f]
        · have := cX_or (A := Y) (B := mkA i) 60
          rw [cX_mkA (by omega)] at this
          omega
def Rho (G : Gr) (T r : Nat) : Prop := (∃ Y, Cw G T Y ∧ cX Y 60 = r) ∧ ∀ Y, Cw G T Y → r ≤ cX Y 60
theorem Rho_one {G : Gr} {T r q : Nat} (h : Rho G T r) (h' : Rho G T q) : r = q := by
  obtain ⟨⟨X, x1, x2⟩, x3⟩ := h
  obtain ⟨⟨Y, y1, y2⟩, y3⟩ := h'
  have := x3 Y y1
  have := y3 X x1
  omega
theorem rho_of {G : Gr} (hW : Wf G) {T mu : Nat} (hT : T < 65536) (hA : ∀ v, T.testBit v = true → Tch G v) (hm : Mx G T mu) : mu ≤ pcF 16 T ∧ Rho G T (pcF 16 T - mu) := by
  obtain ⟨⟨X, x1, x2⟩, x3⟩ := hm
  obtain ⟨Y, y1, y2⟩ := rhoB hW T T X (Nat.le_refl _) hT hA x1
  have low : ∀ Y, Cw G T Y → pcF 16 T - mu ≤ cX Y 60 := by
    intro Y hY
    obtain ⟨Z, z1, z2⟩ := rhoA hW T T Y (Nat.le_refl _) hT hY
    have := x3 Z z1
    omega
  have := low Y y1
  exact ⟨by omega, ⟨Y, y1, by omega⟩, low⟩
theorem cX_tail {X k : Nat} (hk : k ≤ 60) : cX (tailX X k) 60 + cX X k = cX X 60 := by
  have h := sumX_tail (val := fun _ => 1) (X := X) hk 60 (Nat.le_refl _)
  rw [sum1, sum1, sum1] at h
  by_cases c : 60 ≤ k
  · have e : k = 60 := by omega
    subst e
    rw [if_pos c] at h
    omega
  · rw [if_neg c] at h
    omega
theorem cX_head {X k : Nat} (hk : k ≤ 60) : cX (headX X k) 60 = cX X k := by
  have h := sumX_head (val := fun _ => 1) (X := X) hk
  rw [sum1, sum1] at h
  omega
theorem cX_rest {X k : Nat} (h : cX X 60 = cX X k) : ∀ i, k ≤ i → i < 60 → inX X i = false := by
  intro i h1 h2
  cases c : inX X i with
  | false => rfl
  | true =>
    have a1 := cX_mono (X := X) (i + 1) (60 - (i + 1))
    have a2 := cX_mono (X := X) k (i - k)
    rw [show i + 1 + (60 - (i + 1)) = 60 by omega, cX_s, if_pos c] at a1
    rw [show k + (i - k) = i by omega] at a2
    omega
theorem head_cw {G : Gr} {X k L Z : Nat} (hX : IsC G X) (hk : k ≤ 60) (hL : LeftOf G X k L) (hZ : Cw G L Z) : Cw G (allN G) (headX X k ||| Z) := by
  refine ⟨Nat.or_lt_two_pow (Nat.lt_of_le_of_lt (dif_le _ _) hX.1.1) hZ.1, fun i hi hx => ?_, fun v hv => ?_⟩
  · rw [inX_or, inX_head hi hk] at hx
    rcases Bool.or_eq_true _ _ |>.mp hx with c | c
    · simp at c
      exact hX.1.2.1 i hi c.1
    · exact hZ.2.1 i hi c
  · by_cases c : L.testBit v = true
    · obtain ⟨i, i1, i2, i3⟩ := hZ.2.2 v c
      exact ⟨i, i1, by rw [inX_or, i2]; simp, i3⟩
    · rw [allN_bit] at hv
      have hv := of_decide_eq_true hv
      have : ∃ i, i < k ∧ inX X i = true ∧ (fr G i = v ∨ tt G i = v) := Classical.byContradiction (fun h => c ((hL v).mpr ⟨hv, fun i hi hx => ⟨fun e => h ⟨i, hi, hx, Or.inl e⟩, fun e => h ⟨i, hi, hx, Or.inr e⟩⟩⟩))
      obtain ⟨i, i1, i2, i3⟩ := this
      exact ⟨i, by omega, by rw [inX_or, inX_head (by omega) hk, i2, decide_eq_true i1]; rfl, i3⟩
theorem need_cw {G : Gr} {X k L : Nat} (hX : IsC G X) (hk : k ≤ 60) (hL : LeftOf G X k L) : Rho G L (cX X 60 - cX X k) := by
  have ht := cX_tail (X := X) hk
  refine ⟨⟨tailX X k, ⟨tailX_lt hX.1.1, fun i hi hx => ?_, fun v hv => ?_⟩, by omega⟩, fun Z hZ => ?_⟩
  · rw [inX_tail hi hk] at hx
    simp at hx
    exact hX.1.2.1 i hi hx.1
  · obtain ⟨h1, h2⟩ := (hL v).mp hv
    obtain ⟨i, i1, i2, i3⟩ := hX.1.2.2 v (by rw [allN_bit]; exact decide_eq_true h1)
    refine ⟨i, i1, ?_, i3⟩
    have hki : k ≤ i := by
      rcases Nat.lt_or_ge i k with c | c
      · obtain ⟨x, y⟩ := h2 i c i2
        rcases i3 with z | z
        · exact absurd z x
        · exact absurd z y
      · exact c
    rw [inX_tail i1 hk, i2, decide_eq_true hki]; rfl
  · have h1 := hX.2 _ (head_cw hX hk hL hZ)
    have h2 := cX_or (A := headX X k) (B := Z) 60
    rw [cX_head hk] at h2
    omega
theorem cover_iff {G : Gr} (hW : Wf G) {X k L r : Nat} (hX : IsC G X) (hk : k < md G) (ha : al G k = true) (hL : LeftOf G X k L) (hpos : cX X k < cX X 60) (hr : Rho G (dif L (2 ^ fr G k ||| 2 ^ tt G k)) r) : r = cX X 60 - cX X k - 1 ↔ inX X k = true := by
  have h60 := hW.2.1
  constructor
  · intro e
    cases hh : inX X k with
    | true => rfl
    | false =>
      exfalso
      obtain ⟨⟨Z, z1, z2⟩, -⟩ := hr
      have hZ2 : Cw G L (mkA k ||| Z) := Cw_or (Cw_one hW hk ha) z1 (fun v hv => by
        rw [dif_bit, hv]
        cases (2 ^ fr G k ||| 2 ^ tt G k).testBit v <;> simp)
      have e1 := head_cw hX (by omega) hL hZ2
      have h1 := hX.2 _ e1
      have h2 := cX_or (A := headX X k) (B := mkA k ||| Z) 60
      have h3 := cX_or (A := mkA k) (B := Z) 60
      rw [cX_head (by omega)] at h2
      rw [cX_mkA (by omega)] at h3
      have h4 := first_lt (X := X) (Y := headX X k ||| (mkA k ||| Z)) hX.1.1 e1.1 (by omega) (fun i hi hx => by
        rw [inX_or, inX_head (by omega) (by omega), hx, decide_eq_true hi]; rfl) hh (by
        rw [inX_or, inX_or, inX_mkA (by omega) (by omega)]; simp)
      omega
  · intro h
    have h1 := need_cw hX (show k + 1 ≤ 60 by omega) (left_in h hL)
    rw [cX_s X k, if_pos h] at h1
    rw [Rho_one hr h1]
    omega
theorem dif_dif (a b c : Nat) : dif (dif a b) c = dif a (b ||| c) := by
  apply Nat.eq_of_testBit_eq
  intro j
  rw [dif_bit, dif_bit, dif_bit, Nat.testBit_or]
  cases a.testBit j <;> cases b.testBit j <;> cases c.testBit j <;> rfl
theorem cover102_L {F : Nat} (hF : 100000 ≤ F) {G : Gr} (hW : Wf G) {nodes made : Int32} {fm tm wm am : Nat → Int32} (hC : MG G nodes made fm tm wm am) {most : Nat → Int32} (hm : ∀ t, t ≤ allN G → Mb G 0 t (most t)) {X : Nat} (hX : IsC G X) {kk : (Nat → Int32) → Option (Int32 × (Nat → Int32))} :
    ∀ (k m i L : Nat) (ic : Nat → Int32), i + k = md G → k < m → LeftOf G X i L → (∀ j, j < md G → ic j = if j < i ∧ inX X j = true then 1 else 0) → ∃ ic', f_X12_findCover_L102 F made fm tm am most kk m (nI L) (nI (cX X 60 - cX X i)) (nI i) ic = kk ic' ∧ ∀ j, j < md G → ic' j = if inX X j = true then 1 else 0 := by
  have hn := hW.1
  have hm60 := hW.2.1
  have hall := allN_lt hW
  have hc60 := cX_le X 60
  obtain ⟨-, rfl, harc⟩ := hC
  have htouch : ∀ v, v < nd G → Tch G v := by
    intro v hv
    obtain ⟨i, i1, i2, i3⟩ := hX.1.2.2 v (by rw [allN_bit]; exact decide_eq_true hv)
    obtain ⟨b1, b2⟩ := hX.1.2.1 i i1 i2
    exact ⟨i, b1, b2, i3⟩
  intro k
  induction k with
  | zero =>
    intro m i L ic e1 hmm hL hi
    obtain ⟨m, rfl⟩ : ∃ k, m = k + 1 := ⟨m - 1, by omega⟩
    refine ⟨ic, ?_, fun j hj => ?_⟩
    · unfold f_X12_findCover_L102
      rw [if_pos (by rw [nI_leI (by omega) (by omega)]; omega)]
    · rw [hi j hj]
      by_cases c : inX X j = true
      · rw [if_pos c, if_pos ⟨by omega, c⟩]
      · rw [if_neg c, if_neg (fun h => c h.2)]
  | succ k ih =>
    intro m i L ic e1 hmm hL hi
    obtain ⟨m, rfl⟩ : ∃ k, m = k + 1 := ⟨m - 1, by omega⟩
    obtain ⟨f1, f2, f3, f4⟩ := harc i (by omega)
    obtain ⟨w1, w2, w3, -⟩ := hW.2.2 i (by omega)
    have hmono := cX_mono (X := X) i (60 - i)
    rw [show i + (60 - i) = 60 by omega] at hmono
    have hLsub : ∀ v, L.testBit v = true → v < nd G := fun v hv => ((hL v).mp hv).1
    have hL16 : L ≤ allN G := or_ge (fun v hv => by rw [allN_bit]; exact decide_eq_true (hLsub v hv))
    unfold f_X12_findCover_L102
    rw [if_neg (fun h => by rw [nI_leI (by omega) (by omega)] at h; omega)]
    by_cases hz : cX X 60 = cX X i
    · rw [if_pos (by rw [z32, nI_leI (by omega) (by decide)]; omega)]
      refine ⟨ic, rfl, fun j hj => ?_⟩
      rw [hi j hj]
      by_cases c : inX X j = true
      · have : j < i := by
          rcases Nat.lt_or_ge j i with x | x
          · exact x
          · rw [cX_rest hz j x (by omega)] at c; cases c
        rw [if_pos c, if_pos ⟨this, c⟩]
      · rw [if_neg c, if_neg (fun h => c h.2)]
    · rw [if_neg (fun h => by rw [z32, nI_leI (by omega) (by decide)] at h; omega), rd_nI (by omega) (by decide), f4, nI_1]
      have skip : inX X i = false → ∃ ic', f_X12_findCover_L102 F (nI (md G)) fm tm am most kk m (nI L) (nI (cX X 60 - cX X i)) (nI (i + 1)) ic = kk ic' ∧ ∀ j, j < md G → ic' j = if inX X j = true then 1 else 0 := by
        intro c
        have := ih m (i + 1) L ic (by omega) (by omega) (left_out c hL) (fun j hj => by
          rw [hi j hj]
          by_cases d : inX X j = true
          · have : j ≠ i := fun e => by rw [e, c] at d; cases d
            by_cases f : j < i
            · rw [if_pos ⟨f, d⟩, if_pos ⟨by omega, d⟩]
            · rw [if_neg (fun h => f h.1), if_neg (fun h => by omega)]
          · rw [if_neg (fun h => d h.2), if_neg (fun h => d h.2)])
        rw [cX_s X i, c] at this
        exact this
      by_cases ca : al G i = true
      · rw [if_pos ca, if_neg (by decide), rd_nI (by omega) (by decide), rd_nI (by omega) (by decide), f1, f2]
        simp only [ltt]
        rw [without_nI _ (by omega), without_nI _ (by omega), dif_dif]
        have hdle := dif_le L (2 ^ fr G i ||| 2 ^ tt G i)
        rw [mbits_eq hF (by omega), bS, rd_nI (by omega) (by decide)]
        obtain ⟨mu, mu1, mu2, mu3⟩ := mb0 hW (hm (dif L (2 ^ fr G i ||| 2 ^ tt G i)) (by omega))
        obtain ⟨r1, r2⟩ := rho_of hW (by omega) (fun v hv => htouch v (hLsub v (by rw [dif_bit] at hv; simp at hv; exact hv.1))) mu3
        have hci := cover_iff hW hX (show i < md G by omega) ca hL (by omega) r2
        have hpc := pcF_le 16 (dif L (2 ^ fr G i ||| 2 ^ tt G i))
        have hpred : nI (cX X 60 - cX X i) - 1 = nI (cX X 60 - cX X i - 1) := by
          obtain ⟨q, hq⟩ : ∃ q, cX X 60 - cX X i = q + 1 := ⟨cX X 60 - cX X i - 1, by omega⟩
          rw [hq]
          exact nI_pred q
        rw [mu1, pk_sub r1, hpred]
        by_cases c : inX X i = true
        · rw [if_pos (by rw [hci.mpr c]), wr_nI (by omega) (by decide), ← Int32.sub_eq_add_neg, hpred]
          have := ih m (i + 1) (dif L (2 ^ fr G i ||| 2 ^ tt G i)) (va_up ic i 1) (by omega) (by omega) (left_in c hL) (fun j hj => by
            by_cases d : j = i
            · subst d; rw [up_s, if_pos ⟨by omega, c⟩]
            · rw [up_n d, hi j hj]
              by_cases f : j < i ∧ inX X j = true
              · rw [if_pos f, if_pos ⟨by omega, f.2⟩]
              · rw [if_neg f, if_neg (fun h => f ⟨by omega, h.2⟩)])
          rw [cX_s X i, if_pos c, show cX X 60 - (cX X i + 1) = cX X 60 - cX X i - 1 by omega] at this
          exact this
        · rw [if_neg (fun h => c (hci.mp ((nI_eq (by omega) (by omega)).mp h)))]
          exact skip (by cases x : inX X i with | false => rfl | true => exact absurd x c)
      · rw [if_neg ca, if_pos rfl]
        refine skip ?_
        cases x : inX X i with
        | false => rfl
        | true => exact absurd (hX.1.2.1 i (by omega) x).2 ca
theorem cover4_L {G : Gr} (hW : Wf G) {nodes made : Int32} {fm tm wm am : Nat → Int32} (hC : MG G nodes made fm tm wm am) {kk : Int32 → (Nat → Int32) → Option (Int32 × (Nat → Int32))} :
    ∀ (k m i T : Nat) (ic : Nat → Int32), i + k = md G → k < m → (∀ v, T.testBit v = true ↔ ∃ j, j < i ∧ al G j = true ∧ (fr G j = v ∨ tt G j = v)) → (∀ j, j < i → ic j = 0) → ∃ T' ic', f_X12_findCover_L4 made fm tm am kk m (nI T) (nI i) ic = kk (nI T') ic' ∧ (∀ v, T'.testBit v = true ↔ Tch G v) ∧ ∀ j, j < md G → ic' j = 0 := by
  have hn := hW.1
  have hm60 := hW.2.1
  obtain ⟨-, rfl, harc⟩ := hC
  intro k
  induction k with
  | zero =>
    intro m i T ic e1 hm hT hi
    obtain ⟨m, rfl⟩ : ∃ k, m = k + 1 := ⟨m - 1, by omega⟩
    have e : i = md G := by omega
    refine ⟨T, ic, ?_, fun v => by rw [hT v, e]; rfl, fun j hj => hi j (by omega)⟩
    unfold f_X12_findCover_L4
    rw [if_pos (by rw [nI_leI (by omega) (by omega)]; omega)]
  | succ k ih =>
    intro m i T ic e1 hm hT hi
    obtain ⟨m, rfl⟩ : ∃ k, m = k + 1 := ⟨m - 1, by omega⟩
    obtain ⟨f1, f2, f3, f4⟩ := harc i (by omega)
    obtain ⟨w1, w2, w3, -⟩ := hW.2.2 i (by omega)
    have hi' : ∀ j, j < i + 1 → va_up ic i 0 j = 0 := fun j hj => by
      by_cases d : j = i
      · rw [d, up_s]
      · rw [up_n d]; exact hi j (by omega)
    unfold f_X12_findCover_L4
    rw [if_neg (fun h => by rw [nI_leI (by omega) (by omega)] at h; omega), wr_nI (by omega) (by decide), rd_nI (by omega) (by decide), f4]
    simp only [jn]
    rw [nI_1]
    by_cases c : al G i = true
    · rw [if_pos c, if_neg (by decide), rd_nI (by omega) (by decide), rd_nI (by omega) (by decide), f1, f2, shl_nI (by omega), shl_nI (by omega), nI_or, nI_or]
      refine ih m (i + 1) _ _ (by omega) (by omega) (fun v => ?_) hi'
      rw [Nat.testBit_or, Nat.testBit_or, Nat.testBit_two_pow, Nat.testBit_two_pow, Bool.or_eq_true, Bool.or_eq_true, decide_eq_true_eq, decide_eq_true_eq, hT]
      constructor
      · rintro (⟨j, h1, h2⟩ | h)
        · exact ⟨j, by omega, h2⟩
        · exact ⟨i, by omega, c, h⟩
      · rintro ⟨j, h1, h2, h3⟩
        by_cases d : j = i
        · subst d; exact Or.inr h3
        · exact Or.inl ⟨j, by omega, h2, h3⟩
    · rw [if_neg c, if_pos rfl, z32, nI_or, Nat.or_zero]
      refine ih m (i + 1) _ _ (by omega) (by omega) (fun v => ?_) hi'
      rw [hT]
      constructor
      · rintro ⟨j, h1, h2⟩; exact ⟨j, by omega, h2⟩
      · rintro ⟨j, h1, h2, h3⟩
        by_cases d : j = i
        · subst d; exact absurd h2 c
        · exact ⟨j, by omega, h2, h3⟩
theorem isC_exists {G : Gr} {r : Nat} (h : Rho G (allN G) r) : ∃ X, IsC G X ∧ cX X 60 = r := by
  obtain ⟨⟨Z, z1, z2⟩, h4⟩ := h
  obtain ⟨d, ⟨X, x1, x2, x3⟩, hmin⟩ := pk_least (fun d => ∃ X, Cw G (allN G) X ∧ cX X 60 = r ∧ X + d = 2 ^ 60) ⟨2 ^ 60 - Z, Z, z1, z2, by have := z1.1; omega⟩
  refine ⟨X, ⟨x1, fun Y y1 => ?_⟩, x2⟩
  have hv := h4 Y y1
  rw [x2]
  by_cases c : r = cX Y 60
  · right
    refine ⟨c, ?_⟩
    rcases Nat.lt_or_ge X Y with e | e
    · exact absurd ⟨Y, y1, c.symm, by have := y1.1; omega⟩ (hmin (2 ^ 60 - Y) (by have := y1.1; omega))
    · exact e
  · left; omega
def MC (G : Gr) (cs : Int32) (ic : Nat → Int32) : Prop := (cs = -3 ∧ ∀ Y, ¬ Cw G (allN G) Y) ∨ ∃ X, IsC G X ∧ cs = nI (cX X 60) ∧ ∀ j, j < md G → ic j = if inX X j = true then 1 else 0
theorem mcover_eq {F : Nat} (hF : 100000 ≤ F) {G : Gr} (hW : Wf G) {nodes made : Int32} {fm tm wm am : Nat → Int32} (hC : MG G nodes made fm tm wm am) {most : Nat → Int32} (hm : ∀ t, t ≤ allN G → Mb G 0 t (most t)) (ic : Nat → Int32) : ∃ cs ic', f_X12_findCover F nodes made fm tm am most ic = some (cs, ic') ∧ MC G cs ic' := by
  have hn := hW.1
  have hm60 := hW.2.1
  have hall := allN_lt hW
  have hnod := hC.1
  subst hnod
  unfold f_X12_findCover
  simp only [jn]
  rw [z32, mall_eq hW]
  obtain ⟨T, ic1, a1, a2, a3⟩ := cover4_L hW hC (kk := fun v1 c1 => if v1 = nI (allN G) then rd 65536 most (nI (allN G)) (fun y => f_X12_findCover_L102 F made fm tm am most (fun c => some (nI (nd G) - y, c)) F (nI (allN G)) (nI (nd G) - y) (nI 0) c1) else f_X12_findCover_L102 F made fm tm am most (fun c => some (-3, c)) F (nI (allN G)) (-3) (nI 0) c1) (md G) F 0 0 ic (by omega) (by omega) (fun v => by
    rw [Nat.zero_testBit]
    constructor
    · intro h; cases h
    · rintro ⟨j, h, -⟩; omega) (fun j h => by omega)
  rw [a1]
  have hTin : ∀ v, T.testBit v = true → v < nd G := by
    intro v hv
    obtain ⟨i, i1, -, i3⟩ := (a2 v).mp hv
    obtain ⟨w1, w2, -, -⟩ := hW.2.2 i i1
    rcases i3 with x | x <;> omega
  have hT16 : T < 65536 := lt_of_bits (n := 16) (fun v hv => by have := hTin v hv; omega)
  by_cases c : T = allN G
  · rw [if_pos (by rw [c]), rd_nI (by omega) (by decide)]
    obtain ⟨mu, mu1, mu2, mu3⟩ := mb0 hW (hm _ (Nat.le_refl (allN G)))
    obtain ⟨r1, r2⟩ := rho_of hW hall (fun v hv => (a2 v).mp (by rw [c]; exact hv)) mu3
    rw [pcF_all hW] at r1 r2
    obtain ⟨X, x1, x2⟩ := isC_exists r2
    rw [mu1, pk_sub r1, ← x2]
    obtain ⟨ic2, b1, b2⟩ := cover102_L hF hW hC hm x1 (kk := fun c => some (nI (cX X 60), c)) (md G) F 0 (allN G) ic1 (by omega) (by omega) (left_0 X) (fun j hj => by rw [a3 j hj, if_neg (fun h => by omega)])
    have e0 : cX X 60 - cX X 0 = cX X 60 := Nat.sub_zero _
    rw [e0] at b1
    exact ⟨_, _, b1, Or.inr ⟨X, x1, rfl, b2⟩⟩
  · rw [if_neg (fun h => c ((nI_eq (by omega) (by omega)).mp h))]
    obtain ⟨f, hf⟩ : ∃ f, F = f + 1 := ⟨F - 1, by omega⟩
    have e : f_X12_findCover_L102 F made fm tm am most (fun c => some (-3, c)) F (nI (allN G)) (-3) (nI 0) ic1 = some (-3, ic1) := by
      have : ∀ g, f_X12_findCover_L102 F made fm tm am most (fun c => some (-3, c)) (g + 1) (nI (allN G)) (-3) (nI 0) ic1 = some (-3, ic1) := by
        intro g
        unfold f_X12_findCover_L102
        by_cases d : made ≤ nI 0
        · rw [if_pos d]
        · rw [if_neg d, if_pos (by decide)]
      rw [show f_X12_findCover_L102 F made fm tm am most (fun c => some (-3, c)) F (nI (allN G)) (-3) (nI 0) ic1 = f_X12_findCover_L102 F made fm tm am most (fun c => some (-3, c)) (f + 1) (nI (allN G)) (-3) (nI 0) ic1 by rw [← hf]]
      exact this f
    refine ⟨-3, ic1, e, Or.inl ⟨rfl, fun Y hY => c ?_⟩⟩
    apply Nat.eq_of_testBit_eq
    intro v
    rw [Bool.eq_iff_iff]
    constructor
    · intro h; rw [allN_bit]; exact decide_eq_true (hTin v h)
    · intro h
      obtain ⟨i, i1, i2, i3⟩ := hY.2.2 v h
      obtain ⟨b1, b2⟩ := hY.2.1 i i1 i2
      exact (a2 v).mpr ⟨i, b1, b2, i3⟩
