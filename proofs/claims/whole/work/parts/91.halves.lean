/-! ===== the reference's halves ===== -/
def zc (half : Nat → Int32) : Nat → Nat
  | 0 => 0
  | k + 1 => zc half k + if half k = 0 then 1 else 0
theorem zc_le (half : Nat → Int32) : ∀ k, zc half k ≤ k := by
  intro k
  induction k with
  | zero => exact Nat.le_refl _
  | succ k ih => unfold zc; split <;> omega
theorem zc_same {half : Nat → Int32} {w : Nat} {x : Int32} : ∀ k, k ≤ w → zc (va_up half w x) k = zc half k := by
  intro k
  induction k with
  | zero => intro _; rfl
  | succ k ih =>
    intro h
    unfold zc
    rw [ih (by omega), up_n (by omega)]
theorem zc_up {half : Nat → Int32} {w : Nat} {x : Int32} (h0 : half w = 0) (hx : x ≠ 0) : ∀ k, w < k → zc (va_up half w x) k + 1 = zc half k := by
  intro k
  induction k with
  | zero => intro h; omega
  | succ k ih =>
    intro h
    unfold zc
    by_cases c : w = k
    · subst c
      rw [zc_same w (Nat.le_refl _), up_s, h0, if_neg hx, if_pos rfl]
    · rw [up_n (fun e => c e.symm)]
      have := ih (by omega)
      omega
def HI (G : Gr) (W a : Nat) (half : Nat → Int32) : Prop := half a = 1 ∧ ∀ u, u < nd G → (half u = 0 ∨ half u = 1 ∨ half u = 2) ∧ (half u ≠ 0 → Rch G W a u ∧ ∀ col, Vld G W a col → (half u = 1 ↔ col u = col a))
theorem HI_set {G : Gr} {W a : Nat} {half : Nat → Int32} (h : HI G W a half) {u w : Nat} (hu : u < nd G) (hw : w < nd G) (hu0 : half u ≠ 0) (hw0 : half w = 0) (hadj : (adj G u).testBit w = true) (hWw : W.testBit w = true) : HI G W a (va_up half w (3 - half u)) ∧ zc (va_up half w (3 - half u)) (nd G) < zc half (nd G) := by
  obtain ⟨h1, h2⟩ := h
  obtain ⟨u1, u2⟩ := h2 u hu
  obtain ⟨u3, u4⟩ := u2 hu0
  have hrw := Rch_step u3 hadj hWw
  have haw : a ≠ w := fun e => by rw [← e, h1] at hw0; exact absurd hw0 (by decide)
  have hval : (half u = 1 ∧ 3 - half u = 2) ∨ (half u = 2 ∧ 3 - half u = 1) := by
    rcases u1 with c | c | c
    · exact absurd c hu0
    · left; rw [c]; exact ⟨rfl, by decide⟩
    · right; rw [c]; exact ⟨rfl, by decide⟩
  have hx : 3 - half u ≠ 0 := by
    rcases hval with ⟨-, c⟩ | ⟨-, c⟩ <;> rw [c] <;> decide
  refine ⟨⟨by rw [up_n haw]; exact h1, fun v hv => ?_⟩, by have := zc_up hw0 hx (nd G) hw; omega⟩
  by_cases e : v = w
  · subst e
    rw [up_s]
    refine ⟨by rcases hval with ⟨-, c⟩ | ⟨-, c⟩ <;> rw [c] <;> decide, fun _ => ⟨hrw, fun col hc => ?_⟩⟩
    have k1 := u4 col hc
    have k2 := hc u v u3 hrw hadj
    rcases hval with ⟨c, d⟩ | ⟨c, d⟩
    · rw [d]
      have k3 := k1.mp c
      constructor
      · intro x; exact absurd x (by decide)
      · intro x; exact absurd (k3.trans x.symm) k2
    · rw [d]
      have k3 : ¬ col u = col a := fun x => by have := k1.mpr x; rw [c] at this; exact absurd this (by decide)
      refine ⟨fun _ => ?_, fun _ => rfl⟩
      cases hv : col v <;> cases hu : col u <;> cases ha : col a <;> simp_all
  · rw [up_n e]
    exact h2 v hv
theorem halves55_L {G : Gr} (hW : Wf G) {nodes made : Int32} {fm tm wm am : Nat → Int32} (hC : MG G nodes made fm tm wm am) {a M : Nat} (hM : CP G (allN G) a M) (han : a < nd G) {kk : Int32 → (Nat → Int32) → Int32 → Option (Int32 × (Nat → Int32))} :
    ∀ (k m i : Nat) (mo : Int32) (half : Nat → Int32) (hv : Int32), i + k = md G → k < m → HI G (allN G) a half → ∃ mo' half' hv', f_X12_findHalves_L55 made fm tm am (nI M) kk m mo (nI i) half hv = kk mo' half' hv' ∧ HI G (allN G) a half' ∧
      ((mo' = mo ∧ half' = half ∧ (∀ j, i ≤ j → j < md G → al G j = true → M.testBit (fr G j) = true → (half (fr G j) = 0 ↔ half (tt G j) = 0)) ∧ (hv' ≠ 0 → ∀ j, i ≤ j → j < md G → al G j = true → M.testBit (fr G j) = true → half (fr G j) ≠ 0 → half (fr G j) ≠ half (tt G j))) ∨ (mo' = 1 ∧ zc half' (nd G) < zc half (nd G))) ∧ (hv' = 0 ∨ hv' = hv) ∧ ((∃ col, Vld G (allN G) a col) → hv' = hv) := by
  have hn := hW.1
  have hm60 := hW.2.1
  have haa : (allN G).testBit a = true := by rw [allN_bit]; exact decide_eq_true han
  have hM16 : M < 65536 := lt_of_bits (n := 16) (fun v hv => by
    have := Rch_W haa ((hM v).mp hv)
    rw [allN_bit] at this
    have := of_decide_eq_true this
    omega)
  obtain ⟨-, rfl, harc⟩ := hC
  intro k
  induction k with
  | zero =>
    intro m i mo half hv e1 hm hH
    obtain ⟨m, rfl⟩ : ∃ k, m = k + 1 := ⟨m - 1, by omega⟩
    refine ⟨mo, half, hv, ?_, hH, Or.inl ⟨rfl, rfl, fun j j1 j2 => by omega, fun _ j j1 j2 => by omega⟩, Or.inr rfl, fun _ => rfl⟩
    unfold f_X12_findHalves_L55
    rw [if_pos (by rw [nI_leI (by omega) (by omega)]; omega)]
  | succ k ih =>
    intro m i mo half hv e1 hm hH
    obtain ⟨m, rfl⟩ : ∃ k, m = k + 1 := ⟨m - 1, by omega⟩
    obtain ⟨f1, f2, f3, f4⟩ := harc i (by omega)
    obtain ⟨w1, w2, w3, -⟩ := hW.2.2 i (by omega)
    -- the arc changes no half
    have same : ∀ hv1, (hv1 = 0 ∨ hv1 = hv) → ((∃ col, Vld G (allN G) a col) → hv1 = hv) → (al G i = true → M.testBit (fr G i) = true → (half (fr G i) = 0 ↔ half (tt G i) = 0)) → (hv1 ≠ 0 → al G i = true → M.testBit (fr G i) = true → half (fr G i) ≠ 0 → half (fr G i) ≠ half (tt G i)) →
        ∃ mo' half' hv', f_X12_findHalves_L55 (nI (md G)) fm tm am (nI M) kk m mo (nI (i + 1)) half hv1 = kk mo' half' hv' ∧ HI G (allN G) a half' ∧
      ((mo' = mo ∧ half' = half ∧ (∀ j, i ≤ j → j < md G → al G j = true → M.testBit (fr G j) = true → (half (fr G j) = 0 ↔ half (tt G j) = 0)) ∧ (hv' ≠ 0 → ∀ j, i ≤ j → j < md G → al G j = true → M.testBit (fr G j) = true → half (fr G j) ≠ 0 → half (fr G j) ≠ half (tt G j))) ∨ (mo' = 1 ∧ zc half' (nd G) < zc half (nd G))) ∧ (hv' = 0 ∨ hv' = hv) ∧ ((∃ col, Vld G (allN G) a col) → hv' = hv) := by
      intro hv1 g1 g2 g3 g4
      obtain ⟨mo', half', hv', h1, h2, h3, h4, h5⟩ := ih m (i + 1) mo half hv1 (by omega) (by omega) hH
      refine ⟨mo', half', hv', h1, h2, ?_, ?_, fun h => (h5 h).trans (g2 h)⟩
      · rcases h3 with ⟨x1, x2, x3, x4⟩ | h3
        · refine Or.inl ⟨x1, x2, fun j j1 j2 j3 j4 => ?_, fun h0 j j1 j2 j3 j4 j5 => ?_⟩
          · by_cases c : j = i
            · subst c; exact g3 j3 j4
            · exact x3 j (by omega) j2 j3 j4
          · by_cases c : j = i
            · subst c
              refine g4 (fun h => h0 ?_) j3 j4 j5
              rcases h4 with h4 | h4
              · exact h4
              · rw [h4, h]
            · exact x4 h0 j (by omega) j2 j3 j4 j5
        · exact Or.inr h3
      · rcases h4 with h4 | h4
        · exact Or.inl h4
        · rw [h4]; exact g1
    -- the arc colours a node
    have chg : ∀ half1, HI G (allN G) a half1 ∧ zc half1 (nd G) < zc half (nd G) →
        ∃ mo' half' hv', f_X12_findHalves_L55 (nI (md G)) fm tm am (nI M) kk m 1 (nI (i + 1)) half1 hv = kk mo' half' hv' ∧ HI G (allN G) a half' ∧
      ((mo' = mo ∧ half' = half ∧ (∀ j, i ≤ j → j < md G → al G j = true → M.testBit (fr G j) = true → (half (fr G j) = 0 ↔ half (tt G j) = 0)) ∧ (hv' ≠ 0 → ∀ j, i ≤ j → j < md G → al G j = true → M.testBit (fr G j) = true → half (fr G j) ≠ 0 → half (fr G j) ≠ half (tt G j))) ∨ (mo' = 1 ∧ zc half' (nd G) < zc half (nd G))) ∧ (hv' = 0 ∨ hv' = hv) ∧ ((∃ col, Vld G (allN G) a col) → hv' = hv) := by
      rintro half1 ⟨g1, g2⟩
      obtain ⟨mo', half', hv', h1, h2, h3, h4, h5⟩ := ih m (i + 1) 1 half1 hv (by omega) (by omega) g1
      refine ⟨mo', half', hv', h1, h2, Or.inr ?_, h4, h5⟩
      rcases h3 with ⟨x1, x2, -, -⟩ | ⟨x1, x2⟩
      · rw [x2]; exact ⟨x1, g2⟩
      · exact ⟨x1, by omega⟩
    unfold f_X12_findHalves_L55
    rw [if_neg (fun h => by rw [nI_leI (by omega) (by omega)] at h; omega), rd_nI (by omega) (by decide), f4, nI_1]
    by_cases c1 : al G i = true
    · rw [if_pos c1, if_neg (by decide), rd_nI (by omega) (by decide), f1, bitv_nI (by omega) (by omega)]
      by_cases c2 : M.testBit (fr G i) = true
      · rw [if_pos c2, if_neg (by decide), rd_nI (by omega) (by decide), f1, rd_nI (by omega) (by decide), rd_nI (by omega) (by decide), f2, rd_nI (by omega) (by decide)]
        simp only [jn]
        have hadj : (adj G (fr G i)).testBit (tt G i) = true := (adj_bit hW _ _).mpr ⟨i, by omega, c1, Or.inl ⟨rfl, rfl⟩⟩
        have hadj2 : (adj G (tt G i)).testBit (fr G i) = true := by rw [adj_sym hW]; exact hadj
        have hwt : (allN G).testBit (tt G i) = true := by rw [allN_bit]; exact decide_eq_true w2
        have hwf : (allN G).testBit (fr G i) = true := by rw [allN_bit]; exact decide_eq_true w1
        by_cases c3 : half (fr G i) = 0
        · by_cases c4 : half (tt G i) = 0
          · rw [if_pos c3, if_pos c3, if_pos c4]
            exact same hv (Or.inr rfl) (fun _ => rfl) (fun _ _ => ⟨fun _ => c4, fun _ => c3⟩) (fun _ _ _ h => absurd c3 h)
          · rw [if_pos c3, if_pos c3, if_neg c4, if_pos c3, rd_nI (by omega) (by decide), f1, wr_nI (by omega) (by decide)]
            exact chg _ (HI_set hH w2 w1 c4 c3 hadj2 hwf)
        · by_cases c4 : half (tt G i) = 0
          · rw [if_neg c3, if_neg (fun h => c3 (h.trans c4)), if_neg c3, if_pos c4, rd_nI (by omega) (by decide), f2, wr_nI (by omega) (by decide), if_pos c4]
            exact chg _ (HI_set hH w1 w2 c3 c4 hadj hwt)
          · rw [if_neg c3]
            by_cases c5 : half (fr G i) = half (tt G i)
            · rw [if_pos c5, if_neg c3, if_neg c4, if_neg c4, if_neg c3]
              refine same 0 (Or.inl rfl) (fun ⟨col, hc⟩ => ?_) (fun _ _ => ⟨fun h => absurd h c3, fun h => absurd h c4⟩) (fun h => absurd rfl h)
              exfalso
              obtain ⟨a1, a2⟩ := (hH.2 _ w1).2 c3
              obtain ⟨b1, b2⟩ := (hH.2 _ w2).2 c4
              have k1 := a2 col hc
              have k2 := b2 col hc
              rw [c5] at k1
              have k3 := hc _ _ a1 b1 hadj
              have k4 := k1.symm.trans k2
              apply k3
              cases h1 : col (fr G i) <;> cases h2 : col (tt G i) <;> cases h3 : col a <;> simp_all
            · rw [if_neg c5, if_neg c3, if_neg c4, if_neg c4, if_neg c3]
              exact same hv (Or.inr rfl) (fun _ => rfl) (fun _ _ => ⟨fun h => absurd h c3, fun h => absurd h c4⟩) (fun _ _ _ _ => c5)
      · rw [if_neg c2, if_pos rfl]
        exact same hv (Or.inr rfl) (fun _ => rfl) (fun _ h => absurd h c2) (fun _ _ h => absurd h c2)
    · rw [if_neg c1, if_pos rfl]
      exact same hv (Or.inr rfl) (fun _ => rfl) (fun h => absurd h c1) (fun _ h => absurd h c1)
theorem halves46_L {F : Nat} (hF : 100000 ≤ F) {G : Gr} (hW : Wf G) {nodes made : Int32} {fm tm wm am : Nat → Int32} (hC : MG G nodes made fm tm wm am) {a M : Nat} (hM : CP G (allN G) a M) (han : a < nd G) {kk : (Nat → Int32) → Int32 → Option (Int32 × (Nat → Int32))} :
    ∀ (k m : Nat) (half : Nat → Int32) (hv : Int32), zc half (nd G) ≤ k → k + 1 < m → HI G (allN G) a half → ∃ half' hv', f_X12_findHalves_L46 F made fm tm am (nI M) kk m 1 half hv = kk half' hv' ∧ (hv' = 0 ∨ hv' = hv) ∧ ((∃ col, Vld G (allN G) a col) → hv' = hv) ∧ (hv' ≠ 0 → ∃ col, Vld G (allN G) a col) := by
  have hm60 := hW.2.1
  have haa : (allN G).testBit a = true := by rw [allN_bit]; exact decide_eq_true han
  intro k
  induction k using Nat.strongRecOn with
  | ind k ih =>
    intro m half hv hz hm hH
    obtain ⟨m, rfl⟩ : ∃ k, m = k + 1 := ⟨m - 1, by omega⟩
    obtain ⟨mo', half', hv', h1, h2, h3, h4, h5⟩ := halves55_L hW hC hM han (kk := fun x y z => f_X12_findHalves_L46 F made fm tm am (nI M) kk m x y z) (md G) F 0 0 half hv (by omega) (by omega) hH
    unfold f_X12_findHalves_L46
    rw [if_neg (by decide)]
    simp only [jn]
    rw [← z32] at h1
    rw [h1]
    rcases h3 with ⟨x1, x2, x3, x4⟩ | ⟨x1, x2⟩
    · obtain ⟨m, rfl⟩ : ∃ k, m = k + 1 := ⟨m - 1, by omega⟩
      refine ⟨half', hv', ?_, h4, h5, fun h0 => ?_⟩
      · unfold f_X12_findHalves_L46
        rw [x1, if_pos rfl]
      · have hcol : ∀ n v, Wk G (allN G) a n v → half v ≠ 0 := by
          intro n
          induction n with
          | zero => intro v hv; rw [show v = a from hv, hH.1]; decide
          | succ n ihn =>
            rintro v ⟨w, k1, k2, k3⟩
            have kw := ihn w k1
            obtain ⟨j, j1, j2, j3⟩ := (adj_bit hW w v).mp k2
            have rw' : Rch G (allN G) a w := ⟨n, k1⟩
            have rv' : Rch G (allN G) a v := ⟨n + 1, w, k1, k2, k3⟩
            rcases j3 with ⟨x, y⟩ | ⟨x, y⟩
            · have := x3 j (Nat.zero_le _) j1 j2 (by rw [x]; exact (hM w).mpr rw')
              rw [x, y] at this
              exact fun h => kw (this.mpr h)
            · have := x3 j (Nat.zero_le _) j1 j2 (by rw [x]; exact (hM v).mpr rv')
              rw [x, y] at this
              exact fun h => kw (this.mp h)
        refine ⟨fun u => decide (half u = 1), fun v w hv hw hadj => ?_⟩
        have hvn : v < nd G := (adj_in hW hadj).1
        have hwn : w < nd G := (adj_in hW hadj).2.1
        obtain ⟨n1, q1⟩ := hv
        obtain ⟨n2, q2⟩ := hw
        have z1 := hcol n1 v q1
        have z2 := hcol n2 w q2
        have t1 := (hH.2 v hvn).1
        have t2 := (hH.2 w hwn).1
        have hne : half v ≠ half w := by
          obtain ⟨j, j1, j2, j3⟩ := (adj_bit hW v w).mp hadj
          rcases j3 with ⟨x, y⟩ | ⟨x, y⟩
          · have := x4 h0 j (Nat.zero_le _) j1 j2 (by rw [x]; exact (hM v).mpr ⟨n1, q1⟩)
            rw [x, y] at this
            exact this z1
          · have := x4 h0 j (Nat.zero_le _) j1 j2 (by rw [x]; exact (hM w).mpr ⟨n2, q2⟩)
            rw [x, y] at this
            exact fun e => this z2 e.symm
        show decide (half v = 1) ≠ decide (half w = 1)
        rcases t1 with t1 | t1 | t1
        · exact absurd t1 z1
        · rcases t2 with t2 | t2 | t2
          · exact absurd t2 z2
          · exact absurd (t1.trans t2.symm) hne
          · rw [t1, t2]; decide
        · rcases t2 with t2 | t2 | t2
          · exact absurd t2 z2
          · rw [t1, t2]; decide
          · exact absurd (t1.trans t2.symm) hne
    · rw [x1]
      obtain ⟨half2, hv2, y1, y2, y3, y4⟩ := ih (zc half' (nd G)) (by omega) m half' hv' (Nat.le_refl _) (by omega) h2
      refine ⟨half2, hv2, y1, ?_, fun h => (y3 h).trans (h5 h), y4⟩
      rcases y2 with y2 | y2
      · exact Or.inl y2
      · rw [y2]; exact h4
theorem halves14_L {G : Gr} (hW : Wf G) {a : Nat} (han : a < nd G) {kk : (Nat → Int32) → Option (Int32 × (Nat → Int32))} :
    ∀ (k m v : Nat) (half : Nat → Int32), v + k = nd G → k < m → (∀ u, u < v → half u = if u = a then 1 else 0) → ∃ half', f_X12_findHalves_L14 (nI (nd G)) (nI a) kk m (nI v) half = kk half' ∧ ∀ u, u < nd G → half' u = if u = a then 1 else 0 := by
  have hn := hW.1
  intro k
  induction k with
  | zero =>
    intro m v half e1 hm hs
    obtain ⟨m, rfl⟩ : ∃ k, m = k + 1 := ⟨m - 1, by omega⟩
    refine ⟨half, ?_, fun w hw => hs w (by omega)⟩
    unfold f_X12_findHalves_L14
    rw [if_pos (by rw [nI_leI (by omega) (by omega)]; omega)]
  | succ k ih =>
    intro m v half e1 hm hs
    obtain ⟨m, rfl⟩ : ∃ k, m = k + 1 := ⟨m - 1, by omega⟩
    unfold f_X12_findHalves_L14
    rw [if_neg (fun h => by rw [nI_leI (by omega) (by omega)] at h; omega), wr_nI (by omega) (by decide), wr_nI (by omega) (by decide), nI_1]
    by_cases c : v = a
    · rw [if_pos (by rw [c])]
      refine ih m (v + 1) _ (by omega) (by omega) (fun u hu => ?_)
      by_cases d : u = v
      · subst d; rw [up_s, if_pos c]
      · rw [up_n d]; exact hs u (by omega)
    · rw [if_neg (fun h => c ((nI_eq (by omega) (by omega)).mp h))]
      refine ih m (v + 1) _ (by omega) (by omega) (fun u hu => ?_)
      by_cases d : u = v
      · subst d; rw [up_s, if_neg c]
      · rw [up_n d]; exact hs u (by omega)
theorem findHalves_eq {F : Nat} (hF : 100000 ≤ F) {G : Gr} (hW : Wf G) {nodes made : Int32} {fm tm wm am : Nat → Int32} (hC : MG G nodes made fm tm wm am) {a : Nat} (han : a < nd G) (hv : Int32) (half : Nat → Int32) :
    ∃ hv' half', f_X12_findHalves F (nI a) nodes made fm tm am hv half = some (hv', half') ∧ ((∃ col, Vld G (allN G) a col) → hv' = hv) ∧ ((¬ ∃ col, Vld G (allN G) a col) → hv' = 0) := by
  have hn := hW.1
  have haa : (allN G).testBit a = true := by rw [allN_bit]; exact decide_eq_true han
  have hWa : ∀ v, (allN G).testBit v = true → v < nd G := fun v h => by rw [allN_bit] at h; exact of_decide_eq_true h
  obtain ⟨M, m1, m2⟩ := grown_eq hF hW hC hWa haa
  have hnod := hC.1
  unfold f_X12_findHalves
  rw [hnod, mall_eq hW, m1, bS]
  simp only [jn]
  rw [z32]
  obtain ⟨half1, h1, h2⟩ := halves14_L hW han (kk := fun m_half_5 => f_X12_findHalves_L46 F made fm tm am (nI M) (fun x y => some (y, x)) F 1 m_half_5 hv) (nd G) F 0 half (by omega) (by omega) (fun u hu => by omega)
  rw [h1]
  have hH : HI G (allN G) a half1 := by
    refine ⟨by rw [h2 a han, if_pos rfl], fun u hu => ?_⟩
    rw [h2 u hu]
    by_cases c : u = a
    · rw [if_pos c]
      refine ⟨Or.inr (Or.inl rfl), fun _ => ⟨⟨0, c⟩, fun col _ => ?_⟩⟩
      rw [c]; simp
    · rw [if_neg c]
      exact ⟨Or.inl rfl, fun h => absurd rfl h⟩
  have hz := zc_le half1 (nd G)
  obtain ⟨half2, hv2, y1, y2, y3, y4⟩ := halves46_L hF hW hC m2 han (kk := fun x y => some (y, x)) (zc half1 (nd G)) F half1 hv (Nat.le_refl _) (by omega) hH
  refine ⟨hv2, half2, y1, y3, fun h => ?_⟩
  rcases y2 with y2 | y2
  · exact y2
  · exact Classical.byContradiction (fun h0 => h (y4 h0))
