/-! ===== the reference's pair costs and its join ===== -/
def rcM (way : Nat → Int32) (a b : Nat) : Prop := a < 16 ∧ b < 16 ∧ way (a * 16 + b) ≠ nI 1000000000
def dnM (way : Nat → Int32) (a b : Nat) : Nat := (way (a * 16 + b)).toNatClampNeg
theorem tabM {G : Gr} (hW : Wf G) {way : Nat → Int32} (h : FMs G (nd G) 0 0 way) {a b : Nat} (ha : a < 16) (hb : b < 16) (hab : a ≠ b) : (rcM way a b ∧ way (a * 16 + b) = nI (dnM way a b) ∧ dnM way a b ≤ 3840060 ∧ Ent G (lnM G) (nd G) a b (some (dnM way a b))) ∨ (¬ rcM way a b ∧ way (a * 16 + b) = nI 1000000000 ∧ Ent G (lnM G) (nd G) a b none) := by
  obtain ⟨e, e1, e2⟩ := h.2 a b ha hb hab
  rw [if_neg (fun x => by omega)] at e1
  rcases Ent_bd hW e1 with rfl | ⟨v, rfl, hv⟩
  · exact Or.inr ⟨fun x => x.2.2 e2, e2, e1⟩
  · have e3 : way (a * 16 + b) = nI v := e2
    have hd : dnM way a b = v := by unfold dnM; rw [e3, nI_clamp (by omega)]
    rw [hd]
    refine Or.inl ⟨⟨ha, hb, fun x => ?_⟩, e3, hv, e1⟩
    rw [e3] at x
    have := (nI_eq (by omega) (by decide)).mp x
    omega
theorem metM {G : Gr} (hW : Wf G) {way : Nat → Int32} (h : FMs G (nd G) 0 0 way) : MetD G (lnM G) (rcM way) (dnM way) := by
  have hn := hW.1
  intro a b hab
  by_cases c : a < 16 ∧ b < 16
  · rcases tabM hW h c.1 c.2 hab with ⟨h1, -, -, h2⟩ | ⟨h1, -, h2⟩
    · exact ⟨fun _ => h2, fun x => absurd h1 x⟩
    · exact ⟨fun x => absurd x h1, fun _ => h2⟩
  · exact ⟨fun x => absurd ⟨x.1, x.2.1⟩ c, fun _ => Ent_out hW (by omega)⟩
/-- the least length of a join of s -/
def PCm (G : Gr) (s : Nat) (x : Int32) : Prop := (x = nI 1000000000 ∧ ∀ Y, ¬ JT G s Y) ∨ ∃ v, v ≤ 3840060 ∧ x = nI v ∧ (∃ X, JT G s X ∧ lX (lnM G) X 60 = v) ∧ ∀ Y, JT G s Y → v ≤ lX (lnM G) Y 60
theorem PCm_of {G : Gr} (hW : Wf G) {way : Nat → Int32} (h : FMs G (nd G) 0 0 way) {s v k : Nat} (h1 : PMr (rcM way) (dnM way) k s v) (h2 : ∀ k' y, PMr (rcM way) (dnM way) k' s y → v ≤ y) : PCm G s (nI v) := by
  have hm := metM hW h
  have low : ∀ Y, JT G s Y → v ≤ lX (lnM G) Y 60 := by
    intro Y hY
    obtain ⟨k', x, x1, x2⟩ := PM_complete hW hm (cX Y 60) s Y (Nat.le_refl _) hY
    have := h2 k' x x1
    omega
  obtain ⟨X, x1, x2⟩ := PM_join hW hm k s v h1
  have x3 := low X x1
  have x4 := lenM_le hW x1.1
  exact Or.inr ⟨v, by omega, rfl, ⟨X, x1, by omega⟩, low⟩
theorem PCm_pm {G : Gr} (hW : Wf G) {way : Nat → Int32} (h : FMs G (nd G) 0 0 way) {s : Nat} {x : Int32} (hx : PCm G s x) : (x = nI 1000000000 ∧ ∀ k y, ¬ PMr (rcM way) (dnM way) k s y) ∨ ∃ v k, v ≤ 3840060 ∧ x = nI v ∧ PMr (rcM way) (dnM way) k s v ∧ ∀ k' y, PMr (rcM way) (dnM way) k' s y → v ≤ y := by
  have hm := metM hW h
  rcases hx with ⟨h1, h2⟩ | ⟨v, v1, v2, ⟨X, x1, x2⟩, v3⟩
  · refine Or.inl ⟨h1, fun k y hp => ?_⟩
    obtain ⟨X, x1, -⟩ := PM_join hW hm k s y hp
    exact h2 X x1
  · have low : ∀ k' y, PMr (rcM way) (dnM way) k' s y → v ≤ y := by
      intro k y hp
      obtain ⟨Y, y1, y2⟩ := PM_join hW hm k s y hp
      have := v3 Y y1
      omega
    obtain ⟨k, y, y1, y2⟩ := PM_complete hW hm (cX X 60) s X (Nat.le_refl _) x1
    have := low k y y1
    have e : y = v := by omega
    subst e
    exact Or.inr ⟨y, k, v1, v2, y1, low⟩
/-- the best that comes with partners below u0 -/
def Bst (way : Nat → Int32) (s u0 : Nat) (b : Int32) : Prop := (b = nI 1000000000 ∧ ∀ u k y, u < u0 → (rst s).testBit u = true → rcM way (low 16 s) u → ¬ PMr (rcM way) (dnM way) k (dif (rst s) (2 ^ u)) y) ∨ ∃ v k, v ≤ 10000000 ∧ b = nI v ∧ PMr (rcM way) (dnM way) k s v ∧ ∀ u k y, u < u0 → (rst s).testBit u = true → rcM way (low 16 s) u → PMr (rcM way) (dnM way) k (dif (rst s) (2 ^ u)) y → v ≤ y + dnM way (low 16 s) u
theorem Bst_skip {way : Nat → Int32} {s u : Nat} {b : Int32} (h : Bst way s u b) (hno : ∀ k y, (rst s).testBit u = true → rcM way (low 16 s) u → ¬ PMr (rcM way) (dnM way) k (dif (rst s) (2 ^ u)) y) : Bst way s (u + 1) b := by
  rcases h with ⟨h1, h2⟩ | ⟨v, k, v1, v2, v3, v4⟩
  · refine Or.inl ⟨h1, fun w k y hw a1 a2 a3 => ?_⟩
    by_cases c : w = u
    · subst c; exact hno k y a1 a2 a3
    · exact h2 w k y (by omega) a1 a2 a3
  · refine Or.inr ⟨v, k, v1, v2, v3, fun w k y hw a1 a2 a3 => ?_⟩
    by_cases c : w = u
    · subst c; exact absurd a3 (hno k y a1 a2)
    · exact v4 w k y (by omega) a1 a2 a3
theorem pc311_L {G : Gr} (hW : Wf G) {way : Nat → Int32} (h : FMs G (nd G) 0 0 way) {s : Nat} (h0 : 0 < s) (hs : s ≤ allN G) {pc : Nat → Int32} (hpc : ∀ t, t < s → PCm G t (pc t)) {kk : Int32 → Option ((Nat → Int32) × (Nat → Int32))} :
    ∀ (k f u : Nat) (b : Int32), u + k = nd G → low 16 s < u → k < f → Bst way s u b → ∃ b', f_X12_findPairCosts_L311 (nI (nd G)) way (nI s) pc (nI (low 16 s)) kk f b (nI u) = kk b' ∧ Bst way s (nd G) b' := by
  have hn := hW.1
  have ha := allN_lt hW
  have hs16 : s < 65536 := by omega
  have hl := low_lt (k := 16) h0 hs16
  have hrl := rst_lt h0 hs16
  have hrst : nI s &&& (((1 : Int32) <<< (nI (low 16 s) &&& 31)) ^^^ (-1)) = nI (rst s) := without_nI s (by omega)
  intro k
  induction k with
  | zero =>
    intro f u b e1 hu hf hB
    obtain ⟨f, rfl⟩ : ∃ k, f = k + 1 := ⟨f - 1, by omega⟩
    refine ⟨b, ?_, by rw [show nd G = u by omega]; exact hB⟩
    unfold f_X12_findPairCosts_L311
    rw [if_pos (by rw [nI_leI (by omega) (by omega)]; omega)]
  | succ k ih =>
    intro f u b e1 hu hf hB
    obtain ⟨f, rfl⟩ : ∃ k, f = k + 1 := ⟨f - 1, by omega⟩
    have hdl := dif_le (rst s) (2 ^ u)
    unfold f_X12_findPairCosts_L311
    rw [if_neg (fun h => by rw [nI_leI (by omega) (by omega)] at h; omega), hrst, bitv_nI (by omega) (by omega), nI_1]
    by_cases c : (rst s).testBit u = true
    · rw [if_pos c, if_pos rfl, cell2_nI, rd_nI (by omega) (by decide), without_nI _ (by omega), rd_nI (by omega) (by decide)]
      rcases tabM hW h hl (show u < 16 by omega) (show low 16 s ≠ u by omega) with ⟨t1, t2, t3, -⟩ | ⟨t1, t2, -⟩
      · rw [t2, if_neg (show ¬ (1000000000 : Int32) ≤ nI (dnM way (low 16 s) u) from fun x => by rw [show (1000000000 : Int32) = nI 1000000000 from rfl, nI_leI (by decide) (by omega)] at x; omega)]
        rcases PCm_pm hW h (hpc (dif (rst s) (2 ^ u)) (by omega)) with ⟨p1, p2⟩ | ⟨v, k0, p1, p2, p3, p4⟩
        · rw [p1, if_pos (show (1000000000 : Int32) ≤ nI 1000000000 by decide)]
          exact ih f (u + 1) b (by omega) (by omega) (by omega) (Bst_skip hB (fun k y _ _ => p2 k y))
        · rw [p2, if_neg (show ¬ (1000000000 : Int32) ≤ nI v from fun x => by rw [show (1000000000 : Int32) = nI 1000000000 from rfl, nI_leI (by decide) (by omega)] at x; omega), rd_nI (by omega) (by decide), t2, rd_nI (by omega) (by decide), p2, nI_add]
          have hub : s.testBit u = true := by rw [rst_bit, Bool.and_eq_true] at c; exact c.1
          have hpm : PMr (rcM way) (dnM way) (k0 + 1) s (v + dnM way (low 16 s) u) := ⟨low 16 s, u, v, low_bit (k := 16) h0 hs16, hub, by omega, t1, p3, rfl⟩
          have take : (∀ w k y, w < u → (rst s).testBit w = true → rcM way (low 16 s) w → PMr (rcM way) (dnM way) k (dif (rst s) (2 ^ w)) y → v + dnM way (low 16 s) u ≤ y + dnM way (low 16 s) w) → Bst way s (u + 1) (nI (dnM way (low 16 s) u + v)) := by
            intro hmin
            refine Or.inr ⟨dnM way (low 16 s) u + v, k0 + 1, by omega, rfl, by rw [Nat.add_comm (dnM way (low 16 s) u)]; exact hpm, fun w k y hw a1 a2 a3 => ?_⟩
            by_cases d : w = u
            · subst d
              have := p4 k y a3
              omega
            · have := hmin w k y (by omega) a1 a2 a3
              omega
          rcases hB with ⟨b1, b2⟩ | ⟨w, kw, b1, b2, b3, b4⟩
          · rw [b1, if_neg (fun x => by rw [nI_leI (by decide) (by omega)] at x; omega)]
            exact ih f (u + 1) _ (by omega) (by omega) (by omega) (take (fun w k y hw a1 a2 a3 => absurd a3 (b2 w k y hw a1 a2)))
          · rw [b2]
            by_cases d : w ≤ dnM way (low 16 s) u + v
            · rw [if_pos ((nI_leI (by omega) (by omega)).mpr d)]
              refine ih f (u + 1) _ (by omega) (by omega) (by omega) (Or.inr ⟨w, kw, b1, rfl, b3, fun x k y hx a1 a2 a3 => ?_⟩)
              by_cases e : x = u
              · subst e
                have := p4 k y a3
                omega
              · exact b4 x k y (by omega) a1 a2 a3
            · rw [if_neg (fun x => d ((nI_leI (by omega) (by omega)).mp x))]
              exact ih f (u + 1) _ (by omega) (by omega) (by omega) (take (fun x k y hx a1 a2 a3 => by have := b4 x k y hx a1 a2 a3; omega))
      · rw [t2, if_pos (show (1000000000 : Int32) ≤ nI 1000000000 by decide)]
        exact ih f (u + 1) b (by omega) (by omega) (by omega) (Bst_skip hB (fun k y _ q => absurd q t1))
    · rw [if_neg c, if_neg (by decide)]
      exact ih f (u + 1) b (by omega) (by omega) (by omega) (Bst_skip hB (fun k y q => absurd q c))
theorem Bst_pc {G : Gr} (hW : Wf G) {way : Nat → Int32} (h : FMs G (nd G) 0 0 way) {s : Nat} (h0 : 0 < s) (hs : s < 65536) {b : Int32} (hB : Bst way s (nd G) b) : PCm G s b := by
  have hn := hW.1
  have hm := metM hW h
  have part : ∀ k y, PMr (rcM way) (dnM way) k s y → ∃ u k' z, u < nd G ∧ (rst s).testBit u = true ∧ rcM way (low 16 s) u ∧ PMr (rcM way) (dnM way) k' (dif (rst s) (2 ^ u)) z ∧ y = z + dnM way (low 16 s) u := by
    intro k y hp
    obtain ⟨k', u, z, -, g2, g3, g4, g5, g6, g7⟩ := PM_low hW hm h0 hs hp
    refine ⟨u, k', z, ?_, g4, g5, g6, g7⟩
    rcases Nat.lt_or_ge u (nd G) with c | c
    · exact c
    · have h1 := (hm _ _ (show low 16 s ≠ u by omega)).1 g5
      have := Ent_one hW (show low 16 s ≠ u by omega) h1 (Ent_out hW (Or.inr c))
      cases this
  rcases hB with ⟨b1, b2⟩ | ⟨v, k, b1, b2, b3, b4⟩
  · refine Or.inl ⟨b1, fun Y hY => ?_⟩
    obtain ⟨k, x, x1, -⟩ := PM_complete hW hm (cX Y 60) s Y (Nat.le_refl _) hY
    obtain ⟨u, k', z, z1, z2, z3, z4, -⟩ := part k x x1
    exact b2 u k' z z1 z2 z3 z4
  · rw [b2]
    refine PCm_of hW h b3 (fun k' y hp => ?_)
    obtain ⟨u, k2, z, z1, z2, z3, z4, z5⟩ := part k' y hp
    have := b4 u k2 z z1 z2 z3 z4
    omega
theorem pc281_L {F : Nat} (hF : 100000 ≤ F) {G : Gr} (hW : Wf G) {way : Nat → Int32} (h : FMs G (nd G) 0 0 way) {kk : (Nat → Int32) → Option ((Nat → Int32) × (Nat → Int32))} :
    ∀ (k f s : Nat) (pc : Nat → Int32), s + k = allN G + 1 → 0 < s → k < f → (∀ t, t < s → PCm G t (pc t)) → ∃ pc', f_X12_findPairCosts_L281 F (nI (nd G)) way kk f (nI s) pc = kk pc' ∧ ∀ t, t ≤ allN G → PCm G t (pc' t) := by
  have hn := hW.1
  have ha := allN_lt hW
  intro k
  induction k with
  | zero =>
    intro f s pc e1 h0 hf hp
    obtain ⟨f, rfl⟩ : ∃ k, f = k + 1 := ⟨f - 1, by omega⟩
    refine ⟨pc, ?_, fun t ht => hp t (by omega)⟩
    unfold f_X12_findPairCosts_L281
    rw [mall_eq hW, if_pos ((nI_ltI (by omega) (by omega)).mpr (by omega))]
  | succ k ih =>
    intro f s pc e1 h0 hf hp
    obtain ⟨f, rfl⟩ : ∃ k, f = k + 1 := ⟨f - 1, by omega⟩
    have hs : s < 65536 := by omega
    have hlb : low 16 s < nd G := sub_allN (show s ≤ allN G by omega) (low_bit (k := 16) h0 hs)
    obtain ⟨b, b1, b2⟩ := pc311_L hW h h0 (show s ≤ allN G by omega) hp (kk := fun v => wr 65536 pc (nI s) v (fun p => f_X12_findPairCosts_L281 F (nI (nd G)) way kk f (nI s + 1) p)) (nd G - (low 16 s + 1)) F (low 16 s + 1) (nI 1000000000) (by omega) (by omega) (by omega) (Or.inl ⟨rfl, fun u k y hu hr hrc hpm => by
      rcases Nat.lt_or_ge u (low 16 s) with c | c
      · rw [rst_bit, low_min (k := 16) h0 hs c] at hr; cases hr
      · have e : u = low 16 s := by omega
        rw [rst_bit, e] at hr
        simp at hr⟩)
    unfold f_X12_findPairCosts_L281
    rw [mall_eq hW, if_neg (fun h => by rw [nI_ltI (by omega) (by omega)] at h; omega), mleast_eq hF h0 hs, bS]
    simp only [jn]
    have b1' : f_X12_findPairCosts_L311 (nI (nd G)) way (nI s) pc (nI (low 16 s)) (fun v => wr 65536 pc (nI s) v (fun p => f_X12_findPairCosts_L281 F (nI (nd G)) way kk f (nI s + 1) p)) F 1000000000 (nI (low 16 s + 1)) = _ := b1
    rw [nI_1 (low 16 s), b1', wr_nI (by omega) (by decide), nI_1]
    refine ih f (s + 1) _ (by omega) (by omega) (by omega) (fun t ht => ?_)
    by_cases c : t = s
    · subst c
      rw [up_s]
      exact Bst_pc hW h h0 hs b2
    · rw [up_n c]; exact hp t (by omega)
theorem jt_0 {G : Gr} : JT G 0 0 := ⟨⟨by decide, fun i _ hx => by unfold inX at hx; rw [Nat.zero_testBit] at hx; cases hx⟩, oX_0 60⟩
theorem mpair_eq {F : Nat} (hF : 100000 ≤ F) {G : Gr} (hW : Wf G) {nodes made : Int32} {fm tm wm am : Nat → Int32} (hC : MG G nodes made fm tm wm am) (pc way : Nat → Int32) : ∃ pc' way', f_X12_findPairCosts F nodes made fm tm wm am pc way = some (pc', way') ∧ ∀ t, t ≤ allN G → PCm G t (pc' t) := by
  have hn := hW.1
  have hm60 := hW.2.1
  have ha := allN_lt hW
  have hnod := hC.1
  subst hnod
  unfold f_X12_findPairCosts
  simp only [jn]
  rw [z32]
  obtain ⟨w1, a1, a2⟩ := mway2_L hF (kk := fun w => f_X12_findPairCosts_L52 made fm tm wm am (fun w => f_X12_findPairCosts_L158 F (nI (nd G)) (fun w => wr 65536 pc (nI 0) (nI 0) (fun p => f_X12_findPairCosts_L281 F (nI (nd G)) w (fun q => some (q, w)) F 1 p)) F (nI 0) w) F (nI 0) w) 16 F 0 way (by omega) (by omega) (fun x y _ _ h => by omega)
  rw [a1]
  obtain ⟨w2, b1, b2⟩ := mway52_L hW hC (kk := fun w => f_X12_findPairCosts_L158 F (nI (nd G)) (fun w => wr 65536 pc (nI 0) (nI 0) (fun p => f_X12_findPairCosts_L281 F (nI (nd G)) w (fun q => some (q, w)) F 1 p)) F (nI 0) w) (md G) F 0 w1 (by omega) (by omega) ⟨fun a ha => by rw [a2 a a ha ha, if_pos rfl], fun a b ha hb hab => Or.inl ⟨fun i hi => by omega, by rw [a2 a b ha hb, if_neg hab]⟩⟩
  rw [b1]
  obtain ⟨w3, c1, c2⟩ := mway158_L hF hW (kk := fun w => wr 65536 pc (nI 0) (nI 0) (fun p => f_X12_findPairCosts_L281 F (nI (nd G)) w (fun q => some (q, w)) F 1 p)) (nd G) F 0 w2 (by omega) (by omega) (WM_FM hW b2)
  rw [c1, wr_nI (by decide) (by decide)]
  obtain ⟨pc1, d1, d2⟩ := pc281_L hF hW c2 (kk := fun q => some (q, w3)) (allN G) F 1 (va_up pc 0 (nI 0)) (by omega) (by omega) (by omega) (fun t ht => by
    have : t = 0 := by omega
    subst this
    rw [up_s]
    exact Or.inr ⟨0, by omega, rfl, ⟨0, jt_0, lX_0 60⟩, fun Y _ => Nat.zero_le _⟩)
  exact ⟨pc1, w3, d1, d2⟩
/-! the arcs of the join, one by one -/
theorem lX_sum {l : Nat → Nat} {X : Nat} : ∀ k, (lX l X k : Int) = sumX (fun i => (l i : Int)) X k := by
  intro k
  induction k with
  | zero => rfl
  | succ k ih =>
    rw [lX_s]
    unfold sumX
    rw [← ih]
    by_cases c : inX X k = true
    · rw [if_pos c, if_pos c]; omega
    · rw [if_neg c, if_neg c]; omega
theorem lX_head {l : Nat → Nat} {X k : Nat} (hk : k ≤ 60) : lX l (headX X k) 60 = lX l X k := by
  have h := sumX_head (val := fun i => (l i : Int)) (X := X) hk
  rw [← lX_sum, ← lX_sum] at h
  omega
theorem lX_tail {l : Nat → Nat} {X k : Nat} (hk : k ≤ 60) : lX l (tailX X k) 60 + lX l X k = lX l X 60 := by
  have h := sumX_tail (val := fun i => (l i : Int)) (X := X) hk 60 (Nat.le_refl _)
  rw [← lX_sum, ← lX_sum, ← lX_sum] at h
  by_cases c : 60 ≤ k
  · have e : k = 60 := by omega
    subst e
    rw [if_pos c] at h
    omega
  · rw [if_neg c] at h
    omega
theorem head_tail {X k : Nat} (hX : X < 2 ^ 60) (hk : k ≤ 60) : headX X k ^^^ tailX X k = X := by
  have h1 : headX X k < 2 ^ 60 := Nat.lt_of_le_of_lt (dif_le _ _) hX
  refine setX_ext (Nat.xor_lt_two_pow h1 (tailX_lt hX)) hX (fun i hi => ?_)
  rw [inX_xor, inX_head hi hk, inX_tail hi hk]
  by_cases c : i < k
  · rw [decide_eq_true c, decide_eq_false (show ¬ k ≤ i by omega)]; simp
  · rw [decide_eq_false c, decide_eq_true (show k ≤ i by omega)]; simp
theorem Lv_head {G : Gr} {X k : Nat} (h : Lv G X) (hk : k ≤ 60) : Lv G (headX X k) := by
  refine ⟨Nat.lt_of_le_of_lt (dif_le _ _) h.1, fun i hi hx => ?_⟩
  rw [inX_head hi hk, Bool.and_eq_true] at hx
  exact h.2 i hi hx.1
theorem Lv_tail {G : Gr} {X k : Nat} (h : Lv G X) (hk : k ≤ 60) : Lv G (tailX X k) := by
  refine ⟨tailX_lt h.1, fun i hi hx => ?_⟩
  rw [inX_tail hi hk, Bool.and_eq_true] at hx
  exact h.2 i hi hx.1
theorem isJ_len {G : Gr} {T X : Nat} (h : IsJ G T X) {Y : Nat} (hY : JT G T Y) : lX (lnM G) X 60 < lX (lnM G) Y 60 ∨ (lX (lnM G) X 60 = lX (lnM G) Y 60 ∧ Y ≤ X) := by
  have h1 := h.2 Y hY
  have h2 := cX_le X 60
  have h3 := cX_le Y 60
  rw [lenM, lenM]
  omega
theorem isJ_exists {G : Gr} {T v : Nat} (h1 : ∃ X, JT G T X ∧ lX (lnM G) X 60 = v) (h2 : ∀ Y, JT G T Y → v ≤ lX (lnM G) Y 60) : ∃ X, IsJ G T X ∧ lX (lnM G) X 60 = v := by
  obtain ⟨Z, z1, z2⟩ := h1
  obtain ⟨d, ⟨X, x1, x2, x3⟩, hmin⟩ := pk_least (fun d => ∃ X, JT G T X ∧ lX (lnM G) X 60 = v ∧ X + d = 2 ^ 60) ⟨2 ^ 60 - Z, Z, z1, z2, by have := z1.1.1; omega⟩
  refine ⟨X, ⟨x1, fun Y y1 => ?_⟩, x2⟩
  have hv := h2 Y y1
  have c1 := cX_le X 60
  have c2 := cX_le Y 60
  have hXY : lX (lnM G) Y 60 = v → Y ≤ X := by
    intro e
    rcases Nat.lt_or_ge X Y with q | q
    · exact absurd ⟨Y, y1, e, by have := y1.1.1; omega⟩ (hmin (2 ^ 60 - Y) (by have := y1.1.1; omega))
    · exact q
  rw [lenM] at x2 hv hXY
  by_cases e : wX G Y 60 * 64 + cX Y 60 = v
  · have := hXY e
    omega
  · omega
theorem jtail {G : Gr} {T X k : Nat} (h : IsJ G T X) (hk : k ≤ 60) : JT G (oX G (tailX X k) 60) (tailX X k) ∧ ∀ Z, JT G (oX G (tailX X k) 60) Z → lX (lnM G) (tailX X k) 60 ≤ lX (lnM G) Z 60 := by
  refine ⟨⟨Lv_tail h.1.1 hk, rfl⟩, fun Z hZ => ?_⟩
  have hX := h.1.1.1
  have h1 : JT G T (headX X k ^^^ Z) := by
    refine ⟨Lv_xor (Lv_head h.1.1 hk) hZ.1, ?_⟩
    rw [oX_xor, hZ.2, ← oX_xor, head_tail hX hk]
    exact h.1.2
  have h2 := isJ_len h h1
  have h3 := lX_xor (l := lnM G) (X := headX X k) (Y := Z) 60
  rw [lX_head hk] at h3
  have h4 := lX_tail (l := lnM G) (X := X) hk
  omega
theorem tail_s {X k : Nat} (hX : X < 2 ^ 60) (hk : k < 60) : tailX X k = if inX X k = true then tailX X (k + 1) ^^^ mkA k else tailX X (k + 1) := by
  have h1 : tailX X (k + 1) ^^^ mkA k < 2 ^ 60 := Nat.xor_lt_two_pow (tailX_lt hX) mkA_lt
  by_cases c : inX X k = true
  · rw [if_pos c]
    refine setX_ext (tailX_lt hX) h1 (fun i hi => ?_)
    rw [inX_xor, inX_tail hi (by omega), inX_tail hi (by omega), inX_mkA hk hi]
    by_cases d : i = k
    · subst d
      rw [c, decide_eq_true (Nat.le_refl i), decide_eq_false (show ¬ i + 1 ≤ i by omega), decide_eq_true (rfl : i = i)]; rfl
    · rw [decide_eq_false d, Bool.xor_false]
      congr 1
      rw [decide_eq_decide]; omega
  · rw [if_neg c]
    refine setX_ext (tailX_lt hX) (tailX_lt hX) (fun i hi => ?_)
    rw [inX_tail hi (by omega), inX_tail hi (by omega)]
    by_cases d : i = k
    · subst d
      have : inX X i = false := by cases x : inX X i with | false => rfl | true => exact absurd x c
      rw [this]; rfl
    · congr 1
      rw [decide_eq_decide]; omega
theorem lnM_pos (G : Gr) (i : Nat) : 0 < lnM G i := by unfold lnM; omega
theorem join_no {G : Gr} (hW : Wf G) {T X k Z : Nat} (h : IsJ G T X) (hk : k < md G) (ha : al G k = true) (hx : inX X k = false) (hZ : JT G (oX G (tailX X k) 60 ^^^ (2 ^ fr G k ^^^ 2 ^ tt G k)) Z) : lX (lnM G) Z 60 + lnM G k ≠ lX (lnM G) (tailX X k) 60 := by
  have h60 := hW.2.1
  intro e
  have hX := h.1.1.1
  have hk60 : k < 60 := by omega
  have hmk := Lv_mkA hW hk ha
  have o1 : oX G (mkA k) 60 = 2 ^ fr G k ^^^ 2 ^ tt G k := by rw [oX_mkA hk60 60 (Nat.le_refl _), if_pos hk60]
  have l1 : lX (lnM G) (mkA k) 60 = lnM G k := by rw [lX_mkA hk60 60 (Nat.le_refl _), if_pos hk60]
  have hW2 : oX G (mkA k ^^^ Z) 60 = oX G (tailX X k) 60 := by
    rw [oX_xor, o1, hZ.2]
    apply Nat.eq_of_testBit_eq
    intro j
    simp only [Nat.testBit_xor]
    cases (oX G (tailX X k) 60).testBit j <;> cases (2 ^ fr G k).testBit j <;> cases (2 ^ tt G k).testBit j <;> rfl
  have hY : JT G T (headX X k ^^^ (mkA k ^^^ Z)) := by
    refine ⟨Lv_xor (Lv_head h.1.1 (by omega)) (Lv_xor hmk hZ.1), ?_⟩
    rw [oX_xor, hW2, ← oX_xor, head_tail hX (by omega)]
    exact h.1.2
  have h2 := isJ_len h hY
  have h3 := lX_xor (l := lnM G) (X := headX X k) (Y := mkA k ^^^ Z) 60
  have h4 := lX_xor (l := lnM G) (X := mkA k) (Y := Z) 60
  rw [lX_head (by omega)] at h3
  have h5 := lX_tail (l := lnM G) (X := X) (k := k) (by omega)
  have d1 := lX_dis (lnM_pos G) (X := headX X k) (Y := mkA k ^^^ Z) 60 (by rw [lX_head (by omega)]; omega)
  have d2 := lX_dis (lnM_pos G) (X := mkA k) (Y := Z) 60 (by omega)
  have hzk : inX Z k = false := by
    cases x : inX Z k with
    | false => rfl
    | true => exact absurd ⟨by rw [inX_mkA hk60 hk60]; simp, x⟩ (d2 k hk60)
  have h6 := first_lt (X := X) (Y := headX X k ^^^ (mkA k ^^^ Z)) hX hY.1.1 hk60 (fun i hi hxi => by
    have q1 : inX (headX X k) i = true := by rw [inX_head (by omega) (by omega), hxi, decide_eq_true hi]; rfl
    have q2 : inX (mkA k ^^^ Z) i = false := by
      cases x : inX (mkA k ^^^ Z) i with
      | false => rfl
      | true => exact absurd ⟨q1, x⟩ (d1 i (by omega))
    rw [inX_xor, q1, q2]; rfl) hx (by
    rw [inX_xor, inX_xor, inX_head hk60 (by omega), hx, inX_mkA hk60 hk60, hzk]; simp)
  omega
abbrev K24 : Type := Int32 × Int32 × Int32 × Int32 × Int32 × Int32 × Int32 × Int32 × (Nat → Int32) × (Nat → Int32) × (Nat → Int32) × (Nat → Int32) × (Nat → Int32) × (Nat → Int32) × (Nat → Int32) × (Nat → Int32) × (Nat → Int32) × (Nat → Int32) × (Nat → Int32) × (Nat → Int32) × (Nat → Int32) × (Nat → Int32) × (Nat → Int32) × (Nat → Int32)
theorem nI_xor (a b : Nat) (ha : a < 2 ^ 31) (hb : b < 2 ^ 31) : nI a ^^^ nI b = nI (a ^^^ b) := by
  apply Int32.toBitVec_inj.mp
  apply BitVec.eq_of_toNat_eq
  have h1 : (nI a).toBitVec.toNat = a := by
    show (BitVec.ofNat 32 a).toNat = a
    rw [BitVec.toNat_ofNat]; omega
  have h2 : (nI b).toBitVec.toNat = b := by
    show (BitVec.ofNat 32 b).toNat = b
    rw [BitVec.toNat_ofNat]; omega
  have h3 : a ^^^ b < 2 ^ 31 := Nat.xor_lt_two_pow ha hb
  have h4 : (nI (a ^^^ b)).toBitVec.toNat = a ^^^ b := by
    show (BitVec.ofNat 32 (a ^^^ b)).toNat = a ^^^ b
    rw [BitVec.toNat_ofNat]; omega
  rw [Int32.toBitVec_xor, BitVec.toNat_xor, h1, h2, h4]
theorem join52_L {G : Gr} (hW : Wf G) {nodes made : Int32} {fm tm wm am : Nat → Int32} (hC : MG G nodes made fm tm wm am) {pc : Nat → Int32} (hpc : ∀ t, t ≤ allN G → PCm G t (pc t)) {T X : Nat} (hX : IsJ G T X) {kk : Int32 → (Nat → Int32) → Option K24} :
    ∀ (k f i : Nat) (ij : Nat → Int32), i + k = md G → k < f → (∀ j, j < i → ij j = if inX X j = true then 1 else 0) → ∃ ij', f_X12_join_L52 made fm tm wm am pc kk f (nI (oX G (tailX X i) 60)) (nI (lX (lnM G) (tailX X i) 60)) (nI (wX G X i)) (nI i) ij = kk (nI (wX G X (md G))) ij' ∧ ∀ j, j < md G → ij' j = if inX X j = true then 1 else 0 := by
  have hn := hW.1
  have hm60 := hW.2.1
  have hall := allN_lt hW
  have hX60 := hX.1.1.1
  obtain ⟨-, rfl, harc⟩ := hC
  intro k
  induction k with
  | zero =>
    intro f i ij e1 hf h
    obtain ⟨f, rfl⟩ : ∃ k, f = k + 1 := ⟨f - 1, by omega⟩
    refine ⟨ij, ?_, fun j hj => h j (by omega)⟩
    unfold f_X12_join_L52
    rw [if_pos (by rw [nI_leI (by omega) (by omega)]; omega), show md G = i by omega]
  | succ k ih =>
    intro f i ij e1 hf h
    obtain ⟨f, rfl⟩ : ∃ k, f = k + 1 := ⟨f - 1, by omega⟩
    obtain ⟨f1, f2, f3, f4⟩ := harc i (by omega)
    obtain ⟨w1, w2, w3, w4⟩ := hW.2.2 i (by omega)
    have hLt := Lv_tail (k := i) hX.1.1 (by omega)
    have hO16 := oX_16 hW hLt
    have hneed := lenM_le hW hLt
    have hts := tail_s (k := i) hX60 (by omega)
    -- the arc is not of the join
    have skip : inX X i = false → ∃ ij', f_X12_join_L52 (nI (md G)) fm tm wm am pc kk f (nI (oX G (tailX X i) 60)) (nI (lX (lnM G) (tailX X i) 60)) (nI (wX G X i)) (nI (i + 1)) (va_up ij i 0) = kk (nI (wX G X (md G))) ij' ∧ ∀ j, j < md G → ij' j = if inX X j = true then 1 else 0 := by
      intro c
      rw [c, if_neg (by decide)] at hts
      have h1 := ih f (i + 1) (va_up ij i 0) (by omega) (by omega) (fun j hj => by
        by_cases d : j = i
        · subst d; rw [up_s, c]; rfl
        · rw [up_n d]; exact h j (by omega))
      rw [← hts, wX_s, c] at h1
      exact h1
    unfold f_X12_join_L52
    rw [if_neg (fun h => by rw [nI_leI (by omega) (by omega)] at h; omega), wr_nI (by omega) (by decide), rd_nI (by omega) (by decide), f4, nI_1]
    by_cases ca : al G i = true
    · rw [if_pos ca, if_neg (by decide)]
      by_cases hz : lX (lnM G) (tailX X i) 60 = 0
      · rw [if_pos (by rw [hz]; rfl)]
        refine skip ?_
        cases x : inX X i with
        | false => rfl
        | true =>
          have hi2 : inX (tailX X i) i = true := by rw [inX_tail (by omega) (by omega), x, decide_eq_true (Nat.le_refl i)]; rfl
          have := lX_dif (l := lnM G) (X := tailX X i) (show i < 60 by omega) hi2
          have := lnM_pos G i
          omega
      · have hpf : 2 ^ fr G i < 2 ^ 16 := Nat.pow_lt_pow_right (by decide) (by omega)
        have hpt : 2 ^ tt G i < 2 ^ 16 := Nat.pow_lt_pow_right (by decide) (by omega)
        rw [if_neg (nI_ne0 (by omega) (by omega)), rd_nI (by omega) (by decide), rd_nI (by omega) (by decide), f1, f2]
        simp only [ltt]
        have hx1 : oX G (tailX X i) 60 ^^^ 2 ^ fr G i < 2 ^ 16 := Nat.xor_lt_two_pow hO16 hpf
        rw [rd_nI (by omega) (by decide), f3, shl_nI (by omega), shl_nI (by omega), nI_xor _ _ (by omega) (by omega), nI_xor _ _ (by omega) (by omega), show (64 : Int32) = nI 64 from rfl, pk_mul, nI_1, show wt G i * 64 + 1 = lnM G i from rfl, Nat.xor_assoc]
        have hthen : oX G (tailX X i) 60 ^^^ (2 ^ fr G i ^^^ 2 ^ tt G i) ≤ allN G := or_ge (fun v hv => by
          rw [Nat.testBit_xor, bit2] at hv
          rw [allN_bit]
          apply decide_eq_true
          cases x : (oX G (tailX X i) 60).testBit v with
          | true => exact oX_lt hW hLt x
          | false =>
            rw [x] at hv
            by_cases y : fr G i = v
            · omega
            · by_cases z : tt G i = v
              · omega
              · rw [decide_eq_false y, decide_eq_false z] at hv; cases hv)
        rw [rd_nI (by omega) (by decide)]
        have hln : lnM G i ≤ 64001 := by unfold lnM; omega
        rcases hpc _ hthen with ⟨p1, p2⟩ | ⟨v, v1, v2, ⟨Z, z1, z2⟩, v4⟩
        · rw [p1, if_pos (show (1000000000 : Int32) ≤ nI 1000000000 by decide)]
          refine skip ?_
          cases x : inX X i with
          | false => rfl
          | true =>
            exfalso
            rw [x, if_pos rfl] at hts
            refine p2 (tailX X (i + 1)) ⟨Lv_tail hX.1.1 (by omega), ?_⟩
            rw [hts, oX_xor, oX_mkA (by omega) 60 (Nat.le_refl _), if_pos (by omega), Nat.xor_assoc, Nat.xor_self, Nat.xor_zero]
        · rw [v2, if_neg (show ¬ (1000000000 : Int32) ≤ nI v from fun x => by rw [show (1000000000 : Int32) = nI 1000000000 from rfl, nI_leI (by decide) (by omega)] at x; omega), rd_nI (by omega) (by decide), v2, nI_add]
          cases x : inX X i with
          | true =>
            rw [x, if_pos rfl] at hts
            have hlt2 : lX (lnM G) (tailX X i) 60 = lX (lnM G) (tailX X (i + 1)) 60 + lnM G i := by
              have q1 := lX_tail (l := lnM G) (X := X) (k := i) (by omega)
              have q2 := lX_tail (l := lnM G) (X := X) (k := i + 1) (by omega)
              rw [lX_s (lnM G) X i, if_pos x] at q2
              omega
            have hot : oX G (tailX X (i + 1)) 60 = oX G (tailX X i) 60 ^^^ (2 ^ fr G i ^^^ 2 ^ tt G i) := by
              rw [hts, oX_xor, oX_mkA (by omega) 60 (Nat.le_refl _), if_pos (by omega), Nat.xor_assoc, Nat.xor_self, Nat.xor_zero]
            obtain ⟨t1, t2⟩ := jtail (k := i + 1) hX (by omega)
            rw [hot] at t1 t2
            have ev : v = lX (lnM G) (tailX X (i + 1)) 60 := by
              have q1 := v4 _ t1
              have q2 := t2 Z z1
              omega
            rw [if_pos (by rw [ev, hlt2]), wr_nI (by omega) (by decide), rd_nI (by omega) (by decide), f3, nI_add, hlt2, pk_sub (by omega), Nat.add_sub_cancel]
            have h1 := ih f (i + 1) (va_up (va_up ij i 0) i 1) (by omega) (by omega) (fun j hj => by
              by_cases d : j = i
              · subst d; rw [up_s, x]; rfl
              · rw [up_n d, up_n d]; exact h j (by omega))
            rw [hot, wX_s, if_pos x] at h1
            exact h1
          | false =>
            rw [if_neg (fun q => join_no hW hX (show i < md G by omega) ca x z1 (by rw [z2]; exact (nI_eq (by omega) (by omega)).mp q))]
            exact skip x
    · rw [if_neg ca, if_pos rfl]
      refine skip ?_
      cases x : inX X i with
      | false => rfl
      | true => exact absurd (hX.1.1.2 i (by omega) x).2 ca
