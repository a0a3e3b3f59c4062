/-! ===== the reference's count ===== -/
abbrev K5 : Type := Int64 × (Nat → Int32) × (Nat → Int32) × (Nat → Int64) × (Nat → Int64)
theorem count127_L {G : Gr} (hW : Wf G) {near : Nat → Int32} (hnr : ∀ v u, v < 16 → u < 16 → near (v * 16 + u) = nI (cnt G (md G) v u)) {k0 s : Nat} (h0 : 0 < s) (hs : s ≤ allN G) {lc : Nat → Int64} (hlc : ∀ t, t ≤ allN G → lc t = ctN G k0 t) {kk : Int64 → Option K5} :
    ∀ (k m u : Nat) (acc : Int64), u + k = nd G → low 16 s < u → k < m → f_X12_count_L127 (nI (nd G)) near lc (nI s) (nI (low 16 s)) kk m acc (nI u) = kk (smL G (ctN G k0) s k u acc) := by
  have hn := hW.1
  have ha := allN_lt hW
  have hm60 := hW.2.1
  have hl := low_lt (k := 16) h0 (show s < 2 ^ 16 by omega)
  have hrl := rst_lt h0 (show s < 65536 by omega)
  have hrst : nI s &&& (((1 : Int32) <<< (nI (low 16 s) &&& 31)) ^^^ (-1)) = nI (rst s) := without_nI s (by omega)
  intro k
  induction k with
  | zero =>
    intro m u acc e1 hu hm
    obtain ⟨m, rfl⟩ : ∃ k, m = k + 1 := ⟨m - 1, by omega⟩
    unfold f_X12_count_L127
    rw [if_pos (by rw [nI_leI (by omega) (by omega)]; omega)]
    rfl
  | succ k ih =>
    intro m u acc e1 hu hm
    obtain ⟨m, rfl⟩ : ∃ k, m = k + 1 := ⟨m - 1, by omega⟩
    have hcl := cnt_le (G := G) (md G) (low 16 s) u
    have hcp : 0 < cnt G (md G) (low 16 s) u ↔ (adj G (low 16 s)).testBit u = true := by rw [cnt_pos, adj_bit hW]
    have hdl := dif_le (rst s) (2 ^ u)
    unfold f_X12_count_L127
    rw [if_neg (fun h => by rw [nI_leI (by omega) (by omega)] at h; omega), hrst, bitv_nI (by omega) (by omega), smL_s, nI_1]
    by_cases c : (rst s).testBit u = true
    · rw [if_pos c, if_pos rfl, cell2_nI, rd_nI (by omega) (by decide), hnr _ _ hl (by omega)]
      by_cases d : (adj G (low 16 s)).testBit u = true
      · rw [if_neg (fun h => by rw [z32, nI_leI (by omega) (by decide)] at h; have := hcp.mpr d; omega), rd_nI (by omega) (by decide), hnr _ _ hl (by omega), without_nI _ (by omega), rd_nI (by omega) (by decide), hlc _ (by omega), if_pos ⟨c, d⟩]
        exact ih m (u + 1) _ (by omega) (by omega) (by omega)
      · rw [if_pos (by rw [z32, nI_leI (by omega) (by decide)]; have : ¬ 0 < cnt G (md G) (low 16 s) u := fun h => d (hcp.mp h); omega), if_neg (fun h => d h.2)]
        exact ih m (u + 1) _ (by omega) (by omega) (by omega)
    · rw [if_neg c, if_neg (by decide), if_neg (fun h => c h.1)]
      exact ih m (u + 1) _ (by omega) (by omega) (by omega)
theorem count88_L {F : Nat} (hF : 100000 ≤ F) {G : Gr} (hW : Wf G) {near : Nat → Int32} (hnr : ∀ v u, v < 16 → u < 16 → near (v * 16 + u) = nI (cnt G (md G) v u)) {k0 : Nat} {lc : Nat → Int64} (hlc : ∀ t, t ≤ allN G → lc t = ctN G k0 t) {kk : (Nat → Int64) → Option K5} :
    ∀ (k m s : Nat) (ct : Nat → Int64), s + k = allN G + 1 → 0 < s → k < m → (∀ t, t < s → ct t = ctN G (k0 + 1) t) → ∃ ct', f_X12_count_L88 F (nI (nd G)) near lc kk m (nI s) ct = kk ct' ∧ ∀ t, t ≤ allN G → ct' t = ctN G (k0 + 1) t := by
  have hn := hW.1
  have ha := allN_lt hW
  intro k
  induction k with
  | zero =>
    intro m s ct e1 h0 hm hc
    obtain ⟨m, rfl⟩ : ∃ k, m = k + 1 := ⟨m - 1, by omega⟩
    refine ⟨ct, ?_, fun t ht => hc t (by omega)⟩
    unfold f_X12_count_L88
    rw [mall_eq hW, if_pos ((nI_ltI (by omega) (by omega)).mpr (by omega))]
  | succ k ih =>
    intro m s ct e1 h0 hm hc
    obtain ⟨m, rfl⟩ : ∃ k, m = k + 1 := ⟨m - 1, by omega⟩
    have hs : s < 65536 := by omega
    have hl := low_lt (k := 16) h0 (show s < 2 ^ 16 by omega)
    have hrl := rst_lt h0 hs
    have hrst : nI s &&& (((1 : Int32) <<< (nI (low 16 s) &&& 31)) ^^^ (-1)) = nI (rst s) := without_nI s (by omega)
    have hlb : low 16 s < nd G := sub_allN (show s ≤ allN G by omega) (low_bit (k := 16) h0 hs)
    unfold f_X12_count_L88
    rw [mall_eq hW, if_neg (fun h => by rw [nI_ltI (by omega) (by omega)] at h; omega), mleast_eq hF h0 hs, bS, hrst, rd_nI (by omega) (by decide)]
    simp only [jn]
    rw [nI_1 (low 16 s), count127_L hW hnr h0 (by omega) hlc (nd G - (low 16 s + 1)) F (low 16 s + 1) _ (by omega) (by omega) (by omega), wr_nI (by omega) (by decide), nI_1]
    refine ih m (s + 1) _ (by omega) (by omega) (by omega) (fun t ht => ?_)
    by_cases c : t = s
    · subst c
      rw [up_s, ctN_s G k0 h0 hs, hc (rst t) (by omega), show 15 - low 16 t = (nd G - (low 16 t + 1)) + (16 - nd G) by omega, smL_add, smL_none (16 - nd G)]
      intro w hw
      cases x : (adj G (low 16 t)).testBit w with
      | false => rfl
      | true => have := (adj_in hW x).2.1; omega
    · rw [up_n c]; exact hc t (by omega)
theorem count53_L {G : Gr} (hW : Wf G) {ct : Nat → Int64} {kk : (Nat → Int64) → Option K5} :
    ∀ (k m s : Nat) (lc : Nat → Int64), s + k = allN G + 1 → k < m → (∀ t, t < s → lc t = ct t) → ∃ lc', f_X12_count_L53 (nI (nd G)) ct kk m (nI s) lc = kk lc' ∧ ∀ t, t ≤ allN G → lc' t = ct t := by
  have ha := allN_lt hW
  intro k
  induction k with
  | zero =>
    intro m s lc e1 hm hc
    obtain ⟨m, rfl⟩ : ∃ k, m = k + 1 := ⟨m - 1, by omega⟩
    refine ⟨lc, ?_, fun t ht => hc t (by omega)⟩
    unfold f_X12_count_L53
    rw [mall_eq hW, if_pos ((nI_ltI (by omega) (by omega)).mpr (by omega))]
  | succ k ih =>
    intro m s lc e1 hm hc
    obtain ⟨m, rfl⟩ : ∃ k, m = k + 1 := ⟨m - 1, by omega⟩
    unfold f_X12_count_L53
    rw [mall_eq hW, if_neg (fun h => by rw [nI_ltI (by omega) (by omega)] at h; omega), rd_nI (by omega) (by decide), wr_nI (by omega) (by decide), nI_1]
    refine ih m (s + 1) _ (by omega) (by omega) (fun t ht => ?_)
    by_cases c : t = s
    · rw [c, up_s]
    · rw [up_n c]; exact hc t (by omega)
theorem count23_L {G : Gr} (hW : Wf G) {kk : (Nat → Int64) → Option K5} :
    ∀ (k m s : Nat) (ct : Nat → Int64), s + k = allN G + 1 → k < m → (∀ t, t < s → ct t = 1) → ∃ ct', f_X12_count_L23 (nI (nd G)) kk m (nI s) ct = kk ct' ∧ ∀ t, t ≤ allN G → ct' t = 1 := by
  have ha := allN_lt hW
  intro k
  induction k with
  | zero =>
    intro m s ct e1 hm hc
    obtain ⟨m, rfl⟩ : ∃ k, m = k + 1 := ⟨m - 1, by omega⟩
    refine ⟨ct, ?_, fun t ht => hc t (by omega)⟩
    unfold f_X12_count_L23
    rw [mall_eq hW, if_pos ((nI_ltI (by omega) (by omega)).mpr (by omega))]
  | succ k ih =>
    intro m s ct e1 hm hc
    obtain ⟨m, rfl⟩ : ∃ k, m = k + 1 := ⟨m - 1, by omega⟩
    unfold f_X12_count_L23
    rw [mall_eq hW, if_neg (fun h => by rw [nI_ltI (by omega) (by omega)] at h; omega), wr_nI (by omega) (by decide), nI_1]
    refine ih m (s + 1) _ (by omega) (by omega) (fun t ht => ?_)
    by_cases c : t = s
    · rw [c, up_s]
    · rw [up_n c]; exact hc t (by omega)
theorem count46_L {F : Nat} (hF : 100000 ≤ F) {G : Gr} (hW : Wf G) {near : Nat → Int32} (hnr : ∀ v u, v < 16 → u < 16 → near (v * 16 + u) = nI (cnt G (md G) v u)) {z : Nat} (hz : z ≤ 8) {kk : (Nat → Int64) → (Nat → Int64) → Option K5} :
    ∀ (k m j : Nat) (ct lc : Nat → Int64), j + k = z + 1 → 0 < j → k < m → (∀ t, t ≤ allN G → ct t = ctN G (j - 1) t) → ∃ ct' lc', f_X12_count_L46 F (nI (nd G)) (nI z) near kk m (nI j) ct lc = kk ct' lc' ∧ ∀ t, t ≤ allN G → ct' t = ctN G z t := by
  have ha := allN_lt hW
  intro k
  induction k with
  | zero =>
    intro m j ct lc e1 h0 hm hc
    obtain ⟨m, rfl⟩ : ∃ k, m = k + 1 := ⟨m - 1, by omega⟩
    refine ⟨ct, lc, ?_, fun t ht => by rw [hc t ht, show j - 1 = z by omega]⟩
    unfold f_X12_count_L46
    rw [if_pos ((nI_ltI (by omega) (by omega)).mpr (by omega))]
  | succ k ih =>
    intro m j ct lc e1 h0 hm hc
    obtain ⟨m, rfl⟩ : ∃ k, m = k + 1 := ⟨m - 1, by omega⟩
    obtain ⟨lc1, a1, a2⟩ := count53_L hW (ct := ct) (kk := fun lc1 => wr 65536 ct (nI 0) (0 : Int64) (fun ct1 => f_X12_count_L88 F (nI (nd G)) near lc1 (fun ct2 => f_X12_count_L46 F (nI (nd G)) (nI z) near kk m (nI j + 1) ct2 lc1) F 1 ct1)) (allN G + 1) F 0 lc (by omega) (by omega) (fun t h => by omega)
    unfold f_X12_count_L46
    rw [if_neg (fun h => by rw [nI_ltI (by omega) (by omega)] at h; omega)]
    simp only [jn]
    rw [z32]
    rw [a1, wr_nI (by decide) (by decide)]
    obtain ⟨ct2, b1, b2⟩ := count88_L hF hW hnr (k0 := j - 1) (lc := lc1) (fun t ht => by rw [a2 t ht, hc t ht]) (kk := fun ct2 => f_X12_count_L46 F (nI (nd G)) (nI z) near kk m (nI j + 1) ct2 lc1) (allN G) F 1 (va_up ct 0 0) (by omega) (by omega) (by omega) (fun t ht => by
      have : t = 0 := by omega
      subst this
      rw [up_s]; rfl)
    rw [← show (1 : Int32) = nI 1 from rfl] at b1
    rw [b1, nI_1]
    exact ih m (j + 1) ct2 lc1 (by omega) (by omega) (by omega) (fun t ht => by rw [b2 t ht, show j - 1 + 1 = j + 1 - 1 by omega])
theorem mcount_eq {F : Nat} (hF : 100000 ≤ F) {G : Gr} (hW : Wf G) {nodes made : Int32} {fm tm wm am : Nat → Int32} (hC : MG G nodes made fm tm wm am) {z : Nat} (hz : z ≤ 8) (near worth : Nat → Int32) (ct lc : Nat → Int64) : ∃ near' worth' ct' lc', f_X12_count F (nI z) nodes made fm tm wm am near worth ct lc = some (ctN G z (allN G), near', worth', ct', lc') := by
  have ha := allN_lt hW
  obtain ⟨n1, w1, a1, a2⟩ := worth_eq hF hW hC (way := 0) (by decide) near worth
  have hnr : ∀ v u, v < 16 → u < 16 → n1 (v * 16 + u) = nI (cnt G (md G) v u) := fun v u hv hu => (a2 v u hv hu).1
  have hnod := hC.1
  subst hnod
  obtain ⟨ct1, b1, b2⟩ := count23_L hW (kk := fun c1 => f_X12_count_L46 F (nI (nd G)) (nI z) n1 (fun c2 l2 => rd 65536 c2 (f_X12_all (nI (nd G))) (fun y => some (y, n1, w1, c2, l2))) F (nI 1) c1 lc) (allN G + 1) F 0 ct (by omega) (by omega) (fun t h => by omega)
  obtain ⟨ct2, lc2, c1, c2⟩ := count46_L hF hW hnr hz (kk := fun c2 l2 => rd 65536 c2 (f_X12_all (nI (nd G))) (fun y => some (y, n1, w1, c2, l2))) z F 1 ct1 lc (by omega) (by omega) (by omega) (fun t ht => by rw [b2 t ht]; rfl)
  refine ⟨n1, w1, ct2, lc2, ?_⟩
  unfold f_X12_count
  rw [if_pos (show (0 : Int32) ≤ nI z from nI_pos' (by omega)), if_pos (show nI z ≤ (8 : Int32) from (nI_leI (b := 8) (by omega) (by decide)).mpr hz), z32, a1, b2S]
  simp only [jn]
  rw [show (1 : Int32) = nI 1 from rfl]
  rw [b1, c1, mall_eq hW, rd_nI (by omega) (by decide), c2 _ (Nat.le_refl _)]
