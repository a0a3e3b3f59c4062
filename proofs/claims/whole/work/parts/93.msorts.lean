/-! ===== the reference's pieces and parts ===== -/
theorem pieces269_L {G : Gr} (hW : Wf G) {M : Nat} (hM : M < 65536) {pc : Int32} {pc0 : Nat → Int32} {kk : (Nat → Int32) → Option S6} :
    ∀ (k m v : Nat) (ps : Nat → Int32), v + k = nd G → k < m → (∀ u, ps u = if u < v ∧ M.testBit u = true then pc else pc0 u) → ∃ ps', f_X12_findSorts_L269 (nI (nd G)) pc (nI M) kk m (nI v) ps = kk ps' ∧ ∀ u, u < nd G → ps' u = if M.testBit u = true then pc else pc0 u := by
  have hn := hW.1
  intro k
  induction k with
  | zero =>
    intro m v ps e1 hm hp
    obtain ⟨m, rfl⟩ : ∃ k, m = k + 1 := ⟨m - 1, by omega⟩
    refine ⟨ps, ?_, fun u hu => ?_⟩
    · unfold f_X12_findSorts_L269
      rw [if_pos (by rw [nI_leI (by omega) (by omega)]; omega)]
    · rw [hp u]
      by_cases c : M.testBit u = true
      · rw [if_pos c, if_pos ⟨by omega, c⟩]
      · rw [if_neg c, if_neg (fun h => c h.2)]
  | succ k ih =>
    intro m v ps e1 hm hp
    obtain ⟨m, rfl⟩ : ∃ k, m = k + 1 := ⟨m - 1, by omega⟩
    unfold f_X12_findSorts_L269
    rw [if_neg (fun h => by rw [nI_leI (by omega) (by omega)] at h; omega), bitv_nI (by omega) (by omega), nI_1]
    by_cases c : M.testBit v = true
    · rw [if_pos c, if_pos rfl, wr_nI (by omega) (by decide)]
      refine ih m (v + 1) _ (by omega) (by omega) (fun u => ?_)
      by_cases d : u = v
      · subst d; rw [up_s, if_pos ⟨by omega, c⟩]
      · rw [up_n d, hp u]
        by_cases e : u < v ∧ M.testBit u = true
        · rw [if_pos e, if_pos ⟨by omega, e.2⟩]
        · rw [if_neg e, if_neg (fun h => e ⟨by omega, h.2⟩)]
    · rw [if_neg c, if_neg (by decide)]
      refine ih m (v + 1) _ (by omega) (by omega) (fun u => ?_)
      rw [hp u]
      by_cases e : u < v ∧ M.testBit u = true
      · rw [if_pos e, if_pos ⟨by omega, e.2⟩]
      · rw [if_neg e, if_neg (fun h => e ⟨by
          by_cases d : u = v
          · subst d; exact absurd h.2 c
          · omega, h.2⟩)]
def PcI (G : Gr) (W : Nat) (cm : Nat → Nat) (v : Nat) (ps : Nat → Int32) : Prop := ∀ u, u < nd G → ps u = if (spl W cm v).1.testBit u = true then nI ((spl W cm v).2.1 u) else -1
theorem pieces227_L {F : Nat} (hF : 100000 ≤ F) {G : Gr} (hW : Wf G) {nodes made : Int32} {fm tm wm am : Nat → Int32} (hC : MG G nodes made fm tm wm am) {W : Nat} {cm : Nat → Nat} (hcm : CM G W cm) {so : Nat → Int32} (hs : ∀ v, v < nd G → (so v = 1 ↔ W.testBit v = false)) {kk : (Nat → Int32) → Int32 → Option S6} :
    ∀ (k m v : Nat) (ps : Nat → Int32), v + k = nd G → k < m → PcI G W cm v ps → ∃ ps', f_X12_findSorts_L227 F (nI (nd G)) made fm tm am so (nI W) kk m (nI v) ps (nI (spl W cm v).2.2.1) = kk ps' (nI (spl W cm (nd G)).2.2.1) ∧ PcI G W cm (nd G) ps' := by
  have hn := hW.1
  intro k
  induction k with
  | zero =>
    intro m v ps e1 hm hp
    obtain ⟨m, rfl⟩ : ∃ k, m = k + 1 := ⟨m - 1, by omega⟩
    have e : nd G = v := by omega
    refine ⟨ps, ?_, by rw [e]; exact hp⟩
    unfold f_X12_findSorts_L227
    rw [if_pos (by rw [nI_leI (by omega) (by omega)]; omega), e]
  | succ k ih =>
    intro m v ps e1 hm hp
    obtain ⟨m, rfl⟩ : ∃ k, m = k + 1 := ⟨m - 1, by omega⟩
    have hb := spl_bd (W := W) (cm := cm) v
    unfold f_X12_findSorts_L227
    rw [if_neg (fun h => by rw [nI_leI (by omega) (by omega)] at h; omega), rd_nI (by omega) (by decide), rd_nI (by omega) (by decide), nI_1]
    have old : ¬ (W.testBit v = true ∧ (spl W cm v).1.testBit v = false) → ∃ ps', f_X12_findSorts_L227 F (nI (nd G)) made fm tm am so (nI W) kk m (nI (v + 1)) ps (nI (spl W cm v).2.2.1) = kk ps' (nI (spl W cm (nd G)).2.2.1) ∧ PcI G W cm (nd G) ps' := by
      intro c
      have e := spl_old c
      obtain ⟨ps', h1, h2⟩ := ih m (v + 1) ps (by omega) (by omega) (by unfold PcI; rw [e]; exact hp)
      refine ⟨ps', ?_, h2⟩
      rw [← h1, e]
    have hsv := hs v (by omega)
    cases c : W.testBit v with
    | false =>
      rw [if_pos (hsv.mpr c)]
      exact old (fun h => by rw [c] at h; cases h.1)
    | true =>
      rw [if_neg (fun h => by rw [hsv.mp h] at c; cases c), hp v (by omega)]
      cases d : (spl W cm v).1.testBit v with
      | true =>
        have hlt := hb.2.2 v d
        rw [if_pos rfl, if_neg (nI_pos (by omega))]
        exact old (fun h => by rw [d] at h; cases h.2)
      | false =>
        rw [if_neg (show ¬ (false = true) by decide), if_pos (show (-1 : Int32) < 0 by decide)]
        obtain ⟨M, g1, g2⟩ := grown_eq hF hW hC hcm.1 c
        have hMe : M = cm v := CP_one g2 (hcm.2 v c)
        subst hMe
        have hM16 := CM_lt hW hcm c
        rw [g1, bS]
        simp only [jn]
        rw [z32]
        obtain ⟨ps1, p1, p2⟩ := pieces269_L hW hM16 (pc := nI (spl W cm v).2.2.1) (pc0 := ps) (kk := fun x => f_X12_findSorts_L227 F (nI (nd G)) made fm tm am so (nI W) kk m (nI (v + 1)) x (nI (spl W cm v).2.2.1 + 1)) (nd G) F 0 ps (by omega) (by omega) (fun u => by rw [if_neg (fun h => by omega)])
        rw [p1, nI_1]
        have e := spl_new c d
        obtain ⟨ps', h1, h2⟩ := ih m (v + 1) ps1 (by omega) (by omega) (by
          unfold PcI
          rw [e]
          intro u hu
          show ps1 u = if ((spl W cm v).1 ||| cm v).testBit u = true then nI (if (cm v).testBit u = true then (spl W cm v).2.2.1 else (spl W cm v).2.1 u) else -1
          rw [p2 u hu]
          by_cases f : (cm v).testBit u = true
          · rw [if_pos f, if_pos f, if_pos (by rw [Nat.testBit_or, f]; simp)]
          · rw [if_neg f, if_neg f, hp u hu, Nat.testBit_or]
            have : (cm v).testBit u = false := by cases x : (cm v).testBit u with | false => rfl | true => exact absurd x f
            rw [this, Bool.or_false])
        refine ⟨ps', ?_, h2⟩
        rw [← h1, e]
theorem parts335_L {F : Nat} (hF : 100000 ≤ F) {G : Gr} (hW : Wf G) {nodes made : Int32} {fm tm wm am : Nat → Int32} (hC : MG G nodes made fm tm wm am) {cm : Nat → Nat} (hcm : CM G (allN G) cm) {kk : (Nat → Int32) → Int32 → Int32 → Option S6} :
    ∀ (k m v : Nat) (half : Nat → Int32) (f : Int32), v + k = nd G → k < m → (Flg G (allN G) cm v → f = 1) → (¬ Flg G (allN G) cm v → f = 0) → ∃ half' f', f_X12_findSorts_L335 F (nI (nd G)) made fm tm am kk m (nI (spl (allN G) cm v).1) (nI v) half (nI (spl (allN G) cm v).2.2.1) f = kk half' (nI (spl (allN G) cm (nd G)).2.2.1) f' ∧ (Flg G (allN G) cm (nd G) → f' = 1) ∧ (¬ Flg G (allN G) cm (nd G) → f' = 0) := by
  have hn := hW.1
  have hnod := hC.1
  intro k
  induction k with
  | zero =>
    intro m v half f e1 hm hf1 hf2
    obtain ⟨m, rfl⟩ : ∃ k, m = k + 1 := ⟨m - 1, by omega⟩
    have e : nd G = v := by omega
    refine ⟨half, f, ?_, by rw [e]; exact hf1, by rw [e]; exact hf2⟩
    unfold f_X12_findSorts_L335
    rw [if_pos (by rw [nI_leI (by omega) (by omega)]; omega), e]
  | succ k ih =>
    intro m v half f e1 hm hf1 hf2
    obtain ⟨m, rfl⟩ : ∃ k, m = k + 1 := ⟨m - 1, by omega⟩
    have hlt := spl_lt hW hcm v
    have hav : (allN G).testBit v = true := by rw [allN_bit]; exact decide_eq_true (by omega)
    unfold f_X12_findSorts_L335
    rw [if_neg (fun h => by rw [nI_leI (by omega) (by omega)] at h; omega), bitv_nI (by omega) (by omega), nI_1, nI_1]
    cases d : (spl (allN G) cm v).1.testBit v with
    | true =>
      rw [if_pos rfl, if_neg (by decide)]
      have c : ¬ ((allN G).testBit v = true ∧ (spl (allN G) cm v).1.testBit v = false) := fun h => by rw [d] at h; cases h.2
      have e := spl_old c
      have hFo := Flg_old (G := G) c
      obtain ⟨half2, f2, q1, q2, q3⟩ := ih m (v + 1) half f (by omega) (by omega) (fun h => hf1 (hFo.mp h)) (fun h => hf2 (fun h' => h (hFo.mpr h')))
      refine ⟨half2, f2, ?_, q2, q3⟩
      rw [← q1, e]
    | false =>
      rw [if_neg (show ¬ (false = true) by decide), if_pos (show (0 : Int32) = 0 from rfl), mall_eq hW]
      obtain ⟨M, g1, g2⟩ := grown_eq hF hW hC hcm.1 hav
      have hMe : M = cm v := CP_one g2 (hcm.2 v hav)
      subst hMe
      obtain ⟨f1, half1, h1, h2, h3⟩ := findHalves_eq hF hW hC (a := v) (by omega) f half
      rw [hnod] at h1
      rw [g1, bS, h1, b2S, nI_or]
      have c : (allN G).testBit v = true ∧ (spl (allN G) cm v).1.testBit v = false := ⟨hav, d⟩
      have e := spl_new hav d
      have hFn := Flg_new (G := G) c
      obtain ⟨half2, f2, q1, q2, q3⟩ := ih m (v + 1) half1 f1 (by omega) (by omega) (fun h => by
        obtain ⟨x1, x2⟩ := hFn.mp h
        rw [h2 x2]; exact hf1 x1) (fun h => by
        by_cases hc : ∃ col, Vld G (allN G) v col
        · rw [h2 hc]
          exact hf2 (fun x => h (hFn.mpr ⟨x, hc⟩))
        · exact h3 hc)
      refine ⟨half2, f2, ?_, q2, q3⟩
      rw [← q1, e]
theorem mfindSorts_eq {F : Nat} (hF : 100000 ≤ F) {G : Gr} (hW : Wf G) {nodes made : Int32} {fm tm wm am : Nat → Int32} (hC : MG G nodes made fm tm wm am) {most : Nat → Int32} (hm : ∀ t, t ≤ allN G → Mb G 0 t (most t)) {c L B : Nat} (hB : BL G (Mt G (allN G)) (allN G) c L) (hS : Bes G L B) {cm cn : Nat → Nat} (hcm : CM G (dif (allN G) B) cm) (hcn : CM G (allN G) cn) (so ps half : Nat → Int32) :
    ∃ f so' ps' half', f_X12_findSorts F nodes made fm tm am most so ps half = some (nI (spl (dif (allN G) B) cm (nd G)).2.2.1, nI (spl (allN G) cn (nd G)).2.2.1, f, so', ps', half') ∧ (∀ v, v < nd G → so' v = srt L B v) ∧ PcI G (dif (allN G) B) cm (nd G) ps' ∧ (Flg G (allN G) cn (nd G) → f = 1) ∧ (¬ Flg G (allN G) cn (nd G) → f = 0) := by
  have hn := hW.1
  have hm60 := hW.2.1
  have hnod := hC.1
  subst hnod
  unfold f_X12_findSorts
  simp only [jn]
  rw [z32]
  obtain ⟨so1, a1, a2⟩ := sorts7_L hW hB hm (kk := fun x => f_X12_findSorts_L61 made fm tm am (fun x => f_X12_findSorts_L177 (nI (nd G)) x (fun y z => f_X12_findSorts_L227 F (nI (nd G)) made fm tm am x y (fun p q => f_X12_findSorts_L335 F (nI (nd G)) made fm tm am (fun h a b => some (q, a, b, x, p, h)) F (nI 0) (nI 0) half (nI 0) 1) F (nI 0) z (nI 0)) F (f_X12_all (nI (nd G))) (nI 0) ps) F (nI 0) x) (nd G) F 0 so (by omega) (by omega) (fun w hw => by omega)
  rw [a1]
  have hSI : SI G L 0 so1 := by
    intro v hv
    rw [a2 v hv]
    refine ⟨fun h => by rw [if_pos h], fun _ ⟨i, h, _⟩ => by omega, fun h _ => by rw [h, if_neg (by decide)]⟩
  obtain ⟨so2, b1, b2⟩ := sorts61_L hW hC (L := L) (kk := fun x => f_X12_findSorts_L177 (nI (nd G)) x (fun y z => f_X12_findSorts_L227 F (nI (nd G)) made fm tm am x y (fun p q => f_X12_findSorts_L335 F (nI (nd G)) made fm tm am (fun h a b => some (q, a, b, x, p, h)) F (nI 0) (nI 0) half (nI 0) 1) F (nI 0) z (nI 0)) F (f_X12_all (nI (nd G))) (nI 0) ps) (md G) F 0 so1 (by omega) (by omega) hSI
  rw [b1, mall_eq hW]
  have hsrt := SI_srt hW hS b2
  have hBL : ∀ v, B.testBit v = true → L.testBit v = false := fun v h => ((hS v).mp h).2.1
  have hs1 : ∀ v, v < nd G → (so2 v = 1 ↔ B.testBit v = true) := fun v hv => by rw [hsrt v hv]; exact srt1 (hBL v)
  obtain ⟨ps1, c1, c2⟩ := within_L hW hs1 (kk := fun y z => f_X12_findSorts_L227 F (nI (nd G)) made fm tm am so2 y (fun p q => f_X12_findSorts_L335 F (nI (nd G)) made fm tm am (fun h a b => some (q, a, b, so2, p, h)) F (nI 0) (nI 0) half (nI 0) 1) F (nI 0) z (nI 0)) (nd G) F 0 (allN G) ps (by omega) (by omega) (fun w => by
    rw [allN_bit, decide_eq_true_eq]
    exact ⟨fun h => ⟨h, fun h2 => by omega⟩, fun h => h.1⟩) (fun w hw => by omega)
  rw [c1]
  have hs2 : ∀ v, v < nd G → (so2 v = 1 ↔ (dif (allN G) B).testBit v = false) := fun v hv => by
    rw [hs1 v hv, dif_bit, allN_bit, decide_eq_true hv]
    cases B.testBit v <;> simp
  obtain ⟨ps2, d1, d2⟩ := pieces227_L hF hW hC hcm hs2 (kk := fun p q => f_X12_findSorts_L335 F (nI (nd G)) made fm tm am (fun h a b => some (q, a, b, so2, p, h)) F (nI 0) (nI 0) half (nI 0) 1) (nd G) F 0 ps1 (by omega) (by omega) (fun u hu => by
    rw [c2 u hu]
    unfold spl
    rw [Nat.zero_testBit, if_neg (by decide)])
  have d1' : f_X12_findSorts_L227 F (nI (nd G)) made fm tm am so2 (nI (dif (allN G) B)) (fun p q => f_X12_findSorts_L335 F (nI (nd G)) made fm tm am (fun h a b => some (q, a, b, so2, p, h)) F (nI 0) (nI 0) half (nI 0) 1) F (nI 0) ps1 (nI 0) = _ := d1
  rw [d1']
  obtain ⟨half2, f2, q1, q2, q3⟩ := parts335_L hF hW hC hcn (kk := fun h a b => some (nI (spl (dif (allN G) B) cm (nd G)).2.2.1, a, b, so2, ps2, h)) (nd G) F 0 half 1 (by omega) (by omega) (fun _ => rfl) (fun h => absurd (fun v hv => by omega) h)
  exact ⟨f2, so2, ps2, half2, q1, hsrt, d2, q2, q3⟩
