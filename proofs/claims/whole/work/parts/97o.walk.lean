/-! ===== the reference's search: the walk over nodes and what was tried ===== -/
theorem l44_s (F : Nat) (m_nodes : Int32) (m_ranks : Nat → Int32) (m_openArc_1 : Nat → Int32) (kk_219_13 : (Nat → Int32) → (Nat → Int32) → Int32 → Int64 → Option (Int32 × Int64 × (Nat → Int32) × (Nat → Int32) × (Nat → Int32))) (n : Nat) (v1_15 : Int32) (m_tried_16 m_with_17 : Nat → Int32) (m_stables_18 : Int32) (m_firstSet_19 : Int64) : f_X12_findStables_L44 F m_nodes m_ranks m_openArc_1 kk_219_13 (n + 1) v1_15 m_tried_16 m_with_17 m_stables_18 m_firstSet_19 = (if v1_15 < 0 then (kk_219_13 m_with_17 m_tried_16 m_stables_18 m_firstSet_19) else (if v1_15 = m_nodes then bd2 (f_X12_judge F m_nodes m_ranks m_openArc_1 m_with_17 m_stables_18 m_firstSet_19) (fun m_stables_54 m_firstSet_55 => (f_X12_back F v1_15 m_with_17).bind (fun r_57 => (f_X12_findStables_L44 F m_nodes m_ranks m_openArc_1 kk_219_13 n r_57 m_tried_16 m_with_17 m_stables_54 m_firstSet_55))) else rd 16 m_with_17 v1_15 (fun y_22 => (jn (fun (m_with_23 : Nat → Int32) => rd 17 m_tried_16 v1_15 (fun y_25 => (if 0 ≤ y_25 then rd 17 m_tried_16 v1_15 (fun y_27 => (jn (fun (v2_28 : Int32) => (if m_nodes ≤ v2_28 then (f_X12_back F v1_15 m_with_23).bind (fun r_30 => (f_X12_findStables_L44 F m_nodes m_ranks m_openArc_1 kk_219_13 n r_30 m_tried_16 m_with_23 m_stables_18 m_firstSet_19)) else wr 17 m_tried_16 v1_15 v2_28 (fun m_tried_32 => wr 16 m_with_23 v1_15 v2_28 (fun m_with_33 => wr 16 m_with_33 v2_28 v1_15 (fun m_with_34 => bd2 (f_X12_onward F (v1_15 + 1) m_nodes m_with_34 m_tried_32) (fun r_35 m_tried_36 => (f_X12_findStables_L44 F m_nodes m_ranks m_openArc_1 kk_219_13 n r_35 m_tried_36 m_with_34 m_stables_18 m_firstSet_19))))))) (fun kk_170_37 => (f_X12_findStables_L133 m_nodes m_openArc_1 v1_15 m_with_23 kk_170_37 F (y_27 + 1))))) else wr 17 m_tried_16 v1_15 v1_15 (fun m_tried_46 => bd2 (f_X12_onward F (v1_15 + 1) m_nodes m_with_23 m_tried_46) (fun r_47 m_tried_48 => (f_X12_findStables_L44 F m_nodes m_ranks m_openArc_1 kk_219_13 n r_47 m_tried_48 m_with_23 m_stables_18 m_firstSet_19)))))) (fun jj_97_23 => (if y_22 < 0 then (jj_97_23 m_with_17) else rd 16 m_with_17 v1_15 (fun y_51 => wr 16 m_with_17 y_51 (-1) (fun m_with_52 => wr 16 m_with_52 v1_15 (-1) (fun m_with_53 => (jj_97_23 m_with_53)))))))))) := rfl
def cI : Nat → Nat
  | 0 => 1
  | 1 => 14
  | n + 2 => 13 + cI (n + 1) + 11 * cI n
def dI (n : Nat) : Nat := if n < 2 then 0 else cI (n - 2)
theorem cI_ge {n : Nat} (h : 1 ≤ n) : cI n = 13 + cI (n - 1) + 11 * dI n := by
  cases n with
  | zero => omega
  | succ n =>
    cases n with
    | zero => rfl
    | succ n => rfl
def fu (G : Gr) (S : Nat) : Nat := if dif (allN G) S = 0 then nd G else low 16 (dif (allN G) S)
theorem fu_spec {G : Gr} (hW : Wf G) (S : Nat) : fu G S ≤ nd G ∧ (∀ i, i < fu G S → S.testBit i = true) ∧ (fu G S < nd G → S.testBit (fu G S) = false ∧ (dif (allN G) S).testBit (fu G S) = true ∧ dif (allN G) S ≠ 0 ∧ fu G S = low 16 (dif (allN G) S)) ∧ (fu G S = nd G → dif (allN G) S = 0) := by
  unfold fu
  by_cases c : dif (allN G) S = 0
  · rw [if_pos c]
    exact ⟨Nat.le_refl _, fun i hi => dif0 c (by rw [allN_bit]; exact decide_eq_true hi), fun h => by omega, fun _ => c⟩
  · rw [if_neg c]
    obtain ⟨l1, l2, l3, l4⟩ := low_un hW c
    exact ⟨by omega, l4, fun _ => ⟨l3, l2, c, rfl⟩, fun h => by omega⟩
theorem fu_uniq {G : Gr} (hW : Wf G) {S x : Nat} (hx : x < nd G) (h1 : S.testBit x = false) (h2 : ∀ i, i < x → S.testBit i = true) : fu G S = x := by
  obtain ⟨f1, f2, f3, f4⟩ := fu_spec hW S
  rcases Nat.lt_trichotomy (fu G S) x with c | c | c
  · obtain ⟨g1, -⟩ := f3 (by omega)
    rw [h2 _ c] at g1; cases g1
  · exact c
  · rw [f2 x c] at h1; cases h1
/-- what stands in the arrays while the first x nodes are settled -/
def InvR (G : Gr) (rk : Nat → Nat → Int32) (ar : Nat → Nat → Nat) (S : Nat) (p : Nat → Nat) (X : Nat) (wt : Nat → Int32) : Prop := (∀ v, S.testBit v = true → v < nd G) ∧ (∀ v, S.testBit v = true → p v ≠ v → S.testBit (p v) = true ∧ opB G rk v (p v) = true) ∧ (X < 2 ^ 60 ∧ ∀ i, i < 60 → (inX X i = true ↔ ∃ v, S.testBit v = true ∧ v < p v ∧ i = ar v (p v))) ∧ WiO G S p wt ∧ ∀ v, S.testBit v = true → fu G S < v → p v < fu G S
theorem onward_L {G : Gr} (hW : Wf G) {S : Nat} {p : Nat → Nat} {wt : Nat → Int32} (hw : WiO G S p wt) {x : Nat} (hsk : ∀ w, S.testBit w = true → x < w → p w < w) {kk : Int32 → Option (Int32 × (Nat → Int32))} :
    ∀ (c m v : Nat), v + c = nd G → x < v → v ≤ fu G S → c < m → f_X12_onward_L2 (nI (nd G)) wt kk m (nI v) = kk (nI (fu G S)) := by
  have hn := hW.1
  obtain ⟨f1, f2, f3, f4⟩ := fu_spec hW S
  intro c
  induction c with
  | zero =>
    intro m v e1 hxv hvf hm
    obtain ⟨m, rfl⟩ : ∃ k, m = k + 1 := ⟨m - 1, by omega⟩
    unfold f_X12_onward_L2
    rw [if_pos (by rw [nI_leI (by omega) (by omega)]; omega), show v = fu G S by omega]
  | succ c ih =>
    intro m v e1 hxv hvf hm
    obtain ⟨m, rfl⟩ : ∃ k, m = k + 1 := ⟨m - 1, by omega⟩
    unfold f_X12_onward_L2
    rw [if_neg (fun h => by rw [nI_leI (by omega) (by omega)] at h; omega)]
    by_cases d : v = fu G S
    · obtain ⟨g1, -⟩ := f3 (by omega)
      have hwv : wt v = -1 := by rw [hw v (by omega), if_neg (fun x => by rw [d, g1] at x; cases x.1)]
      rw [rd_nI (by omega) (by decide), hwv, if_pos (by decide), d]
    · have hs := f2 v (by omega)
      have hlt := hsk v hs hxv
      have hwv : wt v = nI (p v) := by rw [hw v (by omega), if_pos ⟨hs, by omega⟩]
      rw [rd_nI (by omega) (by decide), hwv, if_neg (nI_pos (by omega)), rd_nI (by omega) (by decide), hwv, if_neg (fun h => by rw [nI_leI (by omega) (by omega)] at h; omega), nI_1]
      exact ih m (v + 1) (by omega) (by omega) (by omega) (by omega)
theorem onward_eq {F : Nat} (hF : 100000 ≤ F) {G : Gr} (hW : Wf G) {S : Nat} {p : Nat → Nat} {wt : Nat → Int32} (hw : WiO G S p wt) {x : Nat} (hx : x < nd G) (hxf : x < fu G S) (hsk : ∀ w, S.testBit w = true → x < w → p w < w) (tr : Nat → Int32) : ∃ tr', f_X12_onward F (nI (x + 1)) (nI (nd G)) wt tr = some (nI (fu G S), tr') ∧ (fu G S < nd G → tr' (fu G S) = -1) ∧ ∀ w, w ≠ fu G S → tr' w = tr w := by
  have hn := hW.1
  obtain ⟨f1, f2, f3, f4⟩ := fu_spec hW S
  unfold f_X12_onward
  simp only [jn]
  rw [onward_L hW hw hsk (nd G - (x + 1)) F (x + 1) (by omega) (by omega) (by omega) (by omega)]
  by_cases c : nd G ≤ fu G S
  · rw [if_pos ((nI_leI (by omega) (by omega)).mpr c)]
    exact ⟨tr, rfl, fun h => by omega, fun _ _ => rfl⟩
  · rw [if_neg (fun h => c ((nI_leI (by omega) (by omega)).mp h)), wr_nI (by omega) (by decide)]
    exact ⟨_, rfl, fun _ => up_s _ _ _, fun w hw => up_n hw⟩
theorem back_L {G : Gr} (hW : Wf G) {S : Nat} {p : Nat → Nat} {wt : Nat → Int32} (hw : WiO G S p wt) {x : Nat} (hx : x < nd G) (hsk : ∀ w, S.testBit w = true → x < w → p w < w) (hpx : x ≤ p x) (hpn : p x < nd G) {kk : Int32 → Option Int32} :
    ∀ (c m : Nat), x + c < fu G S → c < m → f_X12_back_L4 wt kk m (nI (x + c)) = kk (nI x) := by
  have hn := hW.1
  obtain ⟨f1, f2, f3, f4⟩ := fu_spec hW S
  intro c
  induction c with
  | zero =>
    intro m hc hm
    obtain ⟨m, rfl⟩ : ∃ k, m = k + 1 := ⟨m - 1, by omega⟩
    unfold f_X12_back_L4
    rw [Nat.add_zero, if_neg (nI_pos (by omega))]
    by_cases d : p x = x
    · have hwv : wt x = -1 := by rw [hw x (by omega), if_neg (fun y => y.2 d)]
      rw [rd_nI (by omega) (by decide), hwv, if_pos (by decide)]
    · have hwv : wt x = nI (p x) := by rw [hw x (by omega), if_pos ⟨f2 x (by omega), d⟩]
      rw [rd_nI (by omega) (by decide), hwv, if_neg (nI_pos (by omega)), rd_nI (by omega) (by decide), hwv, if_pos ((nI_leI (by omega) (by omega)).mpr hpx)]
  | succ c ih =>
    intro m hc hm
    obtain ⟨m, rfl⟩ : ∃ k, m = k + 1 := ⟨m - 1, by omega⟩
    have hs := f2 (x + (c + 1)) hc
    have hlt := hsk _ hs (by omega)
    have hwv : wt (x + (c + 1)) = nI (p (x + (c + 1))) := by rw [hw _ (by omega), if_pos ⟨hs, by omega⟩]
    unfold f_X12_back_L4
    rw [if_neg (nI_pos (by omega)), rd_nI (by omega) (by decide), hwv, if_neg (nI_pos (by omega)), rd_nI (by omega) (by decide), hwv, if_neg (fun h => by rw [nI_leI (by omega) (by omega)] at h; omega), ← Int32.sub_eq_add_neg, show x + (c + 1) = (x + c) + 1 by omega, nI_pred]
    exact ih m (by omega) (by omega)
theorem back_eq {F : Nat} (hF : 100000 ≤ F) {G : Gr} (hW : Wf G) {S : Nat} {p : Nat → Nat} {wt : Nat → Int32} (hw : WiO G S p wt) {x : Nat} (hx : x < nd G) (hxf : x < fu G S) (hsk : ∀ w, S.testBit w = true → x < w → p w < w) (hpx : x ≤ p x) (hpn : p x < nd G) : f_X12_back F (nI (fu G S)) wt = some (nI x) := by
  have hn := hW.1
  obtain ⟨f1, -, -, -⟩ := fu_spec hW S
  unfold f_X12_back
  simp only [jn]
  obtain ⟨c, hc⟩ : ∃ c, fu G S = (x + c) + 1 := ⟨fu G S - x - 1, by omega⟩
  rw [hc, nI_pred]
  exact back_L hW hw hx hsk hpx hpn (kk := fun v => some v) c F (by omega) (by omega)
theorem next_L {G : Gr} (hW : Wf G) {rk : Nat → Nat → Int32} {ar : Nat → Nat → Nat} (har : ArOK G ar) {oa : Nat → Int32} (hoa : OAO G rk ar oa) {S : Nat} {p : Nat → Nat} {wt : Nat → Int32} (hw : WiO G S p wt) {x : Nat} (hx : x < nd G) (hsk : ∀ w, S.testBit w = true → x < w → p w < w) {kk : Int32 → Option (Int32 × Int64 × (Nat → Int32) × (Nat → Int32) × (Nat → Int32))} :
    ∀ (c m u : Nat), u + c = nd G → x < u → c < m → ∃ w, f_X12_findStables_L133 (nI (nd G)) oa (nI x) wt kk m (nI u) = kk (nI w) ∧ u ≤ w ∧ w ≤ nd G ∧ (∀ y, u ≤ y → y < w → ¬ (S.testBit y = false ∧ opB G rk x y = true)) ∧ (w < nd G → S.testBit w = false ∧ opB G rk x w = true) := by
  have hn := hW.1
  have hm60 := hW.2.1
  intro c
  induction c with
  | zero =>
    intro m u e1 hxu hm
    obtain ⟨m, rfl⟩ : ∃ k, m = k + 1 := ⟨m - 1, by omega⟩
    refine ⟨u, ?_, Nat.le_refl _, by omega, fun y h1 h2 => by omega, fun h => by omega⟩
    unfold f_X12_findStables_L133
    rw [if_pos (by rw [nI_leI (by omega) (by omega)]; omega)]
  | succ c ih =>
    intro m u e1 hxu hm
    obtain ⟨m, rfl⟩ : ∃ k, m = k + 1 := ⟨m - 1, by omega⟩
    have skip : ¬ (S.testBit u = false ∧ opB G rk x u = true) → ∃ w, f_X12_findStables_L133 (nI (nd G)) oa (nI x) wt kk m (nI (u + 1)) = kk (nI w) ∧ u ≤ w ∧ w ≤ nd G ∧ (∀ y, u ≤ y → y < w → ¬ (S.testBit y = false ∧ opB G rk x y = true)) ∧ (w < nd G → S.testBit w = false ∧ opB G rk x w = true) := by
      intro q
      obtain ⟨w, w1, w2, w3, w4, w5⟩ := ih m (u + 1) (by omega) (by omega) (by omega)
      refine ⟨w, w1, by omega, w3, fun y h1 h2 => ?_, w5⟩
      by_cases d : y = u
      · subst d; exact q
      · exact w4 y (by omega) h2
    unfold f_X12_findStables_L133
    rw [if_neg (fun h => by rw [nI_leI (by omega) (by omega)] at h; omega), nI_1]
    cases c1 : S.testBit u with
    | true =>
      have hlt := hsk u c1 hxu
      have hwv : wt u = nI (p u) := by rw [hw u (by omega), if_pos ⟨c1, by omega⟩]
      rw [rd_nI (by omega) (by decide), hwv, if_pos (nI_pos' (by omega))]
      exact skip (fun q => by rw [c1] at q; cases q.1)
    | false =>
      have hwv : wt u = -1 := by rw [hw u (by omega), if_neg (fun y => by rw [c1] at y; cases y.1)]
      rw [rd_nI (by omega) (by decide), hwv, if_neg (by decide), cell2_nI, rd_nI (by omega) (by decide)]
      by_cases c2 : opB G rk x u = true
      · have hr := (har x u (opB_iff.mp c2).1).1
        have ho : oa (x * 16 + u) = nI (ar x u) := by rw [hoa x u (by omega) (by omega), if_pos c2]
        rw [ho, if_pos (nI_pos' (by omega))]
        exact ⟨u, rfl, Nat.le_refl _, by omega, fun y h1 h2 => by omega, fun _ => ⟨c1, c2⟩⟩
      · have ho : oa (x * 16 + u) = -1 := by rw [hoa x u (by omega) (by omega), if_neg c2]
        rw [ho, if_neg (by decide)]
        exact skip (fun q => c2 q.2)
theorem RnU_skip {R : Nat → (Nat → Nat) → Nat → Nat × Nat → Nat × Nat} {op : Nat → Nat → Bool} {ar : Nat → Nat → Nat} {S x : Nat} {p : Nat → Nat} {X c : Nat} : ∀ (d u : Nat) (s : Nat × Nat), (∀ y, u ≤ y → y < u + d → ¬ (S.testBit y = false ∧ op x y = true)) → RnU R op ar S x p X (d + c) u s = RnU R op ar S x p X c (u + d) s := by
  intro d
  induction d with
  | zero => intro u s _; rw [Nat.zero_add]; rfl
  | succ d ih =>
    intro u s h
    rw [show d + 1 + c = (d + c) + 1 by omega, RnU_s, if_neg (h u (Nat.le_refl _) (by omega)), ih (u + 1) s (fun y h1 h2 => h y (by omega) (by omega)), show u + 1 + d = u + (d + 1) by omega]
