section
/-- known and hasJoin fall to 0 where the graph changes -/
def fl (f : Bool) (x : Int32) : Int32 := if f = true then 0 else x
theorem up_or {α : Type} {f : Nat → α} {k j : Nat} {x : α} (h : j ≠ k → f j = x) : va_up f k x j = x := by
  by_cases c : j = k
  · rw [c, up_s]
  · rw [up_n c, h c]
theorem mnode_L {n : Nat} (hn : n < 16) {rk : Nat → Nat → Int32} {kk : (Nat → Int32) → Option (Int32 × Int32 × Int32 × Int32 × (Nat → Int32))} : ∀ (k m i : Nat) (mr : Nat → Int32), i + k = 16 → k < m → (∀ v u, v < n → u < n → mr (v * 16 + u) = rk v u) → (∀ w, w < i → mr (n * 16 + w) = -1 ∧ mr (w * 16 + n) = -1) → ∃ mr', f_X12_node_L14 (nI n) kk m (nI i) mr = kk mr' ∧ (∀ v u, v < n → u < n → mr' (v * 16 + u) = rk v u) ∧ ∀ w, w < 16 → mr' (n * 16 + w) = -1 ∧ mr' (w * 16 + n) = -1 := by
  intro k
  induction k with
  | zero =>
    intro m i mr hi hm0 h1 h2
    obtain ⟨m, rfl⟩ : ∃ q, m = q + 1 := ⟨m - 1, by omega⟩
    have e : i = 16 := by omega
    subst e
    refine ⟨mr, ?_, h1, h2⟩
    show (if (16 : Int32) ≤ nI 16 then kk mr else _) = _
    rw [if_pos (by decide)]
  | succ k ih =>
    intro m i mr hi hm0 h1 h2
    obtain ⟨m, rfl⟩ : ∃ q, m = q + 1 := ⟨m - 1, by omega⟩
    show ∃ mr', (if (16 : Int32) ≤ nI i then kk mr else wr 256 mr ((16 * nI n) + nI i) (-1) (fun m_ranks_15 => wr 256 m_ranks_15 ((16 * nI i) + nI n) (-1) (fun m_ranks_16 => (f_X12_node_L14 (nI n) kk m (nI i + 1) m_ranks_16)))) = kk mr' ∧ _
    rw [if_neg (show ¬ (16 : Int32) ≤ nI i from fun e => by rw [show (16 : Int32) = nI 16 from rfl, nI_leI (by decide) (by omega)] at e; omega), nI_16, nI_16, wr_nI (by omega) (by decide), wr_nI (by omega) (by decide), nI_1 i]
    refine ih m (i + 1) _ (by omega) (by omega) (fun v u hv hu => ?_) (fun w hw => ⟨?_, ?_⟩)
    · rw [up_n (by omega), up_n (by omega)]; exact h1 v u hv hu
    · exact up_or (fun _ => up_or (fun e => (h2 w (by omega)).1))
    · exact up_or (fun e => up_or (fun _ => (h2 w (by omega)).2))
theorem mnode_eq {F : Nat} (hF : 100000 ≤ F) {G : Gr} (hW : Wf G) {rk : Nat → Nat → Int32} (hr : ∀ v u, nd G ≤ v ∨ nd G ≤ u → rk v u = -1) {nodes made : Int32} {fm tm wm am mr : Nat → Int32} (hM : MG G nodes made fm tm wm am) (hk : RkO G rk mr) (kn hj : Int32) : ∃ nodes' mr', f_X12_node F nodes mr kn hj = some ((stNode G).1, nodes', fl (stNode G).2.1 kn, fl (stNode G).2.1 hj, mr') ∧ MG (stNode G).2.2 nodes' made fm tm wm am ∧ RkO (stNode G).2.2 rk mr' := by
  obtain ⟨hn, hm, hA⟩ := id hW
  obtain ⟨rfl, rfl, hM3⟩ := id hM
  unfold f_X12_node stNode
  by_cases c : nd G = 16
  · rw [if_pos c, if_pos (show nI (nd G) = 16 by rw [c]; rfl)]
    exact ⟨_, _, rfl, hM, hk⟩
  rw [if_neg c, if_neg (show ¬ nI (nd G) = 16 from fun e => c ((nI_eq (b := 16) (by omega) (by decide)).mp e))]
  obtain ⟨mr', e1, e2, e3⟩ := mnode_L (n := nd G) (by omega) (rk := rk) (kk := fun m_ranks_2 => bd2 (f_X12_change) (fun m_known_3 m_hasJoin_4 => some (((nI (nd G) + 1) - 1), (nI (nd G) + 1), m_known_3, m_hasJoin_4, m_ranks_2))) 16 F 0 mr (by omega) (by omega) hk (fun w hw => absurd hw (Nat.not_lt_zero w))
  have e4 : nI (nd G) + 1 - 1 = nI (nd G) := by rw [nI_1, nI_pred]
  refine ⟨nI (nd G) + 1, mr', ?_, ⟨nI_1 _, rfl, hM3⟩, ?_⟩
  · refine Eq.trans e1 ?_
    show some (nI (nd G) + 1 - 1, _) = _
    rw [e4]
    rfl
  · intro v u hv hu
    have hv' : v < nd G + 1 := hv
    have hu' : u < nd G + 1 := hu
    by_cases d : v = nd G
    · rw [hr v u (Or.inl (by omega)), d]; exact (e3 u (by omega)).1
    · by_cases d2 : u = nd G
      · rw [hr v u (Or.inr (by omega)), d2]; exact (e3 v (by omega)).2
      · exact e2 v u (by omega) (by omega)
theorem marc_eq {G : Gr} (hW : Wf G) {nodes made : Int32} {fm tm wm am : Nat → Int32} (hM : MG G nodes made fm tm wm am) (kn hj : Int32) (p1 p2 p3 : Int32) : ∃ made' fm' tm' wm' am', f_X12_arc p1 p2 p3 nodes made fm tm wm am kn hj = some ((stArc G p1 p2 p3).1, made', fl (stArc G p1 p2 p3).2.1 kn, fl (stArc G p1 p2 p3).2.1 hj, fm', tm', wm', am') ∧ MG (stArc G p1 p2 p3).2.2 nodes made' fm' tm' wm' am' := by
  obtain ⟨hn, hm, hA⟩ := id hW
  obtain ⟨rfl, rfl, hC3⟩ := id hM
  show ∃ made' fm' tm' wm' am', (if (f_X2_isNode p1 (nI (nd G))) = 0 then some ((-1), nI (md G), kn, hj, fm, tm, wm, am) else (if (f_X2_isNode p2 (nI (nd G))) = 0 then some ((-1), nI (md G), kn, hj, fm, tm, wm, am) else (if p1 = p2 then some ((-2), nI (md G), kn, hj, fm, tm, wm, am) else (if p3 < 0 then some ((-2), nI (md G), kn, hj, fm, tm, wm, am) else (if p3 ≤ 1000 then (if nI (md G) = 60 then some ((-4), nI (md G), kn, hj, fm, tm, wm, am) else wr 60 fm (nI (md G)) p1 (fun m_from_35 => wr 60 tm (nI (md G)) p2 (fun m_to_36 => wr 60 wm (nI (md G)) p3 (fun m_weighs_37 => wr 60 am (nI (md G)) 1 (fun m_alive_38 => some (((nI (md G) + 1) - 1), (nI (md G) + 1), 0, 0, m_from_35, m_to_36, m_weighs_37, m_alive_38)))))) else some ((-2), nI (md G), kn, hj, fm, tm, wm, am)))))) = _ ∧ _
  unfold stArc
  by_cases c1 : f_X2_isNode p1 (nI (nd G)) = 0
  · rw [if_pos c1, if_pos c1]; exact ⟨_, _, _, _, _, rfl, hM⟩
  rw [if_neg c1, if_neg c1]
  by_cases c2 : f_X2_isNode p2 (nI (nd G)) = 0
  · rw [if_pos c2, if_pos c2]; exact ⟨_, _, _, _, _, rfl, hM⟩
  rw [if_neg c2, if_neg c2]
  by_cases c3 : p1 = p2
  · rw [if_pos c3, if_pos c3]; exact ⟨_, _, _, _, _, rfl, hM⟩
  rw [if_neg c3, if_neg c3]
  by_cases c4 : p3 < 0
  · rw [if_pos c4, if_pos c4]; exact ⟨_, _, _, _, _, rfl, hM⟩
  rw [if_neg c4, if_neg c4]
  by_cases c5 : p3 ≤ 1000
  rotate_left
  · rw [if_neg c5, if_neg c5]; exact ⟨_, _, _, _, _, rfl, hM⟩
  rw [if_pos c5, if_pos c5]
  by_cases c6 : md G = 60
  · rw [if_pos c6, if_pos (show nI (md G) = 60 by rw [c6]; rfl)]; exact ⟨_, _, _, _, _, rfl, hM⟩
  rw [if_neg c6, if_neg (show ¬ nI (md G) = 60 from fun e => c6 ((nI_eq (b := 60) (by omega) (by decide)).mp e))]
  obtain ⟨v, hv1, rfl⟩ := node_of hn c1
  obtain ⟨u, hu1, rfl⟩ := node_of hn c2
  obtain ⟨w, hw0, rfl⟩ := nI_of c4
  have hw : w ≤ 1000 := by
    rw [show (1000 : Int32) = nI 1000 from rfl, nI_leI (by omega) (by decide)] at c5
    exact c5
  rw [nI_clamp (n := v) (by omega), nI_clamp (n := u) (by omega), nI_clamp (n := w) (by omega)]
  rw [wr_nI (by omega) (by decide), wr_nI (by omega) (by decide), wr_nI (by omega) (by decide), wr_nI (by omega) (by decide), show nI (md G) + 1 - 1 = nI (md G) by rw [nI_1, nI_pred]]
  exact ⟨nI (md G) + 1, va_up fm (md G) (nI v), va_up tm (md G) (nI u), va_up wm (md G) (nI w), va_up am (md G) 1, rfl, ⟨rfl, nI_1 (md G), arcG_cell hC3⟩⟩
theorem mcut_L {G : Gr} (hm : md G ≤ 60) {am : Nat → Int32} (h : ∀ i, i < md G → am i = if al G i = true then 1 else 0) {kk : Int32 → Option (Int32 × Int32 × Int32 × (Nat → Int32))} : ∀ (k m i : Nat), i + k = md G → k < m → f_X12_cut_L38 (nI (md G)) am kk m (nI (lvC G i)) (nI i) = kk (nI (lvC G (md G))) := by
  intro k
  induction k with
  | zero =>
    intro m i hi hm0
    obtain ⟨m, rfl⟩ : ∃ q, m = q + 1 := ⟨m - 1, by omega⟩
    have e : i = md G := by omega
    subst e
    show (if nI (md G) ≤ nI (md G) then kk (nI (lvC G (md G))) else _) = _
    rw [if_pos (nI_le (Nat.le_refl _) (by omega))]
  | succ k ih =>
    intro m i hi hm0
    obtain ⟨m, rfl⟩ : ∃ q, m = q + 1 := ⟨m - 1, by omega⟩
    have hil : i < md G := by omega
    show (if nI (md G) ≤ nI i then kk (nI (lvC G i)) else rd 60 am (nI i) (fun y_26 => (if y_26 = 0 then (f_X12_cut_L38 (nI (md G)) am kk m (nI (lvC G i) + 0) (nI i + 1)) else (f_X12_cut_L38 (nI (md G)) am kk m (nI (lvC G i) + 1) (nI i + 1))))) = _
    rw [if_neg (nI_ge hil (by omega)), rd_nI (by omega) (by decide), h i hil, nI_1 i, nI_1 (lvC G i), Int32.add_zero]
    by_cases c : al G i = true
    · rw [if_pos c, if_neg (by decide), show lvC G i + 1 = lvC G (i + 1) by rw [lvC_s, if_pos c]]
      exact ih m (i + 1) (by omega) (by omega)
    · rw [if_neg c, if_pos rfl, show nI (lvC G i) = nI (lvC G (i + 1)) by rw [lvC_s, if_neg c]; rfl]
      exact ih m (i + 1) (by omega) (by omega)
theorem mcut_eq {F : Nat} (hF : 100000 ≤ F) {G : Gr} (hW : Wf G) {nodes made : Int32} {fm tm wm am : Nat → Int32} (hM : MG G nodes made fm tm wm am) (kn hj : Int32) (p : Int32) : ∃ am', f_X12_cut F p made am kn hj = some ((stCut G p).1, fl (stCut G p).2.1 kn, fl (stCut G p).2.1 hj, am') ∧ MG (stCut G p).2.2 nodes made fm tm wm am' := by
  obtain ⟨hn, hm, hA⟩ := id hW
  obtain ⟨rfl, rfl, hC3⟩ := id hM
  unfold f_X12_cut stCut
  by_cases c1 : p < 0
  · rw [if_pos c1, if_pos c1]; exact ⟨_, rfl, hM⟩
  rw [if_neg c1, if_neg c1]
  by_cases c2 : nI (md G) ≤ p
  · rw [if_pos c2, if_pos c2]; exact ⟨_, rfl, hM⟩
  rw [if_neg c2, if_neg c2]
  obtain ⟨i, hi0, rfl⟩ := nI_of c1
  have hi : i < md G := by
    rw [nI_leI (by omega) (by omega)] at c2
    omega
  rw [nI_clamp (n := i) (by omega), rd_nI (by omega) (by decide), (hC3 i hi).2.2.2]
  by_cases c3 : al G i = true
  rotate_left
  · rw [if_neg c3, if_neg c3, if_pos rfl]; exact ⟨_, rfl, hM⟩
  rw [if_pos c3, if_pos c3, if_neg (by decide), wr_nI (by omega) (by decide)]
  have hal : ∀ j, j < md G → va_up am i 0 j = if al (cutG G i) j = true then 1 else 0 := cutG_cell (fun j hj => (hC3 j hj).2.2.2)
  have e := mcut_L (G := cutG G i) hm hal (kk := fun v2_17 => some (v2_17, 0, 0, va_up am i 0)) (md G) F 0 (Nat.zero_add _) (by omega)
  exact ⟨va_up am i 0, e, ⟨rfl, rfl, fun j hj => ⟨(hC3 j hj).1, (hC3 j hj).2.1, (hC3 j hj).2.2.1, hal j hj⟩⟩⟩
theorem mclear_eq {G : Gr} {nodes made : Int32} {fm tm wm am : Nat → Int32} (hM : MG G nodes made fm tm wm am) (mr : Nat → Int32) : f_X12_clear nodes = some ((stClear G).1, 0, 0, 0, 0) ∧ MG (stClear G).2.2 0 0 fm tm wm am ∧ RkO (stClear G).2.2 (fun _ _ => -1) mr := by
  refine ⟨?_, ⟨rfl, rfl, fun i hi => absurd hi (Nat.not_lt_zero i)⟩, fun v u hv => absurd hv (Nat.not_lt_zero v)⟩
  rw [hM.1]
  rfl
theorem mrank_eq {G : Gr} (hW : Wf G) {rk : Nat → Nat → Int32} {mr : Nat → Int32} (hk : RkO G rk mr) (p1 p2 p3 : Int32) : ∃ mr', f_X12_rank p1 p2 p3 (nI (nd G)) mr = some ((stRank G rk p1 p2 p3).1, mr') ∧ RkO G (stRank G rk p1 p2 p3).2 mr' := by
  obtain ⟨hn, hm, hA⟩ := id hW
  show ∃ mr', (if (f_X2_isNode p1 (nI (nd G))) = 0 then some ((-1), mr) else (if (f_X2_isNode p2 (nI (nd G))) = 0 then some ((-1), mr) else (if p1 = p2 then some ((-2), mr) else (if p3 < (-1) then some ((-2), mr) else (if p3 ≤ 99 then rd 256 mr ((16 * p1) + p2) (fun y_16 => wr 256 mr ((16 * p1) + p2) p3 (fun m_ranks_17 => some (y_16, m_ranks_17))) else some ((-2), mr)))))) = _ ∧ _
  unfold stRank okR cdR
  by_cases c1 : f_X2_isNode p1 (nI (nd G)) = 0
  · simp only [if_pos c1]; exact ⟨_, rfl, hk⟩
  simp only [if_neg c1]
  by_cases c2 : f_X2_isNode p2 (nI (nd G)) = 0
  · simp only [if_pos c2]; exact ⟨_, rfl, hk⟩
  simp only [if_neg c2]
  by_cases c3 : p1 = p2
  · simp only [if_pos c3]; exact ⟨_, rfl, hk⟩
  simp only [if_neg c3]
  by_cases c4 : p3 < -1
  · simp only [if_pos c4]; exact ⟨_, rfl, hk⟩
  simp only [if_neg c4]
  by_cases c5 : p3 ≤ 99
  rotate_left
  · simp only [if_neg c5]; exact ⟨_, rfl, hk⟩
  simp only [if_pos c5]
  obtain ⟨v, hv1, rfl⟩ := node_of hn c1
  obtain ⟨u, hu1, rfl⟩ := node_of hn c2
  rw [nI_clamp (n := v) (by omega), nI_clamp (n := u) (by omega), nI_16, rd_nI (by omega) (by decide), wr_nI (by omega) (by decide), hk v u hv1 hu1]
  exact ⟨va_up mr (v * 16 + u) p3, rfl, rankG (G := G) (n := nd G) hn (by omega) hk⟩
end
