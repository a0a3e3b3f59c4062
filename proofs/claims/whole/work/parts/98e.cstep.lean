section
theorem nI_16 (a b : Nat) : (16 : Int32) * nI a + nI b = nI (a * 16 + b) := by
  rw [show (16 : Int32) * nI a = nI (16 * a) from (Int32.ofNat_mul 16 a).symm, nI_add, Nat.mul_comm]
theorem link_eq {i v u : Nat} {one oth joined : Nat → Int32} {J : Nat → Nat} (hi : i < 60) (h1 : one i = nI v) (h2 : oth i = nI u) (hv : v < 16) (hu : u < 16) (hne : v ≠ u) (hj : ∀ w, w < 16 → joined w = nI (J w)) : ∃ j', f_X2_link (nI i) one oth joined = some j' ∧ ∀ w, w < 16 → j' w = nI (if v = w then J w ||| 2 ^ u else if u = w then J w ||| 2 ^ v else J w) := by
  unfold f_X2_link
  rw [rd_nI hi (by decide), rd_nI hi (by decide), h1, h2, rd_nI hv (by decide), wr_nI hv (by decide), rd_nI hu (by decide), wr_nI hu (by decide), up_n (fun e => hne e.symm), hj v hv, hj u hu, shl_nI (by omega), shl_nI (by omega), nI_or, nI_or]
  refine ⟨_, rfl, fun w hw => ?_⟩
  by_cases c : v = w
  · subst c
    rw [if_pos rfl, up_n hne, up_s]
  · rw [if_neg c]
    by_cases d : u = w
    · subst d
      rw [if_pos rfl, up_s]
    · rw [if_neg d, up_n (fun e => d e.symm), up_n (fun e => c e.symm), hj w hw]
theorem adjF_congr {G G' : Gr} {w : Nat} : ∀ k, (∀ i, i < k → fr G i = fr G' i ∧ tt G i = tt G' i ∧ al G i = al G' i) → adjF G k w = adjF G' k w := by
  intro k
  induction k with
  | zero => intro _; rfl
  | succ k ih =>
    intro h
    obtain ⟨h1, h2, h3⟩ := h k (by omega)
    show (if al G k = true then (if fr G k = w then adjF G k w ||| 2 ^ tt G k else if tt G k = w then adjF G k w ||| 2 ^ fr G k else adjF G k w) else adjF G k w) = (if al G' k = true then (if fr G' k = w then adjF G' k w ||| 2 ^ tt G' k else if tt G' k = w then adjF G' k w ||| 2 ^ fr G' k else adjF G' k w) else adjF G' k w)
    rw [ih (fun i hi => h i (by omega)), h1, h2, h3]
theorem lvC_congr {G G' : Gr} : ∀ k, (∀ i, i < k → al G i = al G' i) → lvC G k = lvC G' k := by
  intro k
  induction k with
  | zero => intro _; rfl
  | succ k ih =>
    intro h
    show lvC G k + (if al G k = true then 1 else 0) = lvC G' k + (if al G' k = true then 1 else 0)
    rw [ih (fun i hi => h i (by omega)), h k (by omega)]
theorem lvC_s (G : Gr) (k : Nat) : lvC G (k + 1) = lvC G k + if al G k = true then 1 else 0 := rfl
theorem lvC_le (G : Gr) : ∀ k, lvC G k ≤ k := by
  intro k
  induction k with
  | zero => exact Nat.le_refl 0
  | succ k ih => rw [lvC_s]; split <;> omega
theorem remove_L {G : Gr} (hW : Wf G) {one oth alv : Nat → Int32} (h : ∀ i, i < md G → one i = nI (fr G i) ∧ oth i = nI (tt G i) ∧ alv i = if al G i = true then 1 else 0) {kk : (Nat → Int32) → Option (Int32 × Int32 × (Nat → Int32) × (Nat → Int32))} : ∀ (k m i : Nat) (j : Nat → Int32), i + k = md G → k < m → (∀ w, w < 16 → j w = nI (adjF G i w)) → ∃ j', f_X2_removeArc_L37 (nI (md G)) one oth alv kk m (nI i) j = kk j' ∧ ∀ w, w < 16 → j' w = nI (adjF G (md G) w) := by
  obtain ⟨hn, hm, hA⟩ := hW
  intro k
  induction k with
  | zero =>
    intro m i j hi hm0 hj
    obtain ⟨m, rfl⟩ : ∃ q, m = q + 1 := ⟨m - 1, by omega⟩
    have e : i = md G := by omega
    subst e
    refine ⟨j, ?_, hj⟩
    show (if nI (md G) ≤ nI (md G) then kk j else _) = _
    rw [if_pos (nI_le (Nat.le_refl _) (by omega))]
  | succ k ih =>
    intro m i j hi hm0 hj
    obtain ⟨m, rfl⟩ : ∃ q, m = q + 1 := ⟨m - 1, by omega⟩
    have hil : i < md G := by omega
    obtain ⟨h1, h2, h3⟩ := h i hil
    obtain ⟨a1, a2, a3, -⟩ := hA i hil
    show ∃ j', (if nI (md G) ≤ nI i then kk j else rd 60 alv (nI i) (fun y_9 => (if y_9 = 0 then (f_X2_removeArc_L37 (nI (md G)) one oth alv kk m (nI i + 1) j) else (f_X2_link (nI i) one oth j).bind (fun g_joined_11 => (f_X2_removeArc_L37 (nI (md G)) one oth alv kk m (nI i + 1) g_joined_11))))) = kk j' ∧ _
    rw [if_neg (nI_ge hil (by omega)), rd_nI (by omega) (by decide), h3, nI_1 i]
    by_cases c : al G i = true
    · rw [if_pos c, if_neg (by decide)]
      obtain ⟨j1, e1, e2⟩ := link_eq (i := i) (by omega) h1 h2 (by omega) (by omega) a3 hj
      rw [e1]
      refine ih m (i + 1) j1 (by omega) (by omega) (fun w hw => ?_)
      rw [e2 w hw, adjF_s, if_pos c]
    · rw [if_neg c, if_pos rfl]
      refine ih m (i + 1) j (by omega) (by omega) (fun w hw => ?_)
      rw [hj w hw, adjF_s, if_neg c]
theorem upN_s (f : Nat → Nat) (i x : Nat) : upN f i x i = x := if_pos rfl
theorem upN_n {f : Nat → Nat} {i j x : Nat} (h : ¬ j = i) : upN f i x j = f j := if_neg h
theorem upB_s (f : Nat → Bool) (i : Nat) (x : Bool) : upB f i x i = x := if_pos rfl
theorem upB_n {f : Nat → Bool} {i j : Nat} {x : Bool} (h : ¬ j = i) : upB f i x j = f j := if_neg h
def arcG (G : Gr) (v u w : Nat) : Gr := (nd G, md G + 1, upN (fr G) (md G) v, upN (tt G) (md G) u, upN (wt G) (md G) w, upB (al G) (md G) true)
theorem arcG_adj (G : Gr) (v u w x : Nat) : adj (arcG G v u w) x = if v = x then adj G x ||| 2 ^ u else if u = x then adj G x ||| 2 ^ v else adj G x := by
  show adjF (arcG G v u w) (md G + 1) x = _
  rw [adjF_s, if_pos (show al (arcG G v u w) (md G) = true from upB_s _ _ _), show fr (arcG G v u w) (md G) = v from upN_s _ _ _, show tt (arcG G v u w) (md G) = u from upN_s _ _ _, adjF_congr (G := arcG G v u w) (G' := G) (md G) (fun i hi => ⟨upN_n (by omega), upN_n (by omega), upB_n (by omega)⟩)]
  rfl
theorem arcG_lv (G : Gr) (v u w : Nat) : lvC (arcG G v u w) (md G + 1) = lvC G (md G) + 1 := by
  rw [lvC_s, if_pos (show al (arcG G v u w) (md G) = true from upB_s _ _ _), lvC_congr (G := arcG G v u w) (G' := G) (md G) (fun i hi => upB_n (by omega))]
theorem cut_lv {G : Gr} {i : Nat} (h : al G i = true) : ∀ k, i < k → lvC G k = lvC (cutG G i) k + 1 := by
  intro k
  induction k with
  | zero => intro h; omega
  | succ k ih =>
    intro hk
    rw [lvC_s, lvC_s]
    by_cases e : k = i
    · subst e
      rw [if_pos h, if_neg (by rw [show al (cutG G k) k = false from upB_s _ _ _]; decide), lvC_congr (G := G) (G' := cutG G k) k (fun j hj => (upB_n (show ¬ j = k by omega)).symm)]
    · rw [show al (cutG G i) k = al G k from upB_n e, ih (by omega)]
      split <;> omega
theorem arcG_wf {G : Gr} (hW : Wf G) {v u w : Nat} (hv : v < nd G) (hu : u < nd G) (hne : v ≠ u) (hw : w ≤ 1000) (hm : md G < 60) : Wf (arcG G v u w) := by
  refine ⟨hW.1, by show md G + 1 ≤ 60; omega, fun i hi => ?_⟩
  have hi' : i < md G + 1 := hi
  show upN (fr G) (md G) v i < nd G ∧ upN (tt G) (md G) u i < nd G ∧ upN (fr G) (md G) v i ≠ upN (tt G) (md G) u i ∧ upN (wt G) (md G) w i ≤ 1000
  by_cases d : i = md G
  · rw [d, upN_s, upN_s, upN_s]; exact ⟨hv, hu, hne, hw⟩
  · rw [upN_n d, upN_n d, upN_n d]; exact hW.2.2 i (by omega)
theorem arcG_cell {G : Gr} {v u w : Nat} {one oth wts alv : Nat → Int32} (h : ∀ i, i < md G → one i = nI (fr G i) ∧ oth i = nI (tt G i) ∧ wts i = nI (wt G i) ∧ alv i = if al G i = true then 1 else 0) : ∀ i, i < md (arcG G v u w) → va_up one (md G) (nI v) i = nI (fr (arcG G v u w) i) ∧ va_up oth (md G) (nI u) i = nI (tt (arcG G v u w) i) ∧ va_up wts (md G) (nI w) i = nI (wt (arcG G v u w) i) ∧ va_up alv (md G) 1 i = if al (arcG G v u w) i = true then 1 else 0 := by
  intro i hi
  have hi' : i < md G + 1 := hi
  show _ = nI (upN (fr G) (md G) v i) ∧ _ = nI (upN (tt G) (md G) u i) ∧ _ = nI (upN (wt G) (md G) w i) ∧ _ = if upB (al G) (md G) true i = true then 1 else 0
  by_cases d : i = md G
  · rw [d, upN_s, upN_s, upN_s, upB_s, up_s, up_s, up_s, up_s, if_pos rfl]; exact ⟨rfl, rfl, rfl, rfl⟩
  · rw [upN_n d, upN_n d, upN_n d, upB_n d, up_n d, up_n d, up_n d, up_n d]; exact h i (by omega)
theorem cutG_cell {G : Gr} {i : Nat} {alv : Nat → Int32} (h : ∀ j, j < md G → alv j = if al G j = true then 1 else 0) : ∀ j, j < md G → va_up alv i 0 j = if al (cutG G i) j = true then 1 else 0 := by
  intro j hj
  show _ = if upB (al G) i false j = true then 1 else 0
  by_cases d : j = i
  · rw [d, upB_s, up_s]; rfl
  · rw [upB_n d, up_n d]; exact h j hj
theorem m1_or {p : Int32} (h : ¬ p < -1) : p = -1 ∨ ¬ p < 0 := by
  by_cases c : p < 0
  · left
    apply Int32.toInt_inj.mp
    rw [Int32.lt_iff_toInt_lt] at h c
    have e1 : (-1 : Int32).toInt = -1 := by decide
    have e2 : (0 : Int32).toInt = 0 := by decide
    omega
  · exact Or.inr c
theorem rankG {G : Gr} {rk : Nat → Nat → Int32} {v u : Nat} {x : Int32} {gv : Nat → Int32} {n : Nat} (hn : n ≤ 16) (hu : u < 16) (h : ∀ a b, a < n → b < n → gv (a * 16 + b) = rk a b) : ∀ a b, a < n → b < n → va_up gv (v * 16 + u) x (a * 16 + b) = upR rk v u x a b := by
  intro a b ha hb
  unfold upR
  by_cases d : a = v ∧ b = u
  · rw [if_pos d, d.1, d.2, up_s]
  · rw [if_neg d, up_n (by intro e; apply d; omega), h a b ha hb]
theorem rankV {rk : Nat → Nat → Int32} {v u : Nat} {x : Int32} (h : RkV rk) (h1 : ¬ x < -1) (h2 : x ≤ 99) : RkV (upR rk v u x) := by
  intro a b
  unfold upR
  split
  · rcases m1_or h1 with e | e
    · exact Or.inl e
    · obtain ⟨j, j1, j2⟩ := nI_of e
      subst j2
      rw [show (99 : Int32) = nI 99 from rfl, nI_leI (by omega) (by decide)] at h2
      exact Or.inr ⟨j, by omega, rfl⟩
  · exact h a b
/-- what the class's graph and ranks are -/
def XP (G : Gr) (rk : Nat → Nat → Int32) (a b : Nat) (nodes made living age : Int32) (one oth wts alv joined : Nat → Int32) (kage : Int32) (given : Nat → Int32) : Prop := Wf G ∧ CG G nodes made one oth wts alv joined ∧ living = nI (lvC G (md G)) ∧ age = nI a ∧ kage = nI b ∧ RkV rk ∧ (∀ v u, v < 16 → u < 16 → given (v * 16 + u) = rk v u) ∧ ∀ v u, nd G ≤ v ∨ nd G ≤ u → rk v u = -1
def ag (a : Nat) (f : Bool) : Nat := if f = true then a + 1 else a
section
variable {G : Gr} {rk : Nat → Nat → Int32} {a b : Nat} {nodes made living age : Int32} {one oth wts alv joined : Nat → Int32} {kage : Int32} {given : Nat → Int32}
theorem nodeO_eq (h : XP G rk a b nodes made living age one oth wts alv joined kage given) : ∃ nodes' age', f_X11_nodeO nodes age = some ((stNode G).1, nodes', age') ∧ XP (stNode G).2.2 rk (ag a (stNode G).2.1) b nodes' made living age' one oth wts alv joined kage given := by
  obtain ⟨hW, hC, hl, ha, hb, hv, hg, hr⟩ := id h
  have hn := hW.1
  unfold f_X11_nodeO stNode ag
  by_cases c : nd G = 16
  · rw [if_pos (show nodes = 16 by rw [hC.1, c]; rfl), if_pos c]
    exact ⟨_, _, rfl, h⟩
  · rw [if_neg (show ¬ nodes = 16 by rw [hC.1]; intro e; exact c ((nI_eq (b := 16) (by omega) (by decide)).mp e)), if_neg c]
    have e1 : nodes + 1 - 1 = nI (nd G) := by rw [hC.1, nI_1, nI_pred]
    refine ⟨nodes + 1, age + 1, ?_, ⟨by show nd G + 1 ≤ 16; omega, hW.2.1, fun i hi => ?_⟩, ⟨by rw [hC.1, nI_1]; rfl, hC.2.1, hC.2.2.1, fun v hv => ?_⟩, ?_, by rw [ha, nI_1]; rfl, hb, hv, hg, fun v u hh => hr v u ?_⟩
    · show some ((nodes + 1 - 1), (nodes + 1), (age + 1)) = _
      rw [e1]
    · obtain ⟨x1, x2, x3⟩ := hW.2.2 i hi
      exact ⟨Nat.lt_succ_of_lt x1, Nat.lt_succ_of_lt x2, x3⟩
    · rw [hC.2.2.2 v hv]
      congr 1
      exact adjF_congr _ (fun i hi => ⟨rfl, rfl, rfl⟩)
    · rw [hl]
      congr 1
      exact lvC_congr _ (fun i hi => rfl)
    · rcases hh with hh | hh
      · exact Or.inl (Nat.le_of_succ_le hh)
      · exact Or.inr (Nat.le_of_succ_le hh)
theorem arcO_eq (h : XP G rk a b nodes made living age one oth wts alv joined kage given) (p1 p2 p3 : Int32) : ∃ made' living' age' one' oth' wts' alv' joined', f_X11_arcO p1 p2 p3 nodes made living age one oth wts alv joined = some ((stArc G p1 p2 p3).1, made', living', age', one', oth', wts', alv', joined') ∧ XP (stArc G p1 p2 p3).2.2 rk (ag a (stArc G p1 p2 p3).2.1) b nodes made' living' age' one' oth' wts' alv' joined' kage given := by
  obtain ⟨hW, hC, hl, ha, hb, hv, hg, hr⟩ := id h
  obtain ⟨hn, hm, hA⟩ := id hW
  obtain ⟨rfl, rfl, hC3, hC4⟩ := id hC
  unfold f_X11_arcO stArc
  by_cases c1 : f_X2_isNode p1 (nI (nd G)) = 0
  · rw [if_pos c1, if_pos c1]; exact ⟨_, _, _, _, _, _, _, _, rfl, h⟩
  rw [if_neg c1, if_neg c1]
  by_cases c2 : f_X2_isNode p2 (nI (nd G)) = 0
  · rw [if_pos c2, if_pos c2]; exact ⟨_, _, _, _, _, _, _, _, rfl, h⟩
  rw [if_neg c2, if_neg c2]
  by_cases c3 : p1 = p2
  · rw [if_pos c3, if_pos c3]; exact ⟨_, _, _, _, _, _, _, _, rfl, h⟩
  rw [if_neg c3, if_neg c3]
  by_cases c4 : p3 < 0
  · rw [if_pos c4, if_pos c4]; exact ⟨_, _, _, _, _, _, _, _, rfl, h⟩
  rw [if_neg c4, if_neg c4]
  by_cases c5 : p3 ≤ 1000
  rotate_left
  · rw [if_neg c5, if_neg c5]; exact ⟨_, _, _, _, _, _, _, _, rfl, h⟩
  rw [if_pos c5, if_pos c5]
  by_cases c6 : md G = 60
  · rw [if_pos c6, if_pos (show nI (md G) = 60 by rw [c6]; rfl)]; exact ⟨_, _, _, _, _, _, _, _, rfl, h⟩
  rw [if_neg c6, if_neg (show ¬ nI (md G) = 60 from fun e => c6 ((nI_eq (b := 60) (by omega) (by decide)).mp e))]
  obtain ⟨v, hv1, rfl⟩ := node_of hn c1
  obtain ⟨u, hu1, rfl⟩ := node_of hn c2
  have hne : v ≠ u := fun e => c3 (by rw [e])
  obtain ⟨w, hw0, rfl⟩ := nI_of c4
  have hw : w ≤ 1000 := by
    rw [show (1000 : Int32) = nI 1000 from rfl, nI_leI (by omega) (by decide)] at c5
    exact c5
  rw [nI_clamp (n := v) (by omega), nI_clamp (n := u) (by omega), nI_clamp (n := w) (by omega)]
  obtain ⟨j', e1, e2⟩ := link_eq (i := md G) (one := va_up one (md G) (nI v)) (oth := va_up oth (md G) (nI u)) (J := adj G) (by omega) (up_s _ _ _) (up_s _ _ _) (by omega) (by omega) hne hC4
  unfold f_X2_addArc
  rw [wr_nI (by omega) (by decide), wr_nI (by omega) (by decide), wr_nI (by omega) (by decide), wr_nI (by omega) (by decide), e1]
  refine ⟨nI (md G) + 1, living + 1, age + 1, va_up one (md G) (nI v), va_up oth (md G) (nI u), va_up wts (md G) (nI w), va_up alv (md G) 1, j', rfl, ?_⟩
  show XP (arcG G v u w) rk (a + 1) b _ _ _ _ _ _ _ _ _ _ _
  refine ⟨arcG_wf hW hv1 hu1 hne hw (by omega), ⟨rfl, nI_1 (md G), arcG_cell hC3, fun x hx => ?_⟩, ?_, by rw [ha, nI_1], hb, hv, hg, hr⟩
  · rw [e2 x hx, arcG_adj]
  · rw [hl, nI_1]
    show _ = nI (lvC (arcG G v u w) (md G + 1))
    rw [arcG_lv]
theorem cutO_eq {F : Nat} (hF : 100000 ≤ F) (h : XP G rk a b nodes made living age one oth wts alv joined kage given) (p : Int32) : ∃ living' age' alv' joined', f_X11_cutO F p made living age one oth alv joined = some ((stCut G p).1, living', age', alv', joined') ∧ XP (stCut G p).2.2 rk (ag a (stCut G p).2.1) b nodes made living' age' one oth wts alv' joined' kage given := by
  obtain ⟨hW, hC, hl, ha, hb, hv, hg, hr⟩ := id h
  obtain ⟨hn, hm, hA⟩ := id hW
  obtain ⟨rfl, rfl, hC3, hC4⟩ := id hC
  unfold f_X11_cutO f_X2_isArc stCut
  by_cases c1 : p < 0
  · rw [if_pos c1, if_pos c1, bS, if_pos rfl]; exact ⟨_, _, _, _, rfl, h⟩
  rw [if_neg c1, if_neg c1]
  by_cases c2 : nI (md G) ≤ p
  · rw [if_pos c2, if_pos c2, bS, if_pos rfl]; exact ⟨_, _, _, _, rfl, h⟩
  rw [if_neg c2, if_neg c2]
  obtain ⟨i, hi0, rfl⟩ := nI_of c1
  have hi : i < md G := by
    rw [nI_leI (by omega) (by omega)] at c2
    omega
  rw [nI_clamp (n := i) (by omega), rd_nI (by omega) (by decide), (hC3 i hi).2.2.2]
  by_cases c3 : al G i = true
  rotate_left
  · rw [if_neg c3, if_neg c3, if_pos rfl, bS, if_pos rfl]; exact ⟨_, _, _, _, rfl, h⟩
  rw [if_pos c3, if_pos c3, if_neg (show ¬ (1 : Int32) = 0 by decide), bS, if_neg (show ¬ (1 : Int32) = 0 by decide)]
  obtain ⟨f1, e1, e2⟩ := fillI (F := F) 0 (n := 16) (by decide) (by omega) joined
  have hal : ∀ j, j < md G → va_up alv i 0 j = if al (cutG G i) j = true then 1 else 0 := cutG_cell (fun j hj => (hC3 j hj).2.2.2)
  have hW' : Wf (cutG G i) := ⟨hn, hm, hA⟩
  obtain ⟨j', e3, e4⟩ := remove_L (G := cutG G i) hW' (one := one) (oth := oth) (alv := va_up alv i 0) (fun j hj => ⟨(hC3 j hj).1, (hC3 j hj).2.1, hal j hj⟩) (kk := fun g => some (living - 1, age + 1, va_up alv i 0, g)) (md G) F 0 f1 (Nat.zero_add _) (by omega) (fun w hw => by rw [e2 w hw]; rfl)
  have e5 : f_X2_removeArc F (nI i) (nI (md G)) living age one oth alv joined = some (living - 1, age + 1, va_up alv i 0, j') := by
    unfold f_X2_removeArc
    rw [wr_nI (by omega) (by decide), e1]
    exact e3
  rw [e5]
  have e6 : living - 1 = nI (lvC (cutG G i) (md G)) := by rw [hl, cut_lv c3 (md G) hi, nI_pred]
  refine ⟨living - 1, age + 1, va_up alv i 0, j', ?_, ?_⟩
  · show some (living - 1, living - 1, _) = some (nI (lvC (cutG G i) (md G)), living - 1, _)
    rw [e6]
  · exact ⟨hW', ⟨rfl, rfl, fun j hj => ⟨(hC3 j hj).1, (hC3 j hj).2.1, (hC3 j hj).2.2.1, hal j hj⟩, fun w hw => e4 w hw⟩, e6, by rw [ha, nI_1]; rfl, hb, hv, hg, hr⟩
theorem clearO_eq {F : Nat} (hF : 100000 ≤ F) (h : XP G rk a b nodes made living age one oth wts alv joined kage given) : ∃ nodes' made' living' age' joined' kage' given', f_X11_clearO F nodes age joined kage given = some ((stClear G).1, nodes', made', living', age', joined', kage', given') ∧ XP (stClear G).2.2 (fun _ _ => -1) (a + 1) (b + 1) nodes' made' living' age' one oth wts alv joined' kage' given' := by
  obtain ⟨hW, hC, hl, ha, hb, hv, hg, hr⟩ := id h
  obtain ⟨f1, e1, e2⟩ := fillI (F := F) 0 (n := 16) (by decide) (by omega) joined
  obtain ⟨f2, e3, e4⟩ := fillI (F := F) (-1) (n := 256) (by decide) (by omega) given
  unfold f_X11_clearO f_X2_removeAll f_X6_removeAll
  rw [e1, e3, hC.1]
  refine ⟨0, 0, 0, age + 1, f1, kage + 1, f2, rfl, ⟨Nat.zero_le _, Nat.zero_le _, fun i hi => absurd hi (Nat.not_lt_zero i)⟩, ⟨rfl, rfl, fun i hi => absurd hi (Nat.not_lt_zero i), fun v hv => (e2 v hv).trans rfl⟩, rfl, by rw [ha, nI_1], by rw [hb, nI_1], fun _ _ => Or.inl rfl, fun v u hv hu => e4 _ (by omega), fun _ _ _ => rfl⟩
theorem rankO_eq (h : XP G rk a b nodes made living age one oth wts alv joined kage given) (p1 p2 p3 : Int32) : ∃ kage' given', f_X11_rankO p1 p2 p3 nodes kage given = some ((stRank G rk p1 p2 p3).1, kage', given') ∧ XP G (stRank G rk p1 p2 p3).2 a (ag b (okR G p1 p2 p3)) nodes made living age one oth wts alv joined kage' given' := by
  obtain ⟨hW, hC, hl, ha, hb, hv, hg, hr⟩ := id h
  obtain ⟨hn, hm, hA⟩ := id hW
  obtain ⟨rfl, rfl, hC3, hC4⟩ := id hC
  unfold f_X11_rankO stRank okR cdR
  by_cases c1 : f_X2_isNode p1 (nI (nd G)) = 0
  · simp only [if_pos c1]; exact ⟨_, _, rfl, h⟩
  simp only [if_neg c1]
  by_cases c2 : f_X2_isNode p2 (nI (nd G)) = 0
  · simp only [if_pos c2]; exact ⟨_, _, rfl, h⟩
  simp only [if_neg c2]
  by_cases c3 : p1 = p2
  · simp only [if_pos c3]; exact ⟨_, _, rfl, h⟩
  simp only [if_neg c3]
  by_cases c4 : p3 < -1
  · simp only [if_pos c4]; exact ⟨_, _, rfl, h⟩
  simp only [if_neg c4]
  by_cases c5 : p3 ≤ 99
  rotate_left
  · simp only [if_neg c5]; exact ⟨_, _, rfl, h⟩
  simp only [if_pos c5]
  obtain ⟨v, hv1, rfl⟩ := node_of hn c1
  obtain ⟨u, hu1, rfl⟩ := node_of hn c2
  unfold f_X6_replace
  rw [nI_clamp (n := v) (by omega), nI_clamp (n := u) (by omega), cell_nI, rd_nI (by omega) (by decide), wr_nI (by omega) (by decide), hg v u (by omega) (by omega)]
  refine ⟨kage + 1, va_up given (v * 16 + u) p3, rfl, hW, hC, hl, ha, by rw [hb, nI_1]; rfl, rankV hv c4 c5, rankG (G := G) (n := 16) (by omega) (by omega) hg, fun x y hh => ?_⟩
  show upR rk v u p3 x y = -1
  unfold upR
  rw [if_neg (by omega)]
  exact hr x y hh
end
end
