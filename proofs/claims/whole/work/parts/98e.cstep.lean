section
theorem nI_16 (a b : Nat) : (16 : Int32) * nI a + nI b = nI (a * 16 + b) := by
  rw [show (16 : Int32) * nI a = nI (16 * a) from (Int32.ofNat_mul 16 a).symm, nI_add, Nat.mul_comm]
theorem link_eq {i v u : Nat} {one oth joined : Nat → Int32} {J : Nat → Nat} (hi : i < 60) (h1 : one i = nI v) (h2 : oth i = nI u) (hv : v < 16) (hu : u < 16) (hne : v ≠ u) (hj : ∀ w, w < 16 → joined w = nI (J w)) : ∃ j', f_X2_link (nI i) one oth joined = some j' ∧ ∀ w, w < 16 → j' w = nI (if v = w then J w ||| 2 ^ u else if u = w then J w ||| 2 ^ v else J w) := by
  unfold f_X2_link
  rw [rd_nI hi (by decide), rd_nI hi (by decide), h1, h2, rd_nI hv (by decide), wr_nI hv (by decide), rd_nI hu (by decide), wr_nI hu (by decide), up_n (fun e => hne e.symm), hj v hv, hj u hu, shl_nI (by omega), shl_nI (by omega), nI_or, nI_or]
  refine ⟨_, rfl, fun w hw => ?_⟩
  by_cases c : v = w
  · subst c
    rw [if_pos rfl, up_n hne, up_s]
  · rw [if_neg c]
    by_cases d : u = w
    · subst d
      rw [if_pos rfl, up_s]
    · rw [if_neg d, up_n (fun e => d e.symm), up_n (fun e => c e.symm), hj w hw]
theorem adjF_congr {G G' : Gr} {w : Nat} : ∀ k, (∀ i, i < k → fr G i = fr G' i ∧ tt G i = tt G' i ∧ al G i = al G' i) → adjF G k w = adjF G' k w := by
  intro k
  induction k with
  | zero => intro _; rfl
  | succ k ih =>
    intro h
    obtain ⟨h1, h2, h3⟩ := h k (by omega)
    show (if al G k = true then (if fr G k = w then adjF G k w ||| 2 ^ tt G k else if tt G k = w then adjF G k w ||| 2 ^ fr G k else adjF G k w) else adjF G k w) = (if al G' k = true then (if fr G' k = w then adjF G' k w ||| 2 ^ tt G' k else if tt G' k = w then adjF G' k w ||| 2 ^ fr G' k else adjF G' k w) else adjF G' k w)
    rw [ih (fun i hi => h i (by omega)), h1, h2, h3]
theorem lvC_congr {G G' : Gr} : ∀ k, (∀ i, i < k → al G i = al G' i) → lvC G k = lvC G' k := by
  intro k
  induction k with
  | zero => intro _; rfl
  | succ k ih =>
    intro h
    show lvC G k + (if al G k = true then 1 else 0) = lvC G' k + (if al G' k = true then 1 else 0)
    rw [ih (fun i hi => h i (by omega)), h k (by omega)]
theorem adjF_s (G : Gr) (k w : Nat) : adjF G (k + 1) w = if al G k = true then (if fr G k = w then adjF G k w ||| 2 ^ tt G k else if tt G k = w then adjF G k w ||| 2 ^ fr G k else adjF G k w) else adjF G k w := rfl
theorem lvC_s (G : Gr) (k : Nat) : lvC G (k + 1) = lvC G k + if al G k = true then 1 else 0 := rfl
theorem lvC_le (G : Gr) : ∀ k, lvC G k ≤ k := by
  intro k
  induction k with
  | zero => exact Nat.le_refl 0
  | succ k ih => rw [lvC_s]; split <;> omega
theorem remove_L {G : Gr} (hW : Wf G) {one oth alv : Nat → Int32} (h : ∀ i, i < md G → one i = nI (fr G i) ∧ oth i = nI (tt G i) ∧ alv i = if al G i = true then 1 else 0) {kk : (Nat → Int32) → Option (Int32 × Int32 × (Nat → Int32) × (Nat → Int32))} : ∀ (k m i : Nat) (j : Nat → Int32), i + k = md G → k < m → (∀ w, w < 16 → j w = nI (adjF G i w)) → ∃ j', f_X2_removeArc_L37 (nI (md G)) one oth alv kk m (nI i) j = kk j' ∧ ∀ w, w < 16 → j' w = nI (adjF G (md G) w) := by
  obtain ⟨hn, hm, hA⟩ := hW
  intro k
  induction k with
  | zero =>
    intro m i j hi hm0 hj
    obtain ⟨m, rfl⟩ : ∃ q, m = q + 1 := ⟨m - 1, by omega⟩
    have e : i = md G := by omega
    subst e
    refine ⟨j, ?_, hj⟩
    show (if nI (md G) ≤ nI (md G) then kk j else _) = _
    rw [if_pos (nI_le (Nat.le_refl _) (by omega))]
  | succ k ih =>
    intro m i j hi hm0 hj
    obtain ⟨m, rfl⟩ : ∃ q, m = q + 1 := ⟨m - 1, by omega⟩
    have hil : i < md G := by omega
    obtain ⟨h1, h2, h3⟩ := h i hil
    obtain ⟨a1, a2, a3, -⟩ := hA i hil
    show ∃ j', (if nI (md G) ≤ nI i then kk j else rd 60 alv (nI i) (fun y_9 => (if y_9 = 0 then (f_X2_removeArc_L37 (nI (md G)) one oth alv kk m (nI i + 1) j) else (f_X2_link (nI i) one oth j).bind (fun g_joined_11 => (f_X2_removeArc_L37 (nI (md G)) one oth alv kk m (nI i + 1) g_joined_11))))) = kk j' ∧ _
    rw [if_neg (nI_ge hil (by omega)), rd_nI (by omega) (by decide), h3, nI_1 i]
    by_cases c : al G i = true
    · rw [if_pos c, if_neg (by decide)]
      obtain ⟨j1, e1, e2⟩ := link_eq (i := i) (by omega) h1 h2 (by omega) (by omega) a3 hj
      rw [e1]
      refine ih m (i + 1) j1 (by omega) (by omega) (fun w hw => ?_)
      rw [e2 w hw, adjF_s, if_pos c]
    · rw [if_neg c, if_pos rfl]
      refine ih m (i + 1) j (by omega) (by omega) (fun w hw => ?_)
      rw [hj w hw, adjF_s, if_neg c]
/-- what the class's graph and ranks are -/
def XP (G : Gr) (rk : Nat → Nat → Int32) (a b : Nat) (nodes made living age : Int32) (one oth wts alv joined : Nat → Int32) (kage : Int32) (given : Nat → Int32) : Prop := Wf G ∧ CG G nodes made one oth wts alv joined ∧ living = nI (lvC G (md G)) ∧ age = nI a ∧ kage = nI b ∧ RkV rk ∧ (∀ v u, v < 16 → u < 16 → given (v * 16 + u) = rk v u) ∧ ∀ v u, nd G ≤ v ∨ nd G ≤ u → rk v u = -1
def ag (a : Nat) (f : Bool) : Nat := if f = true then a + 1 else a
section
variable {G : Gr} {rk : Nat → Nat → Int32} {a b : Nat} {nodes made living age : Int32} {one oth wts alv joined : Nat → Int32} {kage : Int32} {given : Nat → Int32}
theorem nodeO_eq (h : XP G rk a b nodes made living age one oth wts alv joined kage given) : ∃ nodes' age', f_X11_nodeO nodes age = some ((stNode G).1, nodes', age') ∧ XP (stNode G).2.2 rk (ag a (stNode G).2.1) b nodes' made living age' one oth wts alv joined kage given := by
  obtain ⟨hW, hC, hl, ha, hb, hv, hg, hr⟩ := id h
  have hn := hW.1
  unfold f_X11_nodeO stNode ag
  by_cases c : nd G = 16
  · rw [if_pos (show nodes = 16 by rw [hC.1, c]; rfl), if_pos c]
    exact ⟨_, _, rfl, h⟩
  · rw [if_neg (show ¬ nodes = 16 by rw [hC.1]; intro e; exact c ((nI_eq (b := 16) (by omega) (by decide)).mp e)), if_neg c]
    have e1 : nodes + 1 - 1 = nI (nd G) := by rw [hC.1, nI_1, nI_pred]
    refine ⟨nodes + 1, age + 1, ?_, ⟨by show nd G + 1 ≤ 16; omega, hW.2.1, fun i hi => ?_⟩, ⟨by rw [hC.1, nI_1]; rfl, hC.2.1, hC.2.2.1, fun v hv => ?_⟩, ?_, by rw [ha, nI_1]; rfl, hb, hv, hg, fun v u hh => hr v u ?_⟩
    · show some ((nodes + 1 - 1), (nodes + 1), (age + 1)) = _
      rw [e1]
    · obtain ⟨x1, x2, x3⟩ := hW.2.2 i hi
      exact ⟨Nat.lt_succ_of_lt x1, Nat.lt_succ_of_lt x2, x3⟩
    · rw [hC.2.2.2 v hv]
      congr 1
      exact adjF_congr _ (fun i hi => ⟨rfl, rfl, rfl⟩)
    · rw [hl]
      congr 1
      exact lvC_congr _ (fun i hi => rfl)
    · rcases hh with hh | hh
      · exact Or.inl (Nat.le_of_succ_le hh)
      · exact Or.inr (Nat.le_of_succ_le hh)
end
end
