theorem fu_gt {G : Gr} (hW : Wf G) {S S' : Nat} (hS : ∀ v, S.testBit v = true → S'.testBit v = true) (hx : fu G S < nd G) (hx2 : S'.testBit (fu G S) = true) : fu G S < fu G S' := by
  obtain ⟨f1, f2, f3, f4⟩ := fu_spec hW S
  obtain ⟨g1, g2, g3, g4⟩ := fu_spec hW S'
  rcases Nat.lt_or_ge (fu G S) (fu G S') with c | c
  · exact c
  · exfalso
    obtain ⟨h1, -⟩ := g3 (by omega)
    rcases Nat.lt_or_ge (fu G S') (fu G S) with d | d
    · rw [hS _ (f2 _ d)] at h1; cases h1
    · rw [show fu G S' = fu G S by omega, hx2] at h1; cases h1
theorem inv_alone {G : Gr} (hW : Wf G) {rk : Nat → Nat → Int32} {ar : Nat → Nat → Nat} {S : Nat} {p : Nat → Nat} {X : Nat} {wt : Nat → Int32} (h : InvR G rk ar S p X wt) (hx : fu G S < nd G) : InvR G rk ar (S ||| 2 ^ fu G S) (va_up p (fu G S) (fu G S)) X wt ∧ fu G S < fu G (S ||| 2 ^ fu G S) ∧ ∀ w, (S ||| 2 ^ fu G S).testBit w = true → fu G S < w → va_up p (fu G S) (fu G S) w < w := by
  have hn := hW.1
  obtain ⟨h1, h2, ⟨h3, h4⟩, h5, h6⟩ := h
  obtain ⟨f1, f2, f3, f4⟩ := fu_spec hW S
  obtain ⟨g1, -⟩ := f3 hx
  have hgt := fu_gt hW (S := S) (S' := S ||| 2 ^ fu G S) (fun v hv => (or1_bit _ _ _).mpr (Or.inl hv)) hx ((or1_bit _ _ _).mpr (Or.inr rfl))
  generalize fu G S = x at hx g1 h6 hgt f2
  have hSx : ∀ v, S.testBit v = true → v ≠ x := fun v hv e => by rw [e, g1] at hv; cases hv
  refine ⟨⟨fun v hv => ?_, fun v hv hp => ?_, ⟨h3, fun i hi => ?_⟩, fun v hv => ?_, fun v hv hlt => ?_⟩, hgt, fun w hw hlt => ?_⟩
  · rcases (or1_bit _ _ _).mp hv with y | y
    · exact h1 v y
    · omega
  · rcases (or1_bit _ _ _).mp hv with y | y
    · rw [up_n (hSx v y)] at hp ⊢
      obtain ⟨k1, k2⟩ := h2 v y hp
      exact ⟨(or1_bit _ _ _).mpr (Or.inl k1), k2⟩
    · subst y; rw [up_s] at hp; exact absurd rfl hp
  · rw [h4 i hi]
    constructor
    · rintro ⟨v, v1, v2, v3⟩
      exact ⟨v, (or1_bit _ _ _).mpr (Or.inl v1), by rw [up_n (hSx v v1)]; exact v2, by rw [up_n (hSx v v1)]; exact v3⟩
    · rintro ⟨v, v1, v2, v3⟩
      rcases (or1_bit _ _ _).mp v1 with y | y
      · rw [up_n (hSx v y)] at v2 v3; exact ⟨v, y, v2, v3⟩
      · subst y; rw [up_s] at v2; omega
  · rw [h5 v hv]
    by_cases c : S.testBit v = true
    · rw [up_n (hSx v c)]
      by_cases d : p v ≠ v
      · rw [if_pos ⟨c, d⟩, if_pos ⟨(or1_bit _ _ _).mpr (Or.inl c), d⟩]
      · rw [if_neg (fun y => d y.2), if_neg (fun y => d y.2)]
    · rw [if_neg (fun y => c y.1), if_neg]
      rintro ⟨y1, y2⟩
      rcases (or1_bit _ _ _).mp y1 with z | z
      · exact c z
      · subst z; rw [up_s] at y2; exact y2 rfl
  · rcases (or1_bit _ _ _).mp hv with y | y
    · rw [up_n (hSx v y)]
      have := h6 v y (by omega)
      omega
    · omega
  · rcases (or1_bit _ _ _).mp hw with y | y
    · rw [up_n (hSx w y)]
      have := h6 w y hlt
      omega
    · omega
theorem inv_pair {G : Gr} (hW : Wf G) {rk : Nat → Nat → Int32} {ar : Nat → Nat → Nat} (har : ArOK G ar) {S : Nat} {p : Nat → Nat} {X : Nat} {wt : Nat → Int32} (h : InvR G rk ar S p X wt) (hx : fu G S < nd G) {u : Nat} (hu : fu G S < u) (hSu : S.testBit u = false) (hop : opB G rk (fu G S) u = true) : InvR G rk ar (S ||| (2 ^ fu G S ||| 2 ^ u)) (va_up (va_up p (fu G S) u) u (fu G S)) (X ||| mkA (ar (fu G S) u)) (va_up (va_up wt (fu G S) (nI u)) u (nI (fu G S))) ∧ fu G S < fu G (S ||| (2 ^ fu G S ||| 2 ^ u)) ∧ (∀ w, (S ||| (2 ^ fu G S ||| 2 ^ u)).testBit w = true → fu G S < w → va_up (va_up p (fu G S) u) u (fu G S) w < w) ∧ va_up (va_up p (fu G S) u) u (fu G S) (fu G S) = u := by
  have hn := hW.1
  have hm60 := hW.2.1
  obtain ⟨h1, h2, ⟨h3, h4⟩, h5, h6⟩ := h
  obtain ⟨f1, f2, f3, f4⟩ := fu_spec hW S
  obtain ⟨g1, -⟩ := f3 hx
  have hgt := fu_gt hW (S := S) (S' := S ||| (2 ^ fu G S ||| 2 ^ u)) (fun v hv => (or2_bit _ _ _ _).mpr (Or.inl hv)) hx ((or2_bit _ _ _ _).mpr (Or.inr (Or.inl rfl)))
  generalize fu G S = x at hx g1 h6 hgt f2 hu hop
  have hun := (opB_in hW hop).2.1
  have hxu : x ≠ u := by omega
  have hSx : ∀ v, S.testBit v = true → v ≠ x := fun v hv e => by rw [e, g1] at hv; cases hv
  have hSu' : ∀ v, S.testBit v = true → v ≠ u := fun v hv e => by rw [e, hSu] at hv; cases hv
  have hpS : ∀ v, S.testBit v = true → va_up (va_up p x u) u x v = p v := fun v hv => by rw [up_n (hSu' v hv), up_n (hSx v hv)]
  have hpx : va_up (va_up p x u) u x x = u := by rw [up_n hxu, up_s]
  have hpu : va_up (va_up p x u) u x u = x := up_s _ _ _
  have hak := (har x u (opB_iff.mp hop).1).1
  generalize va_up (va_up p x u) u x = p2 at hpS hpx hpu
  refine ⟨⟨fun v hv => ?_, fun v hv hp => ?_, ⟨Nat.or_lt_two_pow h3 mkA_lt, fun i hi => ?_⟩, fun v hv => ?_, fun v hv hlt => ?_⟩, hgt, fun w hw hlt => ?_, hpx⟩
  · rcases (or2_bit _ _ _ _).mp hv with y | y | y
    · exact h1 v y
    · omega
    · omega
  · rcases (or2_bit _ _ _ _).mp hv with y | y | y
    · rw [hpS v y] at hp ⊢
      obtain ⟨k1, k2⟩ := h2 v y hp
      exact ⟨(or2_bit _ _ _ _).mpr (Or.inl k1), k2⟩
    · subst y; rw [hpx]; exact ⟨(or2_bit _ _ _ _).mpr (Or.inr (Or.inr rfl)), hop⟩
    · subst y; rw [hpu]; exact ⟨(or2_bit _ _ _ _).mpr (Or.inr (Or.inl rfl)), by rw [opB_sym hW]; exact hop⟩
  · rw [inX_or, Bool.or_eq_true, h4 i hi, inX_mkA (by omega) hi, decide_eq_true_eq]
    constructor
    · rintro (⟨v, v1, v2, v3⟩ | e)
      · exact ⟨v, (or2_bit _ _ _ _).mpr (Or.inl v1), by rw [hpS v v1]; exact v2, by rw [hpS v v1]; exact v3⟩
      · exact ⟨x, (or2_bit _ _ _ _).mpr (Or.inr (Or.inl rfl)), by rw [hpx]; exact hu, by rw [hpx]; exact e⟩
    · rintro ⟨v, v1, v2, v3⟩
      rcases (or2_bit _ _ _ _).mp v1 with y | y | y
      · rw [hpS v y] at v2 v3; exact Or.inl ⟨v, y, v2, v3⟩
      · subst y; rw [hpx] at v3; exact Or.inr v3
      · subst y; rw [hpu] at v2; omega
  · by_cases c1 : v = u
    · subst c1
      rw [up_s, hpu, if_pos ⟨(or2_bit _ _ _ _).mpr (Or.inr (Or.inr rfl)), hxu⟩]
    · rw [up_n c1]
      by_cases c2 : v = x
      · subst c2
        rw [up_s, hpx, if_pos ⟨(or2_bit _ _ _ _).mpr (Or.inr (Or.inl rfl)), fun e => hxu e.symm⟩]
      · rw [up_n c2, h5 v hv]
        by_cases c : S.testBit v = true
        · rw [hpS v c]
          by_cases d : p v ≠ v
          · rw [if_pos ⟨c, d⟩, if_pos ⟨(or2_bit _ _ _ _).mpr (Or.inl c), d⟩]
          · rw [if_neg (fun y => d y.2), if_neg (fun y => d y.2)]
        · rw [if_neg (fun y => c y.1), if_neg]
          rintro ⟨y1, -⟩
          rcases (or2_bit _ _ _ _).mp y1 with z | z | z
          · exact c z
          · exact c2 z.symm
          · exact c1 z.symm
  · rcases (or2_bit _ _ _ _).mp hv with y | y | y
    · rw [hpS v y]
      have := h6 v y (by omega)
      omega
    · omega
    · subst y; rw [hpu]; exact hgt
  · rcases (or2_bit _ _ _ _).mp hw with y | y | y
    · rw [hpS w y]
      have := h6 w y hlt
      omega
    · omega
    · subst y; rw [hpu]; exact hu
theorem walk_sub {F : Nat} (hF : 100000 ≤ F) {G : Gr} (hW : Wf G) (h12 : nd G ≤ 12) {rk : Nat → Nat → Int32} {gv oa : Nat → Int32} (hg : RkO G rk gv) {ar : Nat → Nat → Nat} (har : ArOK G ar) (hoa : OAO G rk ar oa) {J : (Nat → Nat) → Nat → Nat × Nat → Nat × Nat} (hJ : JOK G rk J) {kk : (Nat → Int32) → (Nat → Int32) → Int32 → Int64 → Option (Int32 × Int64 × (Nat → Int32) × (Nat → Int32) × (Nat → Int32))} :
    ∀ (n S : Nat) (p : Nat → Nat) (X : Nat) (wt tr : Nat → Int32) (s : Nat × Nat) (r : Int32), InvR G rk ar S p X wt → un G S = n → f_X12_back F (nI (fu G S)) wt = some r → (fu G S < nd G → tr (fu G S) = -1) → s.1 + cI n < 2 ^ 30 → s.2 < 2 ^ 60 → (s.1 = 0 → s.2 = 0) →
      ∃ c tr', c ≤ cI n ∧ (∀ w, w < fu G S → tr' w = tr w) ∧ (∀ m, f_X12_findStables_L44 F (nI (nd G)) gv oa kk (m + c) (nI (fu G S)) tr wt (nI s.1) (lN (rv s.2 60)) = f_X12_findStables_L44 F (nI (nd G)) gv oa kk m r tr' wt (nI (Rn G (opB G rk) ar J n S p X s).1) (lN (rv (Rn G (opB G rk) ar J n S p X s).2 60))) ∧ (Rn G (opB G rk) ar J n S p X s).2 < 2 ^ 60 ∧ ((Rn G (opB G rk) ar J n S p X s).1 = 0 → (Rn G (opB G rk) ar J n S p X s).2 = 0) ∧ (Rn G (opB G rk) ar J n S p X s).1 ≤ s.1 + cI n := by
  have hn := hW.1
  have ha := allN_lt hW
  intro n
  induction n using Nat.strongRecOn with
  | ind n ih =>
    intro S p X wt tr s r hI hun hb htr ht hf h0
    obtain ⟨f1, f2, f3, f4⟩ := fu_spec hW S
    rcases Nat.lt_or_ge (fu G S) (nd G) with hx | hx
    · -- a node is to be settled
      obtain ⟨g1, g2, g3, g4⟩ := f3 hx
      obtain ⟨A1, A2, A3⟩ := inv_alone hW hI hx
      have hun1 := un_one (show fu G S < 16 by omega) g2
      have hn1 : 1 ≤ n := by omega
      have hcI := cI_ge hn1
      have hW5 := hI.2.2.2.1
      have hwx : wt (fu G S) = -1 := by rw [hW5 _ (by omega), if_neg (fun y => by rw [g1] at y; cases y.1)]
      have hxn : ¬ nI (fu G S) = nI (nd G) := fun e => by have := (nI_eq (by omega) (by omega)).mp e; omega
      -- partners from u0 + 1 on
      have PL : ∀ (c u0 : Nat) (tr : Nat → Int32) (wtE : Nat → Int32) (s : Nat × Nat), u0 + 1 + c = nd G → fu G S ≤ u0 → tr (fu G S) = nI u0 → (wtE = wt ∨ ∃ u, u < nd G ∧ fu G S < u ∧ wt u = -1 ∧ wtE = va_up (va_up wt (fu G S) (nI u)) u (nI (fu G S))) → s.1 + c * dI n < 2 ^ 30 → s.2 < 2 ^ 60 → (s.1 = 0 → s.2 = 0) →
          ∃ d tr', d ≤ 1 + c * (1 + dI n) ∧ (∀ w, w < fu G S → tr' w = tr w) ∧ (∀ m, f_X12_findStables_L44 F (nI (nd G)) gv oa kk (m + d) (nI (fu G S)) tr wtE (nI s.1) (lN (rv s.2 60)) = f_X12_findStables_L44 F (nI (nd G)) gv oa kk m r tr' wt (nI (RnU (Rn G (opB G rk) ar J (n - 1)) (opB G rk) ar S (fu G S) p X c (u0 + 1) s).1) (lN (rv (RnU (Rn G (opB G rk) ar J (n - 1)) (opB G rk) ar S (fu G S) p X c (u0 + 1) s).2 60))) ∧ (RnU (Rn G (opB G rk) ar J (n - 1)) (opB G rk) ar S (fu G S) p X c (u0 + 1) s).2 < 2 ^ 60 ∧ ((RnU (Rn G (opB G rk) ar J (n - 1)) (opB G rk) ar S (fu G S) p X c (u0 + 1) s).1 = 0 → (RnU (Rn G (opB G rk) ar J (n - 1)) (opB G rk) ar S (fu G S) p X c (u0 + 1) s).2 = 0) ∧ (RnU (Rn G (opB G rk) ar J (n - 1)) (opB G rk) ar S (fu G S) p X c (u0 + 1) s).1 ≤ s.1 + c * dI n := by
        intro c
        induction c using Nat.strongRecOn with
        | ind c ihc =>
          intro u0 tr wtE s hc hu0 htx hE hts hfs h0s
          -- one turn of the loop: undo, look for the next
          have turn : ∀ m, f_X12_findStables_L44 F (nI (nd G)) gv oa kk (m + 1) (nI (fu G S)) tr wtE (nI s.1) (lN (rv s.2 60)) = f_X12_findStables_L133 (nI (nd G)) oa (nI (fu G S)) wt (fun v2_28 => (if nI (nd G) ≤ v2_28 then (f_X12_back F (nI (fu G S)) wt).bind (fun r_30 => (f_X12_findStables_L44 F (nI (nd G)) gv oa kk m r_30 tr wt (nI s.1) (lN (rv s.2 60)))) else wr 17 tr (nI (fu G S)) v2_28 (fun m_tried_32 => wr 16 wt (nI (fu G S)) v2_28 (fun m_with_33 => wr 16 m_with_33 v2_28 (nI (fu G S)) (fun m_with_34 => bd2 (f_X12_onward F (nI (fu G S) + 1) (nI (nd G)) m_with_34 m_tried_32) (fun r_35 m_tried_36 => (f_X12_findStables_L44 F (nI (nd G)) gv oa kk m r_35 m_tried_36 m_with_34 (nI s.1) (lN (rv s.2 60))))))))) F (nI u0 + 1) := by
            intro m
            rw [l44_s, if_neg (nI_pos (by omega)), if_neg hxn, rd_nI (by omega) (by decide)]
            simp only [jn]
            rcases hE with rfl | ⟨u, u1, u2, u3, rfl⟩
            · rw [hwx, if_pos (by decide), rd_nI (by omega) (by decide), htx, if_pos (nI_pos' (by omega)), rd_nI (by omega) (by decide), htx]
            · have e1 : va_up (va_up wt (fu G S) (nI u)) u (nI (fu G S)) (fu G S) = nI u := by rw [up_n (by omega), up_s]
              rw [e1, if_neg (nI_pos (by omega)), rd_nI (by omega) (by decide), e1, wr_nI (by omega) (by decide), wr_nI (by omega) (by decide)]
              have e2 : va_up (va_up (va_up (va_up wt (fu G S) (nI u)) u (nI (fu G S))) u (-1)) (fu G S) (-1) = wt := by
                funext y
                by_cases y1 : y = fu G S
                · rw [y1, up_s, hwx]
                · rw [up_n y1]
                  by_cases y2 : y = u
                  · rw [y2, up_s, u3]
                  · rw [up_n y2, up_n y2, up_n y1]
              rw [e2, rd_nI (by omega) (by decide), htx, if_pos (nI_pos' (by omega)), rd_nI (by omega) (by decide), htx]
          obtain ⟨hI1, hI2, hI3, hI4, hI5⟩ := hI
          have hsk : ∀ w, S.testBit w = true → fu G S < w → p w < w := fun w h1 h2 => by have := hI5 w h1 h2; omega
          have nx := fun (kk2 : Int32 → Option (Int32 × Int64 × (Nat → Int32) × (Nat → Int32) × (Nat → Int32))) => next_L hW har hoa hI4 hx hsk (kk := kk2) c F (u0 + 1) (by omega) (by omega) (by omega)
          obtain ⟨w, -, w2, w3, w4, w5⟩ := nx (fun _ => none)
          have nx2 : ∀ kk2 : Int32 → Option (Int32 × Int64 × (Nat → Int32) × (Nat → Int32) × (Nat → Int32)), f_X12_findStables_L133 (nI (nd G)) oa (nI (fu G S)) wt kk2 F (nI (u0 + 1)) = kk2 (nI w) := by
            intro kk2
            obtain ⟨w', x1, x2, x3, x4, x5⟩ := nx kk2
            have : w' = w := by
              rcases Nat.lt_trichotomy w' w with q | q | q
              · exact absurd (x5 (by omega)) (w4 w' x2 q)
              · exact q
              · exact absurd (w5 (by omega)) (x4 w w2 q)
            rw [x1, this]
          obtain ⟨d0, hd0⟩ : ∃ d, w = u0 + 1 + d := ⟨w - (u0 + 1), by omega⟩
          have hskip := RnU_skip (R := Rn G (opB G rk) ar J (n - 1)) (op := opB G rk) (ar := ar) (S := S) (x := fu G S) (p := p) (X := X) (c := c - d0) d0 (u0 + 1) s (fun y h1 h2 => w4 y h1 (by omega))
          rw [show d0 + (c - d0) = c by omega, ← hd0] at hskip
          rcases Nat.lt_or_ge w (nd G) with hwn | hwn
          · -- a partner
            obtain ⟨v1, v2⟩ := w5 hwn
            obtain ⟨P1, P2, P3, P4⟩ := inv_pair hW har ⟨hI1, hI2, hI3, hI4, hI5⟩ hx (u := w) (by omega) v1 v2
            have hun2 := un_two (S := S) (x := fu G S) (u := w) (by omega) (by omega) (by omega) g2 (by rw [dif_bit, allN_bit, decide_eq_true hwn, v1]; rfl)
            have hdn : dI n = cI (n - 2) := by unfold dI; rw [if_neg (by omega)]
            have hww : wt w = -1 := by rw [hI4 w (by omega), if_neg (fun y => by rw [v1] at y; cases y.1)]
            obtain ⟨c', hc'⟩ : ∃ c', c - d0 = c' + 1 := ⟨c - d0 - 1, by omega⟩
            obtain ⟨tr1, o1, o2, o3⟩ := onward_eq hF hW P1.2.2.2.1 hx P2 P3 (va_up tr (fu G S) (nI w))
            have hbk := back_eq hF hW P1.2.2.2.1 hx P2 P3 (by rw [P4]; omega) (by rw [P4]; omega)
            have hmul : dI n ≤ c * dI n := Nat.le_mul_of_pos_left _ (by omega)
            obtain ⟨c1, tr2, q1, q2, q3, q4, q5, q6⟩ := ih (n - 2) (by omega) _ _ _ _ tr1 s _ P1 (by omega) hbk o2 (by omega) hfs h0s
            -- the next state
            have hrn : Rn G (opB G rk) ar J (n - 2) (S ||| (2 ^ fu G S ||| 2 ^ w)) (va_up (va_up p (fu G S) w) w (fu G S)) (X ||| mkA (ar (fu G S) w)) s = Rn G (opB G rk) ar J (n - 1) (S ||| (2 ^ fu G S ||| 2 ^ w)) (va_up (va_up p (fu G S) w) w (fu G S)) (X ||| mkA (ar (fu G S) w)) s := by
              rw [Rn_fuel hW (n - 2) _ _ _ _ (by omega), show n - 2 + 1 = n - 1 by omega]
            rw [hrn] at q3 q4 q5 q6
            rw [hc', RnU_s, if_pos ⟨v1, v2⟩] at hskip
            generalize Rn G (opB G rk) ar J (n - 1) (S ||| (2 ^ fu G S ||| 2 ^ w)) (va_up (va_up p (fu G S) w) w (fu G S)) (X ||| mkA (ar (fu G S) w)) s = s1 at q3 q4 q5 q6 hskip
            have htr2 : tr2 (fu G S) = nI w := by rw [q2 _ P2, o3 _ (by omega), up_s]
            have hcc : (c' + 1) * dI n ≤ c * dI n := Nat.mul_le_mul_right _ (by omega)
            have hcc2 : (c' + 1) * (1 + dI n) ≤ c * (1 + dI n) := Nat.mul_le_mul_right _ (by omega)
            rw [Nat.add_mul] at hcc hcc2
            obtain ⟨d1, tr3, y1, y2, y3, y4, y5, y6⟩ := ihc c' (by omega) w tr2 _ s1 (by omega) (by omega) htr2 (Or.inr ⟨w, hwn, by omega, hww, rfl⟩) (by omega) q4 q5
            refine ⟨1 + c1 + d1, tr3, by omega, fun y hy => ?_, fun m => ?_, by rw [hskip]; exact y4, by rw [hskip]; exact y5, by rw [hskip]; omega⟩
            · rw [y2 y hy, q2 y (by omega), o3 y (by omega), up_n (by omega)]
            · rw [show m + (1 + c1 + d1) = (m + d1 + c1) + 1 by omega, turn, nI_1 u0, nx2, if_neg (fun h => by rw [nI_leI (by omega) (by omega)] at h; omega), wr_nI (by omega) (by decide), wr_nI (by omega) (by decide), wr_nI (by omega) (by decide), nI_1, o1, b2S, q3, y3, hskip]
          · -- no partner is left
            refine ⟨1, tr, by omega, fun _ _ => rfl, fun m => ?_, ?_, ?_, ?_⟩
            · rw [turn, nI_1 u0, nx2, if_pos ((nI_leI (by omega) (by omega)).mpr (by omega)), hb, bS, hskip, show c - d0 = 0 by omega]
              rfl
            · rw [hskip, show c - d0 = 0 by omega]; exact hfs
            · rw [hskip, show c - d0 = 0 by omega]; exact h0s
            · rw [hskip, show c - d0 = 0 by omega]; exact Nat.le_add_right _ _
      -- alone first
      obtain ⟨tr1, o1, o2, o3⟩ := onward_eq hF hW A1.2.2.2.1 hx A2 A3 (va_up tr (fu G S) (nI (fu G S)))
      have hbk := back_eq hF hW A1.2.2.2.1 hx A2 A3 (by rw [up_s]; exact Nat.le_refl _) (by rw [up_s]; exact hx)
      obtain ⟨c1, tr2, q1, q2, q3, q4, q5, q6⟩ := ih (n - 1) (by omega) _ _ _ _ tr1 s _ A1 (by omega) hbk o2 (by omega) hf h0
      have hRn : Rn G (opB G rk) ar J n S p X s = RnU (Rn G (opB G rk) ar J (n - 1)) (opB G rk) ar S (fu G S) p X (nd G - (fu G S + 1)) (fu G S + 1) (Rn G (opB G rk) ar J (n - 1) (S ||| 2 ^ fu G S) (va_up p (fu G S) (fu G S)) X s) := by
        have := Rn_s G (opB G rk) ar J (n - 1) S p X s
        rw [show n - 1 + 1 = n by omega, if_neg g3, ← g4] at this
        exact this
      generalize Rn G (opB G rk) ar J (n - 1) (S ||| 2 ^ fu G S) (va_up p (fu G S) (fu G S)) X s = s1 at q3 q4 q5 q6 hRn
      have htr2 : tr2 (fu G S) = nI (fu G S) := by rw [q2 _ A2, o3 _ (by omega), up_s]
      have hb1 : (nd G - (fu G S + 1)) * dI n ≤ 11 * dI n := Nat.mul_le_mul_right _ (by omega)
      have hb2 : (nd G - (fu G S + 1)) * (1 + dI n) ≤ 11 * (1 + dI n) := Nat.mul_le_mul_right _ (by omega)
      obtain ⟨d1, tr3, y1, y2, y3, y4, y5, y6⟩ := PL (nd G - (fu G S + 1)) (fu G S) tr2 wt s1 (by omega) (Nat.le_refl _) htr2 (Or.inl rfl) (by omega) q4 q5
      rw [hRn]
      refine ⟨1 + c1 + d1, tr3, by omega, fun y hy => ?_, fun m => ?_, y4, y5, by omega⟩
      · rw [y2 y hy, q2 y (by omega), o3 y (by omega), up_n (by omega)]
      · rw [show m + (1 + c1 + d1) = (m + d1 + c1) + 1 by omega, l44_s, if_neg (nI_pos (by omega)), if_neg hxn, rd_nI (by omega) (by decide)]
        simp only [jn]
        rw [hwx, if_pos (by decide), rd_nI (by omega) (by decide), htr hx, if_neg (by decide), wr_nI (by omega) (by decide), nI_1, o1, b2S, q3, y3]
    · -- all are settled
      have e : fu G S = nd G := by omega
      have hd := f4 e
      have hn0 : n = 0 := by
        unfold un at hun
        rw [hd, pcF_0] at hun
        exact hun.symm
      subst hn0
      obtain ⟨hI1, hI2, ⟨hI3, hI4⟩, hI5, hI6⟩ := hI
      have hall : ∀ v, v < nd G → S.testBit v = true := fun v hv => f2 v (by omega)
      have hpn : ∀ v, v < nd G → p v < nd G := fun v hv => by
        by_cases q : p v = v
        · omega
        · exact hI1 _ (hI2 v (hall v hv) q).1
      have hj := judge_eq hF hW hg har hoa hI5 hall hpn (fun v hv q => (hI2 v (hall v hv) q).2) hI3 (fun i hi => by
        rw [hI4 i hi]
        constructor
        · rintro ⟨v, v1, v2⟩; exact ⟨v, hI1 v v1, v2⟩
        · rintro ⟨v, v1, v2⟩; exact ⟨v, hall v v1, v2⟩) hJ (t := s.1) (f := s.2) (by omega) hf h0
      have hs : ((s.1, s.2) : Nat × Nat) = s := rfl
      rw [hs] at hj
      have hJ2 : (J p X s).2 < 2 ^ 60 ∧ ((J p X s).1 = 0 → (J p X s).2 = 0) ∧ (J p X s).1 ≤ s.1 + 1 := by
        by_cases q : Blk G rk (allN G) p
        · rw [(hJ p X s).1 q]; exact ⟨hf, h0, by omega⟩
        · rw [(hJ p X s).2 q]
          refine ⟨?_, fun y => ?_, Nat.le_refl _⟩
          · show (if X < s.2 then s.2 else X) < 2 ^ 60
            split <;> assumption
          · have : s.1 + 1 = 0 := y
            omega
      refine ⟨1, tr, Nat.le_refl _, fun _ _ => rfl, fun m => ?_, hJ2.1, hJ2.2.1, hJ2.2.2⟩
      rw [l44_s, e, if_neg (nI_pos (by omega)), if_pos rfl, hj, b2S]
      rw [e] at hb
      rw [hb, bS]
      rfl
