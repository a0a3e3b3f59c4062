/-! ===== the class settles ===== -/
theorem st_s (F : Nat) (g_nodes : Int32) (t_arcBetween : Nat → Int64) (t_open : Nat → Int32) (t_sooner : Nat → Int32) (n : Nat) (p1 : Int32) (p2 : Int64) (p3 : Int32) (t_total : Int32) (t_first : Int64) (t_wanted : Nat → Int32) : f_X9_settle F g_nodes t_arcBetween t_open t_sooner (n + 1) p1 p2 p3 t_total t_first t_wanted = (if p3 ≤ 16 then (if ((f_X2_allNodes g_nodes) &&& (p1 ^^^ (-1))) = 0 then some ((t_total + 1), (if p2 < t_first then t_first else p2), t_wanted) else ltt (f_X11_leastNode ((f_X2_allNodes g_nodes) &&& (p1 ^^^ (-1)))) (fun x_7 => rd 256 t_sooner (f_X11_cell x_7 x_7) (fun y_10 => wr 16 t_wanted x_7 y_10 (fun t_wanted_11 => (f_X9_isTempted F x_7 p1 g_nodes t_wanted_11).bind (fun r_12 => (jn (fun (t_total_14 : Int32) (t_first_15 : Int64) (t_wanted_16 : Nat → Int32) => rd 16 t_open x_7 (fun y_18 => (jn (fun (t_total_19 : Int32) (t_first_20 : Int64) (t_wanted_21 : Nat → Int32) => some (t_total_19, t_first_20, t_wanted_21)) (fun kk_195_21 => (f_X9_settle_L118 F g_nodes t_arcBetween t_sooner p1 p2 p3 (f_X9_settle F g_nodes t_arcBetween t_open t_sooner n) x_7 y_18 kk_195_21 F (x_7 + 1) t_wanted_16 t_total_14 t_first_15))))) (fun jj_100_16 => (if r_12 = 0 then bd3 ((f_X9_settle F g_nodes t_arcBetween t_open t_sooner n) (p1 ||| ((1 : Int32) <<< (x_7 &&& 31))) p2 (p3 + 1) t_total t_first t_wanted_11) (fun t_total_45 t_first_46 t_wanted_47 => (jj_100_16 t_total_45 t_first_46 t_wanted_47)) else (jj_100_16 t_total t_first t_wanted_11))))))))) else some (t_total, t_first, t_wanted)) := rfl
theorem or1_bit (S x v : Nat) : (S ||| 2 ^ x).testBit v = true ↔ S.testBit v = true ∨ x = v := by
  rw [Nat.testBit_or, Nat.testBit_two_pow, Bool.or_eq_true, decide_eq_true_eq]
theorem or2_bit (S x u v : Nat) : (S ||| (2 ^ x ||| 2 ^ u)).testBit v = true ↔ S.testBit v = true ∨ x = v ∨ u = v := by
  rw [Nat.testBit_or, Nat.testBit_or, Nat.testBit_two_pow, Nat.testBit_two_pow, Bool.or_eq_true, Bool.or_eq_true, decide_eq_true_eq, decide_eq_true_eq]
/-- all that a run of the search must know -/
def StO (G : Gr) (rk : Nat → Nat → Int32) (ar : Nat → Nat → Nat) (ab : Nat → Int64) (op so : Nat → Int32) : Prop := ArOK G ar ∧ ABO G ar ab ∧ (∀ w, w < nd G → OpO G rk op w) ∧ ∀ w q, w < nd G → q < nd G → SoO G rk so w q
def SetO (G : Gr) (rk : Nat → Nat → Int32) (ar : Nat → Nat → Nat) (J : (Nat → Nat) → Nat → Nat × Nat → Nat × Nat) (k : Nat) (rec : Int32 → Int64 → Int32 → Int32 → Int64 → (Nat → Int32) → Option (Int32 × Int64 × (Nat → Int32))) : Prop := ∀ (S : Nat) (p : Nat → Nat) (X d t f : Nat) (wt : Nat → Int32), (∀ v, S.testBit v = true → v < nd G) → (∀ v, S.testBit v = true → WtO G rk p wt v) → ¬ Blk G rk S p → X < 2 ^ 60 → f < 2 ^ 60 → d + un G S ≤ 16 → un G S ≤ k →
  ∃ t' f' wt', rec (nI S) (lN X) (nI d) (nI t) (lN f) wt = some (nI t', lN f', wt') ∧ (t', f') = Rn G (opB G rk) ar J k S p X (t, f) ∧ f' < 2 ^ 60 ∧ ∀ v, S.testBit v = true → wt' v = wt v
theorem settleL {F : Nat} (hF : 100000 ≤ F) {G : Gr} (hW : Wf G) {rk : Nat → Nat → Int32} {ar : Nat → Nat → Nat} {ab : Nat → Int64} {op so : Nat → Int32} (hO : StO G rk ar ab op so) {J : (Nat → Nat) → Nat → Nat × Nat → Nat × Nat} (hJ : JOK G rk J) {k : Nat} {rec : Int32 → Int64 → Int32 → Int32 → Int64 → (Nat → Int32) → Option (Int32 × Int64 × (Nat → Int32))} (hrec : SetO G rk ar J k rec)
    {S x d X M : Nat} {p : Nat → Nat} (hS : ∀ v, S.testBit v = true → v < nd G) (hx : x < nd G) (hxS : S.testBit x = false) (hM : M < 65536) (hMb : ∀ o, M.testBit o = true ↔ opB G rk x o = true) (hB : ¬ Blk G rk S p) (hX : X < 2 ^ 60) (hd : d + un G S ≤ 16) (hk : un G S ≤ k + 1) {kk : Int32 → Int64 → (Nat → Int32) → Option (Int32 × Int64 × (Nat → Int32))} :
    ∀ (c m u t f : Nat) (wt : Nat → Int32), u + c = nd G → x < u → c < m → f < 2 ^ 60 → (∀ v, S.testBit v = true → WtO G rk p wt v) → ∃ t' f' wt', f_X9_settle_L118 F (nI (nd G)) ab so (nI S) (lN X) (nI d) rec (nI x) (nI M) kk m (nI u) wt (nI t) (lN f) = kk (nI t') (lN f') wt' ∧ (t', f') = RnU (Rn G (opB G rk) ar J k) (opB G rk) ar S x p X c u (t, f) ∧ f' < 2 ^ 60 ∧ ∀ v, S.testBit v = true → wt' v = wt v := by
  have hn := hW.1
  have hm60 := hW.2.1
  have ha := allN_lt hW
  obtain ⟨har, hab, hop, hso⟩ := hO
  have hdx : (dif (allN G) S).testBit x = true := by rw [dif_bit, allN_bit, decide_eq_true hx, hxS]; rfl
  intro c
  induction c with
  | zero =>
    intro m u t f wt e1 hxu hm hf hw
    obtain ⟨m, rfl⟩ : ∃ k, m = k + 1 := ⟨m - 1, by omega⟩
    refine ⟨t, f, wt, ?_, rfl, hf, fun _ _ => rfl⟩
    unfold f_X9_settle_L118
    rw [if_pos (by rw [nI_leI (by omega) (by omega)]; omega)]
  | succ c ih =>
    intro m u t f wt e1 hxu hm hf hw
    obtain ⟨m, rfl⟩ : ∃ k, m = k + 1 := ⟨m - 1, by omega⟩
    have hdl := dif_le (allN G) S
    have hand : M &&& dif (allN G) S < 65536 := Nat.lt_of_le_of_lt Nat.and_le_left hM
    unfold f_X9_settle_L118
    rw [if_neg (fun h => by rw [nI_leI (by omega) (by omega)] at h; omega), allNodes_eq hW, nI_dif, nx_and, has_nI (by omega) (by omega), nI_1, RnU_s]
    by_cases q : S.testBit u = false ∧ opB G rk x u = true
    · have hbit : (M &&& dif (allN G) S).testBit u = true := by
        rw [Nat.testBit_and, (hMb u).mpr q.2, dif_bit, allN_bit, decide_eq_true (show u < nd G by omega), q.1]; rfl
      rw [if_pos hbit, if_neg (by decide), if_pos q]
      have hxu' : x ≠ u := by omega
      obtain ⟨M1, a1, a2, a3⟩ := hso x u hx (by omega)
      obtain ⟨M2, b1, b2, b3⟩ := hso u x (by omega) hx
      -- the new state
      generalize hp2 : va_up (va_up p x u) u x = p2
      have px : p2 x = u := by rw [← hp2, up_n hxu', up_s]
      have pu : p2 u = x := by rw [← hp2, up_s]
      have pS : ∀ v, S.testBit v = true → p2 v = p v := fun v hv => by
        have e1 : v ≠ u := fun e => by rw [e, q.1] at hv; cases hv
        have e2 : v ≠ x := fun e => by rw [e, hxS] at hv; cases hv
        rw [← hp2, up_n e1, up_n e2]
      generalize hw2 : va_up (va_up wt x (nI M1)) u (nI M2) = wt2
      have wS : ∀ v, S.testBit v = true → wt2 v = wt v := fun v hv => by
        have e1 : v ≠ u := fun e => by rw [e, q.1] at hv; cases hv
        have e2 : v ≠ x := fun e => by rw [e, hxS] at hv; cases hv
        rw [← hw2, up_n e1, up_n e2]
      have w2S : ∀ v, S.testBit v = true → WtO G rk p2 wt2 v := fun v hv => by
        obtain ⟨N, n1, n2, n3⟩ := hw v hv
        refine ⟨N, n1, by rw [wS v hv, n2], fun o => ?_⟩
        rw [n3]
        unfold Wn
        rw [pS v hv]
      have w2x : WtO G rk p2 wt2 x := by
        refine ⟨M1, a1, by rw [← hw2, up_n hxu', up_s], fun o => ?_⟩
        rw [a3]
        unfold Wn
        rw [px]
      have w2u : WtO G rk p2 wt2 u := by
        refine ⟨M2, b1, by rw [← hw2, up_s], fun o => ?_⟩
        rw [b3]
        unfold Wn
        rw [pu]
      obtain ⟨r1, r2, r3⟩ := tempt_eq hF hW hx hS w2x w2S
      obtain ⟨s1, s2, s3⟩ := tempt_eq hF hW (show u < nd G by omega) hS w2u w2S
      have hcan : f_X9_canPair F (nI x) (nI u) (nI S) (nI (nd G)) so wt = some ((if r1 = 0 ∧ s1 = 0 then 1 else 0), wt2) := by
        unfold f_X9_canPair
        rw [cell_nI, rd_nI (by omega) (by decide), a2, wr_nI (by omega) (by decide), cell_nI, rd_nI (by omega) (by decide), b2, wr_nI (by omega) (by decide), hw2, r2, bS]
        by_cases z : r1 = 0
        · rw [if_pos z, s2, bS]
          by_cases z2 : s1 = 0
          · rw [if_pos z2, if_pos ⟨z, z2⟩]
          · rw [if_neg z2, if_neg (fun y => z2 y.2)]
        · rw [if_neg z, if_neg (fun y => z y.1)]
      rw [hcan, b2S]
      have hS2 : ∀ v, (S ||| (2 ^ x ||| 2 ^ u)).testBit v = true → v < nd G := fun v hv => by
        rcases (or2_bit S x u v).mp hv with y | y | y
        · exact hS v y
        · omega
        · omega
      have hblk : Blk G rk (S ||| (2 ^ x ||| 2 ^ u)) p2 ↔ ¬ (r1 = 0 ∧ s1 = 0) := by
        rw [r3, s3]
        constructor
        · rintro ⟨v, o, h1, h2, h3, h4, h5⟩ ⟨n1, n2⟩
          have hne := (opB_in hW h3).2.2
          -- neither of the two blocks with the other
          have noxu : ∀ a b, a = x → b = u → Wn rk p2 a b → False := by
            rintro a b rfl rfl hh
            rcases hh with hh | hh
            · rw [px] at hh; omega
            · rw [px] at hh; rw [Int32.lt_iff_toInt_lt] at hh; omega
          rcases (or2_bit S x u v).mp h1 with y | y | y
          · rcases (or2_bit S x u o).mp h2 with z | z | z
            · refine hB ⟨v, o, y, z, h3, ?_, ?_⟩
              · unfold Wn at h4 ⊢; rw [pS v y] at h4; exact h4
              · unfold Wn at h5 ⊢; rw [pS o z] at h5; exact h5
            · subst z; exact n1 ⟨v, y, by rw [opB_sym hW]; exact h3, h5, h4⟩
            · subst z; exact n2 ⟨v, y, by rw [opB_sym hW]; exact h3, h5, h4⟩
          · rcases (or2_bit S x u o).mp h2 with z | z | z
            · subst y; exact n1 ⟨o, z, h3, h4, h5⟩
            · omega
            · exact noxu v o y.symm z.symm h4
          · rcases (or2_bit S x u o).mp h2 with z | z | z
            · subst y; exact n2 ⟨o, z, h3, h4, h5⟩
            · exact noxu o v z.symm y.symm h5
            · omega
        · intro hh
          by_cases y : ∃ o, S.testBit o = true ∧ opB G rk x o = true ∧ Wn rk p2 x o ∧ Wn rk p2 o x
          · obtain ⟨o, y1, y2, y3, y4⟩ := y
            exact ⟨x, o, (or2_bit S x u x).mpr (Or.inr (Or.inl rfl)), (or2_bit S x u o).mpr (Or.inl y1), y2, y3, y4⟩
          · by_cases z : ∃ o, S.testBit o = true ∧ opB G rk u o = true ∧ Wn rk p2 u o ∧ Wn rk p2 o u
            · obtain ⟨o, z1, z2, z3, z4⟩ := z
              exact ⟨u, o, (or2_bit S x u u).mpr (Or.inr (Or.inr rfl)), (or2_bit S x u o).mpr (Or.inl z1), z2, z3, z4⟩
            · exact absurd ⟨y, z⟩ hh
      have hnext : ∀ t1 f1 wt3, f1 < 2 ^ 60 → (∀ v, S.testBit v = true → wt3 v = wt v) → ∃ t' f' wt', f_X9_settle_L118 F (nI (nd G)) ab so (nI S) (lN X) (nI d) rec (nI x) (nI M) kk m (nI (u + 1)) wt3 (nI t1) (lN f1) = kk (nI t') (lN f') wt' ∧ (t', f') = RnU (Rn G (opB G rk) ar J k) (opB G rk) ar S x p X c (u + 1) (t1, f1) ∧ f' < 2 ^ 60 ∧ ∀ v, S.testBit v = true → wt' v = wt v := by
        intro t1 f1 wt3 h1 h2
        obtain ⟨t', f', wt', g1, g2, g3, g4⟩ := ih m (u + 1) t1 f1 wt3 (by omega) (by omega) (by omega) h1 (fun v hv => by
          obtain ⟨N, n1, n2, n3⟩ := hw v hv
          exact ⟨N, n1, by rw [h2 v hv, n2], n3⟩)
        exact ⟨t', f', wt', g1, g2, g3, fun v hv => by rw [g4 v hv, h2 v hv]⟩
      by_cases z : r1 = 0 ∧ s1 = 0
      · rw [if_pos z, if_neg (by decide)]
        simp only [ltt]
        obtain ⟨hadj, -, -⟩ := opB_iff.mp q.2
        obtain ⟨ar1, ar2, ar3, -⟩ := har x u hadj
        have hmk : mkA (ar x u) < 2 ^ 60 := mkA_lt
        rw [shl_nI (by omega), shl_nI (by omega), nI_or, cell_nI, rd_nI (by omega) (by decide), hab x u hadj, nI_or, nI_1]
        have hor : lN X ||| lN (mkA (ar x u)) = lN (X ||| mkA (ar x u)) := wb_or (by omega) (by omega)
        rw [hor]
        have hun := un_two (S := S) (x := x) (u := u) (by omega) (by omega) hxu' hdx (by rw [dif_bit, allN_bit, decide_eq_true (show u < nd G by omega), q.1]; rfl)
        obtain ⟨t1, f1, wt3, g1, g2, g3, g4⟩ := hrec (S ||| (2 ^ x ||| 2 ^ u)) p2 (X ||| mkA (ar x u)) (d + 1) t f wt2 hS2 (fun v hv => by
          rcases (or2_bit S x u v).mp hv with y | y | y
          · exact w2S v y
          · subst y; exact w2x
          · subst y; exact w2u) (fun y => (hblk.mp y) z) (Nat.or_lt_two_pow hX hmk) hf (by omega) (by omega)
        rw [g1, b3S, ← g2]
        exact hnext t1 f1 wt3 g3 (fun v hv => by rw [g4 v ((or2_bit S x u v).mpr (Or.inl hv)), wS v hv])
      · rw [if_neg z, if_pos rfl, Rn_blk hW hJ k _ p2 _ (t, f) hS2 (hblk.mpr z)]
        exact hnext t f wt2 hf wS
    · have hbit : ¬ (M &&& dif (allN G) S).testBit u = true := by
        intro y
        rw [Nat.testBit_and, Bool.and_eq_true, hMb, dif_bit, Bool.and_eq_true, Bool.not_eq_true'] at y
        exact q ⟨y.2.2, y.1⟩
      rw [if_neg hbit, if_pos rfl, if_neg q]
      exact ih m (u + 1) t f wt (by omega) (by omega) (by omega) hf hw
theorem settle_eq {F : Nat} (hF : 100000 ≤ F) {G : Gr} (hW : Wf G) {rk : Nat → Nat → Int32} {ar : Nat → Nat → Nat} {ab : Nat → Int64} {op so : Nat → Int32} (hO : StO G rk ar ab op so) {J : (Nat → Nat) → Nat → Nat × Nat → Nat × Nat} (hJ : JOK G rk J) : ∀ k, SetO G rk ar J k (f_X9_settle F (nI (nd G)) ab op so (k + 1)) := by
  have hn := hW.1
  have ha := allN_lt hW
  have leaf : ∀ (S : Nat) (p : Nat → Nat) (X t f : Nat), dif (allN G) S = 0 → ¬ Blk G rk S p → J p X (t, f) = (t + 1, if X < f then f else X) := by
    intro S p X t f h0 hB
    refine (hJ p X (t, f)).2 (fun hb => hB ?_)
    obtain ⟨v, o, h1, h2, h3⟩ := hb
    exact ⟨v, o, dif0 h0 h1, dif0 h0 h2, h3⟩
  have fin : ∀ (X t f : Nat) (wt : Nat → Int32), X < 2 ^ 60 → f < 2 ^ 60 → (some (nI t + 1, (if lN X < lN f then lN f else lN X), wt) : Option (Int32 × Int64 × (Nat → Int32))) = some (nI (t + 1), lN (if X < f then f else X), wt) := by
    intro X t f wt hX hf
    rw [nI_1]
    by_cases c : X < f
    · rw [if_pos c, if_pos ((pk_lLT (by omega) (by omega)).mpr c)]
    · rw [if_neg c, if_neg (fun y => c ((pk_lLT (by omega) (by omega)).mp y))]
  intro k
  induction k with
  | zero =>
    intro S p X d t f wt hS hw hB hX hf hd hk
    have h0 : dif (allN G) S = 0 := by
      rcases Nat.eq_zero_or_pos (dif (allN G) S) with c | c
      · exact c
      · have := pcF_pos (Nat.lt_of_le_of_lt (dif_le (allN G) S) ha) c
        unfold un at hk
        omega
    rw [st_s]
    simp only [jn]
    rw [if_pos (show nI d ≤ (16 : Int32) from (nI_leI (b := 16) (by omega) (by decide)).mpr (by omega)), allNodes_eq hW, nI_dif, h0, if_pos (show nI 0 = (0 : Int32) from rfl), fin X t f wt hX hf]
    exact ⟨t + 1, _, wt, rfl, (leaf S p X t f h0 hB).symm, by split <;> assumption, fun _ _ => rfl⟩
  | succ k ih =>
    intro S p X d t f wt hS hw hB hX hf hd hk
    rw [st_s]
    simp only [jn]
    rw [if_pos (show nI d ≤ (16 : Int32) from (nI_leI (b := 16) (by omega) (by decide)).mpr (by omega)), allNodes_eq hW, nI_dif, Rn_s]
    by_cases h0 : dif (allN G) S = 0
    · rw [h0, if_pos (show nI 0 = (0 : Int32) from rfl), if_pos rfl, fin X t f wt hX hf]
      exact ⟨t + 1, _, wt, rfl, (leaf S p X t f h0 hB).symm, by split <;> assumption, fun _ _ => rfl⟩
    · have hdl := dif_le (allN G) S
      obtain ⟨l1, l2, l3, -⟩ := low_un hW h0
      rw [if_neg (nI_ne0 (Nat.pos_of_ne_zero h0) (by omega)), if_neg h0]
      simp only [ltt]
      rw [least_nI (Nat.pos_of_ne_zero h0) (by omega)]
      generalize low 16 (dif (allN G) S) = x at l1 l2 l3
      obtain ⟨har, hab, hop, hso⟩ := hO
      obtain ⟨M1, a1, a2, a3⟩ := hso x x l1 l1
      obtain ⟨M, m1, m2, m3⟩ := hop x l1
      rw [cell_nI, rd_nI (by omega) (by decide), a2, wr_nI (by omega) (by decide), rd_nI (by omega) (by decide), m2]
      generalize hp1 : va_up p x x = p1
      have px : p1 x = x := by rw [← hp1, up_s]
      have pS : ∀ v, S.testBit v = true → p1 v = p v := fun v hv => by
        have e2 : v ≠ x := fun e => by rw [e, l3] at hv; cases hv
        rw [← hp1, up_n e2]
      generalize hw1 : va_up wt x (nI M1) = wt1
      have wS : ∀ v, S.testBit v = true → wt1 v = wt v := fun v hv => by
        have e2 : v ≠ x := fun e => by rw [e, l3] at hv; cases hv
        rw [← hw1, up_n e2]
      have w1S : ∀ v, S.testBit v = true → WtO G rk p1 wt1 v := fun v hv => by
        obtain ⟨N, n1, n2, n3⟩ := hw v hv
        refine ⟨N, n1, by rw [wS v hv, n2], fun o => ?_⟩
        rw [n3]
        unfold Wn
        rw [pS v hv]
      have w1x : WtO G rk p1 wt1 x := by
        refine ⟨M1, a1, by rw [← hw1, up_s], fun o => ?_⟩
        rw [a3]
        unfold Wn
        rw [px]
      obtain ⟨r, r1, r2⟩ := tempt_eq hF hW l1 hS w1x w1S
      rw [r1, bS]
      have hS2 : ∀ v, (S ||| 2 ^ x).testBit v = true → v < nd G := fun v hv => by
        rcases (or1_bit S x v).mp hv with y | y
        · exact hS v y
        · omega
      have hblk : Blk G rk (S ||| 2 ^ x) p1 ↔ ¬ r = 0 := by
        rw [r2]
        constructor
        · rintro ⟨v, o, h1, h2, h3, h4, h5⟩ n1
          have hne := (opB_in hW h3).2.2
          rcases (or1_bit S x v).mp h1 with y | y
          · rcases (or1_bit S x o).mp h2 with z | z
            · refine hB ⟨v, o, y, z, h3, ?_, ?_⟩
              · unfold Wn at h4 ⊢; rw [pS v y] at h4; exact h4
              · unfold Wn at h5 ⊢; rw [pS o z] at h5; exact h5
            · subst z; exact n1 ⟨v, y, by rw [opB_sym hW]; exact h3, h5, h4⟩
          · rcases (or1_bit S x o).mp h2 with z | z
            · subst y; exact n1 ⟨o, z, h3, h4, h5⟩
            · omega
        · intro hh
          have := Classical.byContradiction hh
          obtain ⟨o, y1, y2, y3, y4⟩ := this
          exact ⟨x, o, (or1_bit S x x).mpr (Or.inr rfl), (or1_bit S x o).mpr (Or.inl y1), y2, y3, y4⟩
      have go : ∀ t1 f1 wt2, f1 < 2 ^ 60 → (∀ v, S.testBit v = true → wt2 v = wt v) → ∃ t' f' wt', f_X9_settle_L118 F (nI (nd G)) ab so (nI S) (lN X) (nI d) (f_X9_settle F (nI (nd G)) ab op so (k + 1)) (nI x) (nI M) (fun a b c => some (a, b, c)) F (nI x + 1) wt2 (nI t1) (lN f1) = some (nI t', lN f', wt') ∧ (t', f') = RnU (Rn G (opB G rk) ar J k) (opB G rk) ar S x p X (nd G - (x + 1)) (x + 1) (t1, f1) ∧ f' < 2 ^ 60 ∧ ∀ v, S.testBit v = true → wt' v = wt v := by
        intro t1 f1 wt2 h1 h2
        rw [nI_1]
        obtain ⟨t', f', wt', g1, g2, g3, g4⟩ := settleL hF hW ⟨har, hab, hop, hso⟩ hJ ih hS l1 l3 m1 m3 hB hX hd hk (kk := fun a b c => some (a, b, c)) (nd G - (x + 1)) F (x + 1) t1 f1 wt2 (by omega) (by omega) (by omega) h1 (fun v hv => by
          obtain ⟨N, n1, n2, n3⟩ := hw v hv
          exact ⟨N, n1, by rw [h2 v hv, n2], n3⟩)
        exact ⟨t', f', wt', g1, g2, g3, fun v hv => by rw [g4 v hv, h2 v hv]⟩
      by_cases z : r = 0
      · have hun := un_one (show x < 16 by omega) l2
        rw [if_pos z, shl_nI (by omega), nI_or, nI_1 d]
        obtain ⟨t1, f1, wt2, g1, g2, g3, g4⟩ := ih (S ||| 2 ^ x) p1 X (d + 1) t f wt1 hS2 (fun v hv => by
          rcases (or1_bit S x v).mp hv with y | y
          · exact w1S v y
          · subst y; exact w1x) (fun y => (hblk.mp y) z) hX hf (by omega) (by omega)
        rw [g1, b3S, ← g2, rd_nI (by omega) (by decide), m2]
        exact go t1 f1 wt2 g3 (fun v hv => by rw [g4 v ((or1_bit S x v).mpr (Or.inl hv)), wS v hv])
      · rw [if_neg z, Rn_blk hW hJ k _ p1 X (t, f) hS2 (hblk.mpr z)]
        exact go t f wt1 hf wS
/-- what the class knows of the stable pairs -/
def TO (G : Gr) (rk : Nat → Nat → Int32) (t : Int32) (f : Int64) : Prop := ∀ ar J, ArOK G ar → JOK G rk J → ∃ t' f', t = nI t' ∧ f = lN f' ∧ f' < 2 ^ 60 ∧ (t', f') = Rn G (opB G rk) ar J 17 0 (fun v => v) 0 (0, 0)
theorem stables_eq {F : Nat} (hF : 100000 ≤ F) {G : Gr} (hW : Wf G) {nodes made : Int32} {one oth wts alv joined : Nat → Int32} (hC : CG G nodes made one oth wts alv joined) {rk : Nat → Nat → Int32} {gv : Nat → Int32} (hg : RkO G rk gv) {gage kage tga tka : Int32} (hne : tga ≠ gage ∨ tka ≠ kage) (ab : Nat → Int64) (op so wt : Nat → Int32) (tt0 : Int32) (tf : Int64) :
    ∃ t f ab' op' so' wt', f_X9_refresh F nodes made gage one oth alv joined kage gv ab op so wt tt0 tf tga tka = some (t, f, gage, kage, ab', op', so', wt') ∧ TO G rk t f := by
  have hn := hW.1
  have hj := hC.2.2.2
  have hnod := hC.1
  subst hnod
  have body : ∃ t f ab' op' so' wt', ((f_X9_findArcs F made one oth alv ab).bind (fun t_arcBetween_2 => (f_X9_refresh_L56 F (nI (nd G)) joined gv (fun t_open_4 => (f_X9_refresh_L86 F (nI (nd G)) gv t_open_4 (fun t_sooner_5 => bd3 (f_X9_settle F (nI (nd G)) t_arcBetween_2 t_open_4 t_sooner_5 18 0 (0 : Int64) 0 0 (0 : Int64) wt) (fun t_total_6 t_first_7 t_wanted_8 => some (t_total_6, t_first_7, gage, kage, t_arcBetween_2, t_open_4, t_sooner_5, t_wanted_8))) F 0 so)) F 0 op))) = some (t, f, gage, kage, ab', op', so', wt') ∧ TO G rk t f := by
    obtain ⟨ar0, har0⟩ := ar_ex hW
    obtain ⟨J0, hJ0⟩ := J_ex G rk
    obtain ⟨ab1, a1, a2⟩ := findArcs_eq hF hW hC har0 ab
    rw [a1, bS, z32]
    obtain ⟨op1, b1, b2⟩ := opens_L hF hW hj hg (kk := fun t_open_4 => (f_X9_refresh_L86 F (nI (nd G)) gv t_open_4 (fun t_sooner_5 => bd3 (f_X9_settle F (nI (nd G)) ab1 t_open_4 t_sooner_5 18 (nI 0) (0 : Int64) (nI 0) (nI 0) (0 : Int64) wt) (fun t_total_6 t_first_7 t_wanted_8 => some (t_total_6, t_first_7, gage, kage, ab1, t_open_4, t_sooner_5, t_wanted_8))) F (nI 0) so)) (nd G) F 0 op (by omega) (by omega) (fun w hw => by omega)
    rw [b1]
    obtain ⟨so1, c1, c2⟩ := sooners_L hF hW hg b2 (kk := fun t_sooner_5 => bd3 (f_X9_settle F (nI (nd G)) ab1 op1 t_sooner_5 18 (nI 0) (0 : Int64) (nI 0) (nI 0) (0 : Int64) wt) (fun t_total_6 t_first_7 t_wanted_8 => some (t_total_6, t_first_7, gage, kage, ab1, op1, t_sooner_5, t_wanted_8))) (nd G) F 0 so (by omega) (by omega) (fun w q hw => by omega)
    rw [c1]
    have run : ∀ ar J, ArOK G ar → JOK G rk J → ∃ t' f' wt', f_X9_settle F (nI (nd G)) ab1 op1 so1 (17 + 1) (nI 0) (lN 0) (nI 0) (nI 0) (lN 0) wt = some (nI t', lN f', wt') ∧ (t', f') = Rn G (opB G rk) ar J 17 0 (fun v => v) 0 (0, 0) ∧ f' < 2 ^ 60 := by
      intro ar J har hJ
      have hab : ABO G ar ab1 := fun a b h => by
        rw [a2 a b h]
        obtain ⟨x1, x2, x3, x4⟩ := har0 a b h
        obtain ⟨y1, y2, y3, y4⟩ := har a b h
        have e1 := x4 _ y1 y2 y3
        have e2 := y4 _ x1 x2 x3
        rw [show ar0 a b = ar a b by omega]
      have hz : ∀ v, (0 : Nat).testBit v = true → False := fun v h => by rw [Nat.zero_testBit] at h; cases h
      have hun : un G 0 ≤ 16 := pcF_le 16 _
      obtain ⟨t', f', wt', g1, g2, g3, -⟩ := settle_eq hF hW ⟨har, hab, b2, c2⟩ hJ 17 0 (fun v => v) 0 0 0 0 wt (fun v h => absurd h (fun y => hz v y)) (fun v h => absurd h (fun y => hz v y)) (fun ⟨v, o, h, _⟩ => hz v h) (by decide) (by decide) (by omega) (by omega)
      exact ⟨t', f', wt', g1, g2, g3⟩
    obtain ⟨t', f', wt', g1, -, -⟩ := run ar0 J0 har0 hJ0
    have g1' : f_X9_settle F (nI (nd G)) ab1 op1 so1 18 (nI 0) (0 : Int64) (nI 0) (nI 0) (0 : Int64) wt = some (nI t', lN f', wt') := g1
    rw [g1', b3S]
    refine ⟨_, _, _, _, _, _, rfl, fun ar J har hJ => ?_⟩
    obtain ⟨t2, f2, wt2, k1, k2, k3⟩ := run ar J har hJ
    rw [g1] at k1
    have k4 := Option.some.inj k1
    have e1 : nI t' = nI t2 := congrArg Prod.fst k4
    have e2 : lN f' = lN f2 := congrArg Prod.fst (congrArg Prod.snd k4)
    exact ⟨t2, f2, e1, e2, k3, k2⟩
  unfold f_X9_refresh
  simp only [jn]
  by_cases c : tga = gage
  · rcases hne with h | h
    · exact absurd c h
    · rw [if_pos c, if_neg h]
      exact body
  · rw [if_neg c]
    exact body
