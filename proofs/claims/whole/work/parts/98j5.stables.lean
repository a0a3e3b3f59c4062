section
set_option maxRecDepth 100000 in
set_option maxHeartbeats 4000000 in
theorem x_stable (l : Launch) {F : Nat} (hF : 40000000 ≤ F) {E : Ev} {G : Gr} {rk : Nat → Nat → Int32} {o : Option Nat} {k a_x cells slots : Nat} {ws : va_W} (hk : k < 1000000) (hX : XI E G rk o k a_x cells slots ws) : ∃ h wc wr mc ms r w1 fs, h ≤ 25 ∧ CxI l yX11_stable wsX11_stable E [.ref a_x] h wc mc ms r w1 ∧ wc[0]? = some (a_x, .inr (11, fs)) ∧ ws.Perm (wc ++ wr) ∧ Ast G rk r ∧ ∀ uu, XI E G rk o k a_x (cells + mc) (slots + ms) (wr ++ w1 uu) := by
  have hX0 := hX
  have hF1 : 100000 ≤ F := by omega
  obtain ⟨ka, kb, u, g_nodes, g_made, g_living, g_age, g_oneEnd, g_otherEnd, g_weights, g_alive, g_joined, k_age, k_given, x_ways, x_sorts, x_counts, x_holds, x_joins, x_stables, LW, LS, LN, LH, LJ, LT, hka, hkb, hP, hQW, hQS, hQN, hQH, hQJ, hQT, hsub, hc, hs, hpm⟩ := hX
  obtain ⟨hW, hC, hl, rfl, rfl, hv, hg, hr⟩ := id hP
  have hn := hW.1
  by_cases hv2 : nd G ≤ 12
  rotate_left
  · have hg2 : ¬ g_nodes ≤ 12 := by rw [hC.1]; exact fun x => hv2 ((le12 hW).mp x)
    have hfE : f_X11_stableE g_nodes = some (-4) := if_neg hg2
    have hct := c_X11_stableE l E g_nodes g_made g_living (nI ka) (u 1) (u 2) (u 3) (u 4) (u 5) (u 0) (u 6) x_ways x_sorts x_counts x_holds x_joins x_stables a_x (-4) hfE
    exact ⟨0, _, ([aI E (u 1) 60 g_oneEnd, aI E (u 2) 60 g_otherEnd, aI E (u 3) 60 g_weights, aZ E (u 4) 60 g_alive, aI E (u 5) 16 g_joined, oC (u 6) 6 [.int (nI kb), .ref (u 7)], aI E (u 7) 256 k_given] : va_W) ++ (LW ++ (LS ++ (LN ++ (LH ++ (LJ ++ LT))))), 0, 0, _, _, _, by decide, CxI.t hct, rfl, fr1 (hpm) (pm_idx 9 [0, 1, 2, 3, 4, 5, 6, 7, 8] rfl (by decide +kernel) rfl), Or.inl ⟨hv2, rfl⟩, fun uu => hX0.pm (fr3 (fr1 (hpm) (pm_idx 9 [0, 1, 2, 3, 4, 5, 6, 7, 8] rfl (by decide +kernel) rfl)))⟩
  have hg2 : g_nodes ≤ 12 := by rw [hC.1]; exact (le12 hW).mpr hv2
  have hgk : RkO G rk k_given := fun v u h1 h2 => hg v u (by omega) (by omega)
  rcases hQT with ⟨rfl, rfl⟩ | ⟨uT, t_arcBetween, t_open, t_sooner, t_wanted, t_total, t_first, t_graphAge, t_ranksAge, rfl, rfl, j0, j9, j8⟩
  · obtain ⟨ro, u_t_total, u_t_first, u_t_arcBetween, u_t_open, u_t_sooner, u_t_wanted, hf, j1, ans⟩ := stableV_eq hF1 hW hC hgk (gage := nI ka) (kage := nI kb) (tga := -1) (tka := -1) (tot := 0) (fst := 0) (fun e => absurd e (nI_nm1 (a := ka) (by omega))) (fun _ => 0) (fun _ => 0) (fun _ => 0) (fun _ => 0) hv2
    have hf := (n_stable hg2).trans hf
    have hct := c_X11_stableN l E F g_nodes g_made g_living (nI ka) g_oneEnd (u 1) g_otherEnd (u 2) (u 3) g_alive (u 4) g_joined (u 5) (u 0) (nI kb) k_given (u 7) (u 6) x_ways x_sorts x_counts x_holds x_joins a_x ro u_t_total u_t_first (nI ka) (nI kb) u_t_arcBetween u_t_open u_t_sooner u_t_wanted hf
    exact ⟨24, _, ([aI E (u 3) 60 g_weights] : va_W) ++ (LW ++ (LS ++ (LN ++ (LH ++ LJ)))), 5, 554, _, _, _, by decide, CxI.n hct, rfl, fr1 (hpm.trans (q_T _ _ _ _ _ _ _)) (pm_idx 9 [0, 1, 2, 3, 5, 6, 7, 8, 4] rfl (by decide +kernel) rfl), ans, fun uu => ⟨ka, kb, u, g_nodes, g_made, g_living, nI ka, g_oneEnd, g_otherEnd, g_weights, g_alive, g_joined, nI kb, k_given, x_ways, x_sorts, x_counts, x_holds, x_joins, some (uu 0), LW, LS, LN, LH, LJ, blkT E (u 0) (u 6) uu u_t_arcBetween u_t_open u_t_sooner u_t_wanted u_t_total u_t_first (nI ka) (nI kb), hka, hkb, hP, hQW, hQS, hQN, hQH, hQJ, Or.inr ⟨uu, u_t_arcBetween, u_t_open, u_t_sooner, u_t_wanted, u_t_total, u_t_first, (nI ka), (nI kb), rfl, rfl, j1, Ag_self ka, Ag_self kb⟩, hsub, by simp only [pt] at hc ⊢; omega, by simp only [pt] at hs ⊢; omega, (fr2 (pm_idx 14 [1, 2, 3, 4, 0, 5, 6, 7, 8, 9, 10, 11, 12, 13] rfl (by decide +kernel) rfl)).trans (q_T _ _ _ _ _ _ _).symm⟩⟩
  · obtain ⟨ro, u_t_total, u_t_first, u_t_arcBetween, u_t_open, u_t_sooner, u_t_wanted, hf, j1, ans⟩ := stableV_eq hF1 hW hC hgk j0 t_arcBetween t_open t_sooner t_wanted hv2
    have hct := c_X11_stableS l E F g_nodes g_made g_living (nI ka) g_oneEnd (u 1) g_otherEnd (u 2) (u 3) g_alive (u 4) g_joined (u 5) (u 0) (nI kb) k_given (u 7) (u 6) x_ways x_sorts x_counts x_holds x_joins t_arcBetween (uT 1) t_open (uT 2) t_sooner (uT 3) t_wanted (uT 4) t_total t_first t_graphAge t_ranksAge (uT 0) a_x ro u_t_total u_t_first (nI ka) (nI kb) u_t_arcBetween u_t_open u_t_sooner u_t_wanted hf
    exact ⟨24, _, ([aI E (u 3) 60 g_weights] : va_W) ++ (LW ++ (LS ++ (LN ++ (LH ++ LJ)))), 0, 0, _, _, _, by decide, CxI.t hct, rfl, fr1 (hpm.trans (q_T _ _ _ _ _ _ _)) (pm_idx 14 [0, 1, 2, 3, 5, 6, 7, 8, 9, 10, 11, 12, 13, 4] rfl (by decide +kernel) rfl), ans, fun uu => ⟨ka, kb, u, g_nodes, g_made, g_living, nI ka, g_oneEnd, g_otherEnd, g_weights, g_alive, g_joined, nI kb, k_given, x_ways, x_sorts, x_counts, x_holds, x_joins, some (uT 0), LW, LS, LN, LH, LJ, blkT E (u 0) (u 6) uT u_t_arcBetween u_t_open u_t_sooner u_t_wanted u_t_total u_t_first (nI ka) (nI kb), hka, hkb, hP, hQW, hQS, hQN, hQH, hQJ, Or.inr ⟨uT, u_t_arcBetween, u_t_open, u_t_sooner, u_t_wanted, u_t_total, u_t_first, (nI ka), (nI kb), rfl, rfl, j1, Ag_self ka, Ag_self kb⟩, hsub, hc, hs, (fr2 (pm_idx 14 [1, 2, 3, 4, 0, 5, 6, 7, 8, 9, 10, 11, 12, 13] rfl (by decide +kernel) rfl)).trans (q_T _ _ _ _ _ _ _).symm⟩⟩
set_option maxRecDepth 100000 in
set_option maxHeartbeats 4000000 in
theorem x_stableMate (l : Launch) {F : Nat} (hF : 40000000 ≤ F) {E : Ev} {G : Gr} {rk : Nat → Nat → Int32} {o : Option Nat} {k a_x cells slots : Nat} {ws : va_W} (hk : k < 1000000) (hX : XI E G rk o k a_x cells slots ws) (p1 : Int32) : ∃ h wc wr mc ms r w1 fs, h ≤ 25 ∧ CxI l yX11_stableMate wsX11_stableMate E [.ref a_x, .int p1] h wc mc ms r w1 ∧ wc[0]? = some (a_x, .inr (11, fs)) ∧ ws.Perm (wc ++ wr) ∧ Asm G rk p1 r ∧ ∀ uu, XI E G rk o k a_x (cells + mc) (slots + ms) (wr ++ w1 uu) := by
  have hX0 := hX
  have hF1 : 100000 ≤ F := by omega
  obtain ⟨ka, kb, u, g_nodes, g_made, g_living, g_age, g_oneEnd, g_otherEnd, g_weights, g_alive, g_joined, k_age, k_given, x_ways, x_sorts, x_counts, x_holds, x_joins, x_stables, LW, LS, LN, LH, LJ, LT, hka, hkb, hP, hQW, hQS, hQN, hQH, hQJ, hQT, hsub, hc, hs, hpm⟩ := hX
  obtain ⟨hW, hC, hl, rfl, rfl, hv, hg, hr⟩ := id hP
  have hn := hW.1
  by_cases hv1 : f_X2_isNode p1 g_nodes = 0
  · have hfE : f_X11_stableMateE p1 g_nodes = some (-1) := if_pos hv1
    have hct := c_X11_stableMateE l E g_nodes g_made g_living (nI ka) (u 1) (u 2) (u 3) (u 4) (u 5) (u 0) (u 6) x_ways x_sorts x_counts x_holds x_joins x_stables a_x p1 (-1) hfE
    exact ⟨1, _, ([aI E (u 1) 60 g_oneEnd, aI E (u 2) 60 g_otherEnd, aI E (u 3) 60 g_weights, aZ E (u 4) 60 g_alive, aI E (u 5) 16 g_joined, oC (u 6) 6 [.int (nI kb), .ref (u 7)], aI E (u 7) 256 k_given] : va_W) ++ (LW ++ (LS ++ (LN ++ (LH ++ (LJ ++ LT))))), 0, 0, _, _, _, by decide, CxI.t hct, rfl, fr1 (hpm) (pm_idx 9 [0, 1, 2, 3, 4, 5, 6, 7, 8] rfl (by decide +kernel) rfl), Or.inl ⟨by rw [← hC.1]; exact hv1, rfl⟩, fun uu => hX0.pm (fr3 (fr1 (hpm) (pm_idx 9 [0, 1, 2, 3, 4, 5, 6, 7, 8] rfl (by decide +kernel) rfl)))⟩
  by_cases hv2 : nd G ≤ 12
  rotate_left
  · have hg2 : ¬ g_nodes ≤ 12 := by rw [hC.1]; exact fun x => hv2 ((le12 hW).mp x)
    have hfE : f_X11_stableMateE p1 g_nodes = some (-4) := by
      unfold f_X11_stableMateE
      rw [if_neg hv1, if_neg hg2]
    obtain ⟨v, hvn, rfl⟩ := node_of hn (by rw [← hC.1]; exact hv1)
    have hct := c_X11_stableMateE l E g_nodes g_made g_living (nI ka) (u 1) (u 2) (u 3) (u 4) (u 5) (u 0) (u 6) x_ways x_sorts x_counts x_holds x_joins x_stables a_x (nI v) (-4) hfE
    exact ⟨1, _, ([aI E (u 1) 60 g_oneEnd, aI E (u 2) 60 g_otherEnd, aI E (u 3) 60 g_weights, aZ E (u 4) 60 g_alive, aI E (u 5) 16 g_joined, oC (u 6) 6 [.int (nI kb), .ref (u 7)], aI E (u 7) 256 k_given] : va_W) ++ (LW ++ (LS ++ (LN ++ (LH ++ (LJ ++ LT))))), 0, 0, _, _, _, by decide, CxI.t hct, rfl, fr1 (hpm) (pm_idx 9 [0, 1, 2, 3, 4, 5, 6, 7, 8] rfl (by decide +kernel) rfl), Or.inr ⟨v, hvn, rfl, Or.inl ⟨hv2, rfl⟩⟩, fun uu => hX0.pm (fr3 (fr1 (hpm) (pm_idx 9 [0, 1, 2, 3, 4, 5, 6, 7, 8] rfl (by decide +kernel) rfl)))⟩
  have hg2 : g_nodes ≤ 12 := by rw [hC.1]; exact (le12 hW).mpr hv2
  have hgk : RkO G rk k_given := fun v u h1 h2 => hg v u (by omega) (by omega)
  rcases hQT with ⟨rfl, rfl⟩ | ⟨uT, t_arcBetween, t_open, t_sooner, t_wanted, t_total, t_first, t_graphAge, t_ranksAge, rfl, rfl, j0, j9, j8⟩
  · obtain ⟨ro, u_t_total, u_t_first, u_t_arcBetween, u_t_open, u_t_sooner, u_t_wanted, hf, j1, ans⟩ := stableMateV_eq hF hW hC hv hgk (gage := nI ka) (kage := nI kb) (tga := -1) (tka := -1) (tot := 0) (fst := 0) (fun e => absurd e (nI_nm1 (a := ka) (by omega))) (fun _ => 0) (fun _ => 0) (fun _ => 0) (fun _ => 0) p1 (by rw [← hC.1]; exact hv1) hv2
    have hf := (n_stableMate hv1 hg2).trans hf
    have hct := c_X11_stableMateN l E F g_nodes g_made g_living (nI ka) g_oneEnd (u 1) g_otherEnd (u 2) (u 3) g_alive (u 4) g_joined (u 5) (u 0) (nI kb) k_given (u 7) (u 6) x_ways x_sorts x_counts x_holds x_joins a_x p1 ro u_t_total u_t_first (nI ka) (nI kb) u_t_arcBetween u_t_open u_t_sooner u_t_wanted hf
    exact ⟨24, _, ([aI E (u 3) 60 g_weights] : va_W) ++ (LW ++ (LS ++ (LN ++ (LH ++ LJ)))), 5, 554, _, _, _, by decide, CxI.n hct, rfl, fr1 (hpm.trans (q_T _ _ _ _ _ _ _)) (pm_idx 9 [0, 1, 2, 3, 5, 6, 7, 8, 4] rfl (by decide +kernel) rfl), ans, fun uu => ⟨ka, kb, u, g_nodes, g_made, g_living, nI ka, g_oneEnd, g_otherEnd, g_weights, g_alive, g_joined, nI kb, k_given, x_ways, x_sorts, x_counts, x_holds, x_joins, some (uu 0), LW, LS, LN, LH, LJ, blkT E (u 0) (u 6) uu u_t_arcBetween u_t_open u_t_sooner u_t_wanted u_t_total u_t_first (nI ka) (nI kb), hka, hkb, hP, hQW, hQS, hQN, hQH, hQJ, Or.inr ⟨uu, u_t_arcBetween, u_t_open, u_t_sooner, u_t_wanted, u_t_total, u_t_first, (nI ka), (nI kb), rfl, rfl, j1, Ag_self ka, Ag_self kb⟩, hsub, by simp only [pt] at hc ⊢; omega, by simp only [pt] at hs ⊢; omega, (fr2 (pm_idx 14 [1, 2, 3, 4, 0, 5, 6, 7, 8, 9, 10, 11, 12, 13] rfl (by decide +kernel) rfl)).trans (q_T _ _ _ _ _ _ _).symm⟩⟩
  · obtain ⟨ro, u_t_total, u_t_first, u_t_arcBetween, u_t_open, u_t_sooner, u_t_wanted, hf, j1, ans⟩ := stableMateV_eq hF hW hC hv hgk j0 t_arcBetween t_open t_sooner t_wanted p1 (by rw [← hC.1]; exact hv1) hv2
    have hct := c_X11_stableMateS l E F g_nodes g_made g_living (nI ka) g_oneEnd (u 1) g_otherEnd (u 2) (u 3) g_alive (u 4) g_joined (u 5) (u 0) (nI kb) k_given (u 7) (u 6) x_ways x_sorts x_counts x_holds x_joins t_arcBetween (uT 1) t_open (uT 2) t_sooner (uT 3) t_wanted (uT 4) t_total t_first t_graphAge t_ranksAge (uT 0) a_x p1 ro u_t_total u_t_first (nI ka) (nI kb) u_t_arcBetween u_t_open u_t_sooner u_t_wanted hf
    exact ⟨24, _, ([aI E (u 3) 60 g_weights] : va_W) ++ (LW ++ (LS ++ (LN ++ (LH ++ LJ)))), 0, 0, _, _, _, by decide, CxI.t hct, rfl, fr1 (hpm.trans (q_T _ _ _ _ _ _ _)) (pm_idx 14 [0, 1, 2, 3, 5, 6, 7, 8, 9, 10, 11, 12, 13, 4] rfl (by decide +kernel) rfl), ans, fun uu => ⟨ka, kb, u, g_nodes, g_made, g_living, nI ka, g_oneEnd, g_otherEnd, g_weights, g_alive, g_joined, nI kb, k_given, x_ways, x_sorts, x_counts, x_holds, x_joins, some (uT 0), LW, LS, LN, LH, LJ, blkT E (u 0) (u 6) uT u_t_arcBetween u_t_open u_t_sooner u_t_wanted u_t_total u_t_first (nI ka) (nI kb), hka, hkb, hP, hQW, hQS, hQN, hQH, hQJ, Or.inr ⟨uT, u_t_arcBetween, u_t_open, u_t_sooner, u_t_wanted, u_t_total, u_t_first, (nI ka), (nI kb), rfl, rfl, j1, Ag_self ka, Ag_self kb⟩, hsub, hc, hs, (fr2 (pm_idx 14 [1, 2, 3, 4, 0, 5, 6, 7, 8, 9, 10, 11, 12, 13] rfl (by decide +kernel) rfl)).trans (q_T _ _ _ _ _ _ _).symm⟩⟩
end
