section
def ot (f : Bool) (o : Option Nat) : Option Nat := if f = true then none else o
theorem ag_le (ka : Nat) (f : Bool) : ag ka f ≤ ka + 1 := by
  unfold ag
  split <;> omega
theorem stNode_n (G : Gr) : (stNode G).2.1 = false → (stNode G).2.2 = G := by
  unfold stNode
  (repeat' split) <;> intro h <;> first | rfl | cases h
theorem stArc_n (G : Gr) (p1 p2 p3 : Int32) : (stArc G p1 p2 p3).2.1 = false → (stArc G p1 p2 p3).2.2 = G := by
  unfold stArc
  (repeat' split) <;> intro h <;> first | rfl | cases h
theorem stCut_n (G : Gr) (p : Int32) : (stCut G p).2.1 = false → (stCut G p).2.2 = G := by
  unfold stCut
  (repeat' split) <;> intro h <;> first | rfl | cases h
theorem stRank_n (G : Gr) (rk : Nat → Nat → Int32) (p1 p2 p3 : Int32) (h : okR G p1 p2 p3 = false) : (stRank G rk p1 p2 p3).2 = rk := by
  unfold stRank
  rw [h]
  rfl
theorem QW_ag {E : Ev} {G G' : Gr} {ka a_g : Nat} {x : Option Nat} {L : va_W} {f : Bool} (hst : f = false → G' = G) (hk : ka + 1 < 2000000000) (h : QW E G ka a_g x L) : QW E G' (ag ka f) a_g x L := by
  cases f with
  | false => rw [hst rfl]; exact h
  | true => exact QW_next hk h
theorem QS_ag {E : Ev} {G G' : Gr} {ka a_g : Nat} {x : Option Nat} {L : va_W} {f : Bool} (hst : f = false → G' = G) (hk : ka + 1 < 2000000000) (h : QS E G ka a_g x L) : QS E G' (ag ka f) a_g x L := by
  cases f with
  | false => rw [hst rfl]; exact h
  | true => exact QS_next hk h
theorem QN_ag {E : Ev} {G G' : Gr} {ka a_g : Nat} {x : Option Nat} {L : va_W} {f : Bool} (hst : f = false → G' = G) (hk : ka + 1 < 2000000000) (h : QN E G ka a_g x L) : QN E G' (ag ka f) a_g x L := by
  cases f with
  | false => rw [hst rfl]; exact h
  | true => exact QN_next hk h
theorem QH_ag {E : Ev} {G G' : Gr} {ka a_g : Nat} {x : Option Nat} {L : va_W} {f : Bool} (hst : f = false → G' = G) (hk : ka + 1 < 2000000000) (h : QH E G ka a_g x L) : QH E G' (ag ka f) a_g x L := by
  cases f with
  | false => rw [hst rfl]; exact h
  | true => exact QH_next hk h
theorem QJ_ag {E : Ev} {G G' : Gr} {o : Option Nat} {ka a_g : Nat} {x : Option Nat} {L : va_W} {f : Bool} (hst : f = false → G' = G) (hk : ka + 1 < 2000000000) (h : QJ E G o ka a_g x L) : QJ E G' (ot f o) (ag ka f) a_g x L := by
  cases f with
  | false => rw [hst rfl]; exact h
  | true => exact QJ_next hk h
theorem QT_ag {E : Ev} {G G' : Gr} {rk : Nat → Nat → Int32} {ka kb a_g a_k : Nat} {x : Option Nat} {L : va_W} {f : Bool} (hst : f = false → G' = G) (hk : ka + 1 < 2000000000) (h : QT E G rk ka kb a_g a_k x L) : QT E G' rk (ag ka f) kb a_g a_k x L := by
  cases f with
  | false => rw [hst rfl]; exact h
  | true => exact QT_next hk h
theorem QT_rk {E : Ev} {G : Gr} {rk rk' : Nat → Nat → Int32} {ka kb a_g a_k : Nat} {x : Option Nat} {L : va_W} {f : Bool} (hst : f = false → rk' = rk) (hk : kb + 1 < 2000000000) (h : QT E G rk ka kb a_g a_k x L) : QT E G rk' ka (ag kb f) a_g a_k x L := by
  cases f with
  | false => rw [hst rfl]; exact h
  | true => exact QT_rank hk h
set_option maxRecDepth 100000 in
set_option maxHeartbeats 4000000 in
theorem x_node (l : Launch) {F : Nat} (hF : 40000000 ≤ F) {E : Ev} {G : Gr} {rk : Nat → Nat → Int32} {o : Option Nat} {k a_x cells slots : Nat} {ws : va_W} (hk : k < 1000000) (hX : XI E G rk o k a_x cells slots ws) : ∃ h wc wr mc ms r w1 fs, h ≤ 25 ∧ CxI l yX11_node wsX11_node E [.ref a_x] h wc mc ms r w1 ∧ wc[0]? = some (a_x, .inr (11, fs)) ∧ ws.Perm (wc ++ wr) ∧ r = (stNode G).1 ∧ ∀ uu, XI E (stNode G).2.2 rk (ot (stNode G).2.1 o) (k + 1) a_x (cells + mc) (slots + ms) (wr ++ w1 uu) := by
  have hX0 := hX
  have hF1 : 100000 ≤ F := by omega
  obtain ⟨ka, kb, u, g_nodes, g_made, g_living, g_age, g_oneEnd, g_otherEnd, g_weights, g_alive, g_joined, k_age, k_given, x_ways, x_sorts, x_counts, x_holds, x_joins, x_stables, LW, LS, LN, LH, LJ, LT, hka, hkb, hP, hQW, hQS, hQN, hQH, hQJ, hQT, hsub, hc, hs, hpm⟩ := hX
  obtain ⟨hW, hC, hl, rfl, rfl, hv, hg, hr⟩ := id hP
  have hn := hW.1
  obtain ⟨u_g_nodes, u_g_age, hf, hP2⟩ := nodeO_eq hP
  have hal := ag_le ka (stNode G).2.1
  have hct := c_X11_nodeO l E g_nodes g_made g_living (nI ka) (u 1) (u 2) (u 3) (u 4) (u 5) (u 0) (u 6) x_ways x_sorts x_counts x_holds x_joins x_stables a_x _ u_g_nodes u_g_age hf
  exact ⟨1, _, ([aI E (u 1) 60 g_oneEnd, aI E (u 2) 60 g_otherEnd, aI E (u 3) 60 g_weights, aZ E (u 4) 60 g_alive, aI E (u 5) 16 g_joined, oC (u 6) 6 [.int (nI kb), .ref (u 7)], aI E (u 7) 256 k_given] : va_W) ++ (LW ++ (LS ++ (LN ++ (LH ++ (LJ ++ LT))))), 0, 0, _, _, _, by decide, CxI.t hct, rfl, fr1 (hpm) (pm_idx 9 [0, 1, 2, 3, 4, 5, 6, 7, 8] rfl (by decide +kernel) rfl), rfl, fun uu => ⟨ag ka (stNode G).2.1, kb, u, u_g_nodes, g_made, g_living, u_g_age, g_oneEnd, g_otherEnd, g_weights, g_alive, g_joined, nI kb, k_given, x_ways, x_sorts, x_counts, x_holds, x_joins, x_stables, LW, LS, LN, LH, LJ, LT, by omega, by omega, hP2, QW_ag (stNode_n G) (by omega) hQW, QS_ag (stNode_n G) (by omega) hQS, QN_ag (stNode_n G) (by omega) hQN, QH_ag (stNode_n G) (by omega) hQH, QJ_ag (stNode_n G) (by omega) hQJ, QT_ag (stNode_n G) (by omega) hQT, hsub, hc, hs, (fr2 (pm_idx 9 [7, 8, 0, 1, 2, 3, 4, 5, 6] rfl (by decide +kernel) rfl))⟩⟩
set_option maxRecDepth 100000 in
set_option maxHeartbeats 4000000 in
theorem x_arc (l : Launch) {F : Nat} (hF : 40000000 ≤ F) {E : Ev} {G : Gr} {rk : Nat → Nat → Int32} {o : Option Nat} {k a_x cells slots : Nat} {ws : va_W} (hk : k < 1000000) (hX : XI E G rk o k a_x cells slots ws) (p1 : Int32) (p2 : Int32) (p3 : Int32) : ∃ h wc wr mc ms r w1 fs, h ≤ 25 ∧ CxI l yX11_arc wsX11_arc E [.ref a_x, .int p1, .int p2, .int p3] h wc mc ms r w1 ∧ wc[0]? = some (a_x, .inr (11, fs)) ∧ ws.Perm (wc ++ wr) ∧ r = (stArc G p1 p2 p3).1 ∧ ∀ uu, XI E (stArc G p1 p2 p3).2.2 rk (ot (stArc G p1 p2 p3).2.1 o) (k + 1) a_x (cells + mc) (slots + ms) (wr ++ w1 uu) := by
  have hX0 := hX
  have hF1 : 100000 ≤ F := by omega
  obtain ⟨ka, kb, u, g_nodes, g_made, g_living, g_age, g_oneEnd, g_otherEnd, g_weights, g_alive, g_joined, k_age, k_given, x_ways, x_sorts, x_counts, x_holds, x_joins, x_stables, LW, LS, LN, LH, LJ, LT, hka, hkb, hP, hQW, hQS, hQN, hQH, hQJ, hQT, hsub, hc, hs, hpm⟩ := hX
  obtain ⟨hW, hC, hl, rfl, rfl, hv, hg, hr⟩ := id hP
  have hn := hW.1
  obtain ⟨u_g_made, u_g_living, u_g_age, u_g_oneEnd, u_g_otherEnd, u_g_weights, u_g_alive, u_g_joined, hf, hP2⟩ := arcO_eq hP p1 p2 p3
  have hal := ag_le ka (stArc G p1 p2 p3).2.1
  have hct := c_X11_arcO l E g_nodes g_made g_living (nI ka) g_oneEnd (u 1) g_otherEnd (u 2) g_weights (u 3) g_alive (u 4) g_joined (u 5) (u 0) (u 6) x_ways x_sorts x_counts x_holds x_joins x_stables a_x p1 p2 p3 _ u_g_made u_g_living u_g_age u_g_oneEnd u_g_otherEnd u_g_weights u_g_alive u_g_joined hf
  exact ⟨2, _, ([oC (u 6) 6 [.int (nI kb), .ref (u 7)], aI E (u 7) 256 k_given] : va_W) ++ (LW ++ (LS ++ (LN ++ (LH ++ (LJ ++ LT))))), 0, 0, _, _, _, by decide, CxI.t hct, rfl, fr1 (hpm) (pm_idx 9 [0, 1, 2, 3, 4, 5, 6, 7, 8] rfl (by decide +kernel) rfl), rfl, fun uu => ⟨ag ka (stArc G p1 p2 p3).2.1, kb, u, g_nodes, u_g_made, u_g_living, u_g_age, u_g_oneEnd, u_g_otherEnd, u_g_weights, u_g_alive, u_g_joined, nI kb, k_given, x_ways, x_sorts, x_counts, x_holds, x_joins, x_stables, LW, LS, LN, LH, LJ, LT, by omega, by omega, hP2, QW_ag (stArc_n G p1 p2 p3) (by omega) hQW, QS_ag (stArc_n G p1 p2 p3) (by omega) hQS, QN_ag (stArc_n G p1 p2 p3) (by omega) hQN, QH_ag (stArc_n G p1 p2 p3) (by omega) hQH, QJ_ag (stArc_n G p1 p2 p3) (by omega) hQJ, QT_ag (stArc_n G p1 p2 p3) (by omega) hQT, hsub, hc, hs, (fr2 (pm_idx 9 [2, 3, 4, 5, 6, 7, 8, 0, 1] rfl (by decide +kernel) rfl))⟩⟩
set_option maxRecDepth 100000 in
set_option maxHeartbeats 4000000 in
theorem x_cut (l : Launch) {F : Nat} (hF : 40000000 ≤ F) {E : Ev} {G : Gr} {rk : Nat → Nat → Int32} {o : Option Nat} {k a_x cells slots : Nat} {ws : va_W} (hk : k < 1000000) (hX : XI E G rk o k a_x cells slots ws) (p1 : Int32) : ∃ h wc wr mc ms r w1 fs, h ≤ 25 ∧ CxI l yX11_cut wsX11_cut E [.ref a_x, .int p1] h wc mc ms r w1 ∧ wc[0]? = some (a_x, .inr (11, fs)) ∧ ws.Perm (wc ++ wr) ∧ r = (stCut G p1).1 ∧ ∀ uu, XI E (stCut G p1).2.2 rk (ot (stCut G p1).2.1 o) (k + 1) a_x (cells + mc) (slots + ms) (wr ++ w1 uu) := by
  have hX0 := hX
  have hF1 : 100000 ≤ F := by omega
  obtain ⟨ka, kb, u, g_nodes, g_made, g_living, g_age, g_oneEnd, g_otherEnd, g_weights, g_alive, g_joined, k_age, k_given, x_ways, x_sorts, x_counts, x_holds, x_joins, x_stables, LW, LS, LN, LH, LJ, LT, hka, hkb, hP, hQW, hQS, hQN, hQH, hQJ, hQT, hsub, hc, hs, hpm⟩ := hX
  obtain ⟨hW, hC, hl, rfl, rfl, hv, hg, hr⟩ := id hP
  have hn := hW.1
  obtain ⟨u_g_living, u_g_age, u_g_alive, u_g_joined, hf, hP2⟩ := cutO_eq hF1 hP p1
  have hal := ag_le ka (stCut G p1).2.1
  have hct := c_X11_cutO l E F g_nodes g_made g_living (nI ka) g_oneEnd (u 1) g_otherEnd (u 2) (u 3) g_alive (u 4) g_joined (u 5) (u 0) (u 6) x_ways x_sorts x_counts x_holds x_joins x_stables a_x p1 _ u_g_living u_g_age u_g_alive u_g_joined hf
  exact ⟨2, _, ([aI E (u 3) 60 g_weights, oC (u 6) 6 [.int (nI kb), .ref (u 7)], aI E (u 7) 256 k_given] : va_W) ++ (LW ++ (LS ++ (LN ++ (LH ++ (LJ ++ LT))))), 0, 0, _, _, _, by decide, CxI.t hct, rfl, fr1 (hpm) (pm_idx 9 [0, 1, 2, 3, 5, 6, 4, 7, 8] rfl (by decide +kernel) rfl), rfl, fun uu => ⟨ag ka (stCut G p1).2.1, kb, u, g_nodes, g_made, u_g_living, u_g_age, g_oneEnd, g_otherEnd, g_weights, u_g_alive, u_g_joined, nI kb, k_given, x_ways, x_sorts, x_counts, x_holds, x_joins, x_stables, LW, LS, LN, LH, LJ, LT, by omega, by omega, hP2, QW_ag (stCut_n G p1) (by omega) hQW, QS_ag (stCut_n G p1) (by omega) hQS, QN_ag (stCut_n G p1) (by omega) hQN, QH_ag (stCut_n G p1) (by omega) hQH, QJ_ag (stCut_n G p1) (by omega) hQJ, QT_ag (stCut_n G p1) (by omega) hQT, hsub, hc, hs, (fr2 (pm_idx 9 [3, 4, 5, 6, 0, 7, 8, 1, 2] rfl (by decide +kernel) rfl))⟩⟩
set_option maxRecDepth 100000 in
set_option maxHeartbeats 4000000 in
theorem x_clear (l : Launch) {F : Nat} (hF : 40000000 ≤ F) {E : Ev} {G : Gr} {rk : Nat → Nat → Int32} {o : Option Nat} {k a_x cells slots : Nat} {ws : va_W} (hk : k < 1000000) (hX : XI E G rk o k a_x cells slots ws) : ∃ h wc wr mc ms r w1 fs, h ≤ 25 ∧ CxI l yX11_clear wsX11_clear E [.ref a_x] h wc mc ms r w1 ∧ wc[0]? = some (a_x, .inr (11, fs)) ∧ ws.Perm (wc ++ wr) ∧ r = (stClear G).1 ∧ ∀ uu, XI E (stClear G).2.2 (fun _ _ => -1) none (k + 1) a_x (cells + mc) (slots + ms) (wr ++ w1 uu) := by
  have hX0 := hX
  have hF1 : 100000 ≤ F := by omega
  obtain ⟨ka, kb, u, g_nodes, g_made, g_living, g_age, g_oneEnd, g_otherEnd, g_weights, g_alive, g_joined, k_age, k_given, x_ways, x_sorts, x_counts, x_holds, x_joins, x_stables, LW, LS, LN, LH, LJ, LT, hka, hkb, hP, hQW, hQS, hQN, hQH, hQJ, hQT, hsub, hc, hs, hpm⟩ := hX
  obtain ⟨hW, hC, hl, rfl, rfl, hv, hg, hr⟩ := id hP
  have hn := hW.1
  obtain ⟨u_g_nodes, u_g_made, u_g_living, u_g_age, u_g_joined, u_k_age, u_k_given, hf, hP2⟩ := clearO_eq hF1 hP
  have hct := c_X11_clearO l E F g_nodes g_made g_living (nI ka) (u 1) (u 2) (u 3) (u 4) g_joined (u 5) (u 0) (nI kb) k_given (u 7) (u 6) x_ways x_sorts x_counts x_holds x_joins x_stables a_x _ u_g_nodes u_g_made u_g_living u_g_age u_g_joined u_k_age u_k_given hf
  exact ⟨2, _, ([aI E (u 1) 60 g_oneEnd, aI E (u 2) 60 g_otherEnd, aI E (u 3) 60 g_weights, aZ E (u 4) 60 g_alive] : va_W) ++ (LW ++ (LS ++ (LN ++ (LH ++ (LJ ++ LT))))), 0, 0, _, _, _, by decide, CxI.t hct, rfl, fr1 (hpm) (pm_idx 9 [0, 1, 6, 7, 8, 2, 3, 4, 5] rfl (by decide +kernel) rfl), rfl, fun uu => ⟨ka + 1, kb + 1, u, u_g_nodes, u_g_made, u_g_living, u_g_age, g_oneEnd, g_otherEnd, g_weights, g_alive, u_g_joined, u_k_age, u_k_given, x_ways, x_sorts, x_counts, x_holds, x_joins, x_stables, LW, LS, LN, LH, LJ, LT, by omega, by omega, hP2, QW_next (by omega) hQW, QS_next (by omega) hQS, QN_next (by omega) hQN, QH_next (by omega) hQH, QJ_next (by omega) hQJ, QT_rank (by omega) (QT_next (by omega) hQT), hsub, hc, hs, (fr2 (pm_idx 9 [4, 5, 0, 1, 2, 3, 6, 7, 8] rfl (by decide +kernel) rfl))⟩⟩
set_option maxRecDepth 100000 in
set_option maxHeartbeats 4000000 in
theorem x_rank (l : Launch) {F : Nat} (hF : 40000000 ≤ F) {E : Ev} {G : Gr} {rk : Nat → Nat → Int32} {o : Option Nat} {k a_x cells slots : Nat} {ws : va_W} (hk : k < 1000000) (hX : XI E G rk o k a_x cells slots ws) (p1 : Int32) (p2 : Int32) (p3 : Int32) : ∃ h wc wr mc ms r w1 fs, h ≤ 25 ∧ CxI l yX11_rank wsX11_rank E [.ref a_x, .int p1, .int p2, .int p3] h wc mc ms r w1 ∧ wc[0]? = some (a_x, .inr (11, fs)) ∧ ws.Perm (wc ++ wr) ∧ r = (stRank G rk p1 p2 p3).1 ∧ ∀ uu, XI E G (stRank G rk p1 p2 p3).2 o (k + 1) a_x (cells + mc) (slots + ms) (wr ++ w1 uu) := by
  have hX0 := hX
  have hF1 : 100000 ≤ F := by omega
  obtain ⟨ka, kb, u, g_nodes, g_made, g_living, g_age, g_oneEnd, g_otherEnd, g_weights, g_alive, g_joined, k_age, k_given, x_ways, x_sorts, x_counts, x_holds, x_joins, x_stables, LW, LS, LN, LH, LJ, LT, hka, hkb, hP, hQW, hQS, hQN, hQH, hQJ, hQT, hsub, hc, hs, hpm⟩ := hX
  obtain ⟨hW, hC, hl, rfl, rfl, hv, hg, hr⟩ := id hP
  have hn := hW.1
  obtain ⟨u_k_age, u_k_given, hf, hP2⟩ := rankO_eq hP p1 p2 p3
  have hal := ag_le kb (okR G p1 p2 p3)
  have hct := c_X11_rankO l E g_nodes g_made g_living (nI ka) (u 1) (u 2) (u 3) (u 4) (u 5) (u 0) (nI kb) k_given (u 7) (u 6) x_ways x_sorts x_counts x_holds x_joins x_stables a_x p1 p2 p3 _ u_k_age u_k_given hf
  exact ⟨2, _, ([aI E (u 1) 60 g_oneEnd, aI E (u 2) 60 g_otherEnd, aI E (u 3) 60 g_weights, aZ E (u 4) 60 g_alive, aI E (u 5) 16 g_joined] : va_W) ++ (LW ++ (LS ++ (LN ++ (LH ++ (LJ ++ LT))))), 0, 0, _, _, _, by decide, CxI.t hct, rfl, fr1 (hpm) (pm_idx 9 [0, 1, 7, 8, 2, 3, 4, 5, 6] rfl (by decide +kernel) rfl), rfl, fun uu => ⟨ka, ag kb (okR G p1 p2 p3), u, g_nodes, g_made, g_living, nI ka, g_oneEnd, g_otherEnd, g_weights, g_alive, g_joined, u_k_age, u_k_given, x_ways, x_sorts, x_counts, x_holds, x_joins, x_stables, LW, LS, LN, LH, LJ, LT, by omega, by omega, hP2, hQW, hQS, hQN, hQH, hQJ, QT_rk (stRank_n G rk p1 p2 p3) (by omega) hQT, hsub, hc, hs, (fr2 (pm_idx 9 [5, 6, 0, 1, 2, 3, 4, 7, 8] rfl (by decide +kernel) rfl))⟩⟩
end
