section
def blkB (E : Ev) (a_x : Nat) (u : Nat → Nat) (g_nodes : Int32) (g_made : Int32) (g_living : Int32) (g_age : Int32) (g_oneEnd : Nat → Int32) (g_otherEnd : Nat → Int32) (g_weights : Nat → Int32) (g_alive : Nat → Int32) (g_joined : Nat → Int32) (k_age : Int32) (k_given : Nat → Int32) (x_ways x_sorts x_counts x_holds x_joins x_stables : Option Nat) : va_W := [oC a_x 11 [.ref (u 0), .ref (u 6), va_rf x_ways, va_rf x_sorts, va_rf x_counts, va_rf x_holds, va_rf x_joins, va_rf x_stables], oC (u 0) 2 [.int g_nodes, .int g_made, .int g_living, .int g_age, .ref (u 1), .ref (u 2), .ref (u 3), .ref (u 4), .ref (u 5)], aI E (u 1) 60 g_oneEnd, aI E (u 2) 60 g_otherEnd, aI E (u 3) 60 g_weights, aZ E (u 4) 60 g_alive, aI E (u 5) 16 g_joined, oC (u 6) 6 [.int k_age, .ref (u 7)], aI E (u 7) 256 k_given]
def blkW (E : Ev) (a_g : Nat) (u : Nat → Nat) (r_slots : Nat → Int32) (r_slotOf : Nat → Int32) (r_sets : Nat → Int32) (r_later : Nat → Int32) (r_laters : Nat → Int32) (r_mayLeave : Int32) (r_amount : Int32) (c_gain : Nat → Int32) (c_mark : Nat → Int64) (c_bestGain : Nat → Int32) (c_bestMark : Nat → Int64) (w_known : Nat → Int32) (w_found : Nat → Int32) (w_sets : Nat → Int64) (w_age : Int32) : va_W := [oC (u 0) 10 [.ref a_g, .ref (u 1), .ref (u 12), .ref (u 13), .ref (u 14), .int w_age], oC (u 1) 0 [.ref (u 2), .ref (u 8), .ref (u 9), .ref (u 10), .ref (u 11)], oC (u 2) 7 [.ref (u 3), .ref (u 4), .ref (u 5), .ref (u 6), .ref (u 7), .int r_mayLeave, .int r_amount], aI E (u 3) 4096 r_slots, aI E (u 4) 2584 r_slotOf, aI E (u 5) 2584 r_sets, aI E (u 6) 256 r_later, aI E (u 7) 16 r_laters, aI E (u 8) 256 c_gain, aJ E (u 9) 256 c_mark, aI E (u 10) 2584 c_bestGain, aJ E (u 11) 2584 c_bestMark, aZ E (u 12) 5 w_known, aZ E (u 13) 5 w_found, aJ E (u 14) 5 w_sets]
def blkS (E : Ev) (a_g : Nat) (u : Nat → Nat) (qp_part : Nat → Int32) (qp_amount : Int32) (qp_odd : Int32) (qp_twoSided : Int32) (qw_part : Nat → Int32) (qw_amount : Int32) (qw_odd : Int32) (qw_twoSided : Int32) (s_sizeAndLeft : Nat → Int32) (s_lefts : Int32) (s_besides : Int32) (s_uncovered : Int32) (s_age : Int32) : va_W := [oC (u 0) 8 [.ref a_g, .ref (u 1), .ref (u 3), .ref (u 5), .int s_lefts, .int s_besides, .int s_uncovered, .int s_age], oC (u 1) 5 [.ref (u 2), .int qp_amount, .int qp_odd, .int qp_twoSided], aI E (u 2) 16 qp_part, oC (u 3) 5 [.ref (u 4), .int qw_amount, .int qw_odd, .int qw_twoSided], aI E (u 4) 16 qw_part, aI E (u 5) 2584 s_sizeAndLeft]
def blkN (E : Ev) (a_g : Nat) (u : Nat → Nat) (n_several : Nat → Int32) (n_numbers : Nat → Int64) (n_last : Int32) (n_age : Int32) : va_W := [oC (u 0) 1 [.ref a_g, .ref (u 1), .ref (u 2), .int n_last, .int n_age], aI E (u 1) 256 n_several, aJ E (u 2) 23256 n_numbers]
def blkH (E : Ev) (a_g : Nat) (u : Nat → Nat) (h_flipped : Nat → Int32) (h_chosen : Int32) (h_age : Int32) : va_W := [oC (u 0) 3 [.ref a_g, .ref (u 1), .int h_chosen, .int h_age], aI E (u 1) 16 h_flipped]
def blkJ (E : Ev) (a_g : Nat) (u : Nat → Nat) (r_slots : Nat → Int32) (r_slotOf : Nat → Int32) (r_sets : Nat → Int32) (r_later : Nat → Int32) (r_laters : Nat → Int32) (r_mayLeave : Int32) (r_amount : Int32) (c_gain : Nat → Int32) (c_mark : Nat → Int64) (c_bestGain : Nat → Int32) (c_bestMark : Nat → Int64) (j_reached : Nat → Int32) (j_told : Int64) (j_isTold : Int32) (j_pathsKnown : Int32) (j_age : Int32) : va_W := [oC (u 0) 4 [.ref a_g, .ref (u 1), .ref (u 12), .long j_told, .int j_isTold, .int j_pathsKnown, .int j_age], oC (u 1) 0 [.ref (u 2), .ref (u 8), .ref (u 9), .ref (u 10), .ref (u 11)], oC (u 2) 7 [.ref (u 3), .ref (u 4), .ref (u 5), .ref (u 6), .ref (u 7), .int r_mayLeave, .int r_amount], aI E (u 3) 4096 r_slots, aI E (u 4) 2584 r_slotOf, aI E (u 5) 2584 r_sets, aI E (u 6) 256 r_later, aI E (u 7) 16 r_laters, aI E (u 8) 256 c_gain, aJ E (u 9) 256 c_mark, aI E (u 10) 2584 c_bestGain, aJ E (u 11) 2584 c_bestMark, aI E (u 12) 16 j_reached]
def blkT (E : Ev) (a_g : Nat) (a_k : Nat) (u : Nat → Nat) (t_arcBetween : Nat → Int64) (t_open : Nat → Int32) (t_sooner : Nat → Int32) (t_wanted : Nat → Int32) (t_total : Int32) (t_first : Int64) (t_graphAge : Int32) (t_ranksAge : Int32) : va_W := [oC (u 0) 9 [.ref a_g, .ref a_k, .ref (u 1), .ref (u 2), .ref (u 3), .ref (u 4), .int t_total, .long t_first, .int t_graphAge, .int t_ranksAge], aJ E (u 1) 256 t_arcBetween, aI E (u 2) 16 t_open, aI E (u 3) 256 t_sooner, aI E (u 4) 16 t_wanted]
def pt : Option Nat → Nat → Nat
  | none, _ => 0
  | some _, n => n
theorem pt_le (x : Option Nat) (n : Nat) : pt x n ≤ n := by
  cases x with
  | none => exact Nat.zero_le n
  | some a => exact Nat.le_refl n
def QW (E : Ev) (G : Gr) (ka : Nat) (a_g : Nat) (x : Option Nat) (L : va_W) : Prop := (x = none ∧ L = []) ∨ ∃ (u : Nat → Nat) (r_slots : Nat → Int32) (r_slotOf : Nat → Int32) (r_sets : Nat → Int32) (r_later : Nat → Int32) (r_laters : Nat → Int32) (r_mayLeave : Int32) (r_amount : Int32) (c_gain : Nat → Int32) (c_mark : Nat → Int64) (c_bestGain : Nat → Int32) (c_bestMark : Nat → Int64) (w_known : Nat → Int32) (w_found : Nat → Int32) (w_sets : Nat → Int64) (w_age : Int32), x = some (u 0) ∧ L = blkW E a_g u r_slots r_slotOf r_sets r_later r_laters r_mayLeave r_amount c_gain c_mark c_bestGain c_bestMark w_known w_found w_sets w_age ∧ WaO G (nI ka) r_slots r_slotOf r_sets r_later r_laters r_amount w_known w_found w_sets w_age ∧ Ag ka w_age
def QS (E : Ev) (G : Gr) (ka : Nat) (a_g : Nat) (x : Option Nat) (L : va_W) : Prop := (x = none ∧ L = []) ∨ ∃ (u : Nat → Nat) (qp_part : Nat → Int32) (qp_amount : Int32) (qp_odd : Int32) (qp_twoSided : Int32) (qw_part : Nat → Int32) (qw_amount : Int32) (qw_odd : Int32) (qw_twoSided : Int32) (s_sizeAndLeft : Nat → Int32) (s_lefts : Int32) (s_besides : Int32) (s_uncovered : Int32) (s_age : Int32), x = some (u 0) ∧ L = blkS E a_g u qp_part qp_amount qp_odd qp_twoSided qw_part qw_amount qw_odd qw_twoSided s_sizeAndLeft s_lefts s_besides s_uncovered s_age ∧ SrO G (nI ka) s_lefts s_besides s_uncovered s_age qp_odd qp_part qw_amount qw_twoSided ∧ Ag ka s_age
def QN (E : Ev) (G : Gr) (ka : Nat) (a_g : Nat) (x : Option Nat) (L : va_W) : Prop := (x = none ∧ L = []) ∨ ∃ (u : Nat → Nat) (n_several : Nat → Int32) (n_numbers : Nat → Int64) (n_last : Int32) (n_age : Int32), x = some (u 0) ∧ L = blkN E a_g u n_several n_numbers n_last n_age ∧ NcO G (nI ka) n_age n_numbers n_last ∧ Ag ka n_age
def QH (E : Ev) (G : Gr) (ka : Nat) (a_g : Nat) (x : Option Nat) (L : va_W) : Prop := (x = none ∧ L = []) ∨ ∃ (u : Nat → Nat) (h_flipped : Nat → Int32) (h_chosen : Int32) (h_age : Int32), x = some (u 0) ∧ L = blkH E a_g u h_flipped h_chosen h_age ∧ HcO G (nI ka) h_age h_chosen ∧ Ag ka h_age
def QJ (E : Ev) (G : Gr) (o : Option Nat) (ka : Nat) (a_g : Nat) (x : Option Nat) (L : va_W) : Prop := (x = none ∧ L = [] ∧ o = none) ∨ ∃ (u : Nat → Nat) (r_slots : Nat → Int32) (r_slotOf : Nat → Int32) (r_sets : Nat → Int32) (r_later : Nat → Int32) (r_laters : Nat → Int32) (r_mayLeave : Int32) (r_amount : Int32) (c_gain : Nat → Int32) (c_mark : Nat → Int64) (c_bestGain : Nat → Int32) (c_bestMark : Nat → Int64) (j_reached : Nat → Int32) (j_told : Int64) (j_isTold : Int32) (j_pathsKnown : Int32) (j_age : Int32), x = some (u 0) ∧ L = blkJ E a_g u r_slots r_slotOf r_sets r_later r_laters r_mayLeave r_amount c_gain c_mark c_bestGain c_bestMark j_reached j_told j_isTold j_pathsKnown j_age ∧ TcO G o (nI ka) j_age j_isTold j_told ∧ JcO G (nI ka) j_age r_slots r_slotOf r_sets c_gain c_mark j_reached j_pathsKnown ∧ Ag ka j_age
def QT (E : Ev) (G : Gr) (rk : Nat → Nat → Int32) (ka : Nat) (kb : Nat) (a_g : Nat) (a_k : Nat) (x : Option Nat) (L : va_W) : Prop := (x = none ∧ L = []) ∨ ∃ (u : Nat → Nat) (t_arcBetween : Nat → Int64) (t_open : Nat → Int32) (t_sooner : Nat → Int32) (t_wanted : Nat → Int32) (t_total : Int32) (t_first : Int64) (t_graphAge : Int32) (t_ranksAge : Int32), x = some (u 0) ∧ L = blkT E a_g a_k u t_arcBetween t_open t_sooner t_wanted t_total t_first t_graphAge t_ranksAge ∧ TsO G rk (nI ka) (nI kb) t_graphAge t_ranksAge t_total t_first ∧ Ag ka t_graphAge ∧ Ag kb t_ranksAge
/-- the class's state: the graph G, the ranks rk, the arcs o that were told last; at most k calls were made -/
def XI (E : Ev) (G : Gr) (rk : Nat → Nat → Int32) (o : Option Nat) (k a_x cells slots : Nat) (ws : va_W) : Prop := ∃ (ka kb : Nat) (u : Nat → Nat) (g_nodes : Int32) (g_made : Int32) (g_living : Int32) (g_age : Int32) (g_oneEnd : Nat → Int32) (g_otherEnd : Nat → Int32) (g_weights : Nat → Int32) (g_alive : Nat → Int32) (g_joined : Nat → Int32) (k_age : Int32) (k_given : Nat → Int32) (x_ways x_sorts x_counts x_holds x_joins x_stables : Option Nat) (LW LS LN LH LJ LT : va_W), ka ≤ k ∧ kb ≤ k ∧ XP G rk ka kb g_nodes g_made g_living g_age g_oneEnd g_otherEnd g_weights g_alive g_joined k_age k_given ∧ QW E G ka (u 0) x_ways LW ∧ QS E G ka (u 0) x_sorts LS ∧ QN E G ka (u 0) x_counts LN ∧ QH E G ka (u 0) x_holds LH ∧ QJ E G o ka (u 0) x_joins LJ ∧ QT E G rk ka kb (u 0) (u 6) x_stables LT ∧ (x_ways = none → x_sorts = none ∧ x_counts = none) ∧ cells = 36 + (pt x_ways 15 + pt x_sorts 6 + pt x_counts 3 + pt x_holds 2 + pt x_joins 13 + pt x_stables 5) ∧ slots = 395581 + (pt x_ways 15249 + pt x_sorts 2632 + pt x_counts 23517 + pt x_holds 20 + pt x_joins 15251 + pt x_stables 554) ∧ ws.Perm (blkB E a_x u g_nodes g_made g_living g_age g_oneEnd g_otherEnd g_weights g_alive g_joined k_age k_given x_ways x_sorts x_counts x_holds x_joins x_stables ++ (LW ++ (LS ++ (LN ++ (LH ++ (LJ ++ LT))))))
section
variable {E : Ev} {G G' : Gr} {rk rk' : Nat → Nat → Int32} {o : Option Nat} {k a_x cells slots : Nat} {ws ws' : va_W}
theorem XI.pm (hX : XI E G rk o k a_x cells slots ws) (hp : ws.Perm ws') : XI E G rk o k a_x cells slots ws' := by
  obtain ⟨ka, kb, u, g_nodes, g_made, g_living, g_age, g_oneEnd, g_otherEnd, g_weights, g_alive, g_joined, k_age, k_given, x_ways, x_sorts, x_counts, x_holds, x_joins, x_stables, LW, LS, LN, LH, LJ, LT, hka, hkb, hP, hQW, hQS, hQN, hQH, hQJ, hQT, hsub, hc, hs, hpm⟩ := hX
  exact ⟨ka, kb, u, g_nodes, g_made, g_living, g_age, g_oneEnd, g_otherEnd, g_weights, g_alive, g_joined, k_age, k_given, x_ways, x_sorts, x_counts, x_holds, x_joins, x_stables, LW, LS, LN, LH, LJ, LT, hka, hkb, hP, hQW, hQS, hQN, hQH, hQJ, hQT, hsub, hc, hs, hp.symm.trans hpm⟩
theorem XI.mono (hX : XI E G rk o k a_x cells slots ws) : XI E G rk o (k + 1) a_x cells slots ws := by
  obtain ⟨ka, kb, u, g_nodes, g_made, g_living, g_age, g_oneEnd, g_otherEnd, g_weights, g_alive, g_joined, k_age, k_given, x_ways, x_sorts, x_counts, x_holds, x_joins, x_stables, LW, LS, LN, LH, LJ, LT, hka, hkb, hP, hQW, hQS, hQN, hQH, hQJ, hQT, hsub, hc, hs, hpm⟩ := hX
  exact ⟨ka, kb, u, g_nodes, g_made, g_living, g_age, g_oneEnd, g_otherEnd, g_weights, g_alive, g_joined, k_age, k_given, x_ways, x_sorts, x_counts, x_holds, x_joins, x_stables, LW, LS, LN, LH, LJ, LT, Nat.le_succ_of_le hka, Nat.le_succ_of_le hkb, hP, hQW, hQS, hQN, hQH, hQJ, hQT, hsub, hc, hs, hpm⟩
theorem XI.le (hX : XI E G rk o k a_x cells slots ws) : cells ≤ 80 ∧ slots ≤ 452804 := by
  obtain ⟨ka, kb, u, g_nodes, g_made, g_living, g_age, g_oneEnd, g_otherEnd, g_weights, g_alive, g_joined, k_age, k_given, x_ways, x_sorts, x_counts, x_holds, x_joins, x_stables, LW, LS, LN, LH, LJ, LT, hka, hkb, hP, hQW, hQS, hQN, hQH, hQJ, hQT, hsub, hc, hs, hpm⟩ := hX
  have h1 := pt_le x_ways 15
  have h2 := pt_le x_sorts 6
  have h3 := pt_le x_counts 3
  have h4 := pt_le x_holds 2
  have h5 := pt_le x_joins 13
  have h6 := pt_le x_stables 5
  have h7 := pt_le x_ways 15249
  have h8 := pt_le x_sorts 2632
  have h9 := pt_le x_counts 23517
  have h10 := pt_le x_holds 20
  have h11 := pt_le x_joins 15251
  have h12 := pt_le x_stables 554
  omega
theorem XI.wf (hX : XI E G rk o k a_x cells slots ws) : Wf G ∧ RkV rk ∧ ∀ v u, nd G ≤ v ∨ nd G ≤ u → rk v u = -1 := by
  obtain ⟨ka, kb, u, g_nodes, g_made, g_living, g_age, g_oneEnd, g_otherEnd, g_weights, g_alive, g_joined, k_age, k_given, x_ways, x_sorts, x_counts, x_holds, x_joins, x_stables, LW, LS, LN, LH, LJ, LT, hka, hkb, hP, hQW, hQS, hQN, hQH, hQJ, hQT, hsub, hc, hs, hpm⟩ := hX
  exact ⟨hP.1, hP.2.2.2.2.2.1, hP.2.2.2.2.2.2.2⟩
theorem QW_next {ka a_g : Nat} {x : Option Nat} {L : va_W} (hk : ka + 1 < 2000000000) (h : QW E G ka a_g x L) : QW E G' (ka + 1) a_g x L := by
  rcases h with ⟨e1, e2⟩ | ⟨u, r_slots, r_slotOf, r_sets, r_later, r_laters, r_mayLeave, r_amount, c_gain, c_mark, c_bestGain, c_bestMark, w_known, w_found, w_sets, w_age, e1, e2, i1, i2⟩
  · exact Or.inl ⟨e1, e2⟩
  · exact Or.inr ⟨u, r_slots, r_slotOf, r_sets, r_later, r_laters, r_mayLeave, r_amount, c_gain, c_mark, c_bestGain, c_bestMark, w_known, w_found, w_sets, w_age, e1, e2, WaO_next i1 (Ag_ne i2 hk), Ag_mono i2 (Nat.le_succ ka)⟩
theorem QS_next {ka a_g : Nat} {x : Option Nat} {L : va_W} (hk : ka + 1 < 2000000000) (h : QS E G ka a_g x L) : QS E G' (ka + 1) a_g x L := by
  rcases h with ⟨e1, e2⟩ | ⟨u, qp_part, qp_amount, qp_odd, qp_twoSided, qw_part, qw_amount, qw_odd, qw_twoSided, s_sizeAndLeft, s_lefts, s_besides, s_uncovered, s_age, e1, e2, i1, i2⟩
  · exact Or.inl ⟨e1, e2⟩
  · exact Or.inr ⟨u, qp_part, qp_amount, qp_odd, qp_twoSided, qw_part, qw_amount, qw_odd, qw_twoSided, s_sizeAndLeft, s_lefts, s_besides, s_uncovered, s_age, e1, e2, fun e => absurd e (Ag_ne i2 hk), Ag_mono i2 (Nat.le_succ ka)⟩
theorem QN_next {ka a_g : Nat} {x : Option Nat} {L : va_W} (hk : ka + 1 < 2000000000) (h : QN E G ka a_g x L) : QN E G' (ka + 1) a_g x L := by
  rcases h with ⟨e1, e2⟩ | ⟨u, n_several, n_numbers, n_last, n_age, e1, e2, i1, i2⟩
  · exact Or.inl ⟨e1, e2⟩
  · exact Or.inr ⟨u, n_several, n_numbers, n_last, n_age, e1, e2, fun e => absurd e (Ag_ne i2 hk), Ag_mono i2 (Nat.le_succ ka)⟩
theorem QH_next {ka a_g : Nat} {x : Option Nat} {L : va_W} (hk : ka + 1 < 2000000000) (h : QH E G ka a_g x L) : QH E G' (ka + 1) a_g x L := by
  rcases h with ⟨e1, e2⟩ | ⟨u, h_flipped, h_chosen, h_age, e1, e2, i1, i2⟩
  · exact Or.inl ⟨e1, e2⟩
  · exact Or.inr ⟨u, h_flipped, h_chosen, h_age, e1, e2, fun e => absurd e (Ag_ne i2 hk), Ag_mono i2 (Nat.le_succ ka)⟩
theorem QJ_next {ka a_g : Nat} {x : Option Nat} {L : va_W} (hk : ka + 1 < 2000000000) (h : QJ E G o ka a_g x L) : QJ E G' none (ka + 1) a_g x L := by
  rcases h with ⟨e1, e2, e3⟩ | ⟨u, r_slots, r_slotOf, r_sets, r_later, r_laters, r_mayLeave, r_amount, c_gain, c_mark, c_bestGain, c_bestMark, j_reached, j_told, j_isTold, j_pathsKnown, j_age, e1, e2, i1, i2, i3⟩
  · exact Or.inl ⟨e1, e2, rfl⟩
  · exact Or.inr ⟨u, r_slots, r_slotOf, r_sets, r_later, r_laters, r_mayLeave, r_amount, c_gain, c_mark, c_bestGain, c_bestMark, j_reached, j_told, j_isTold, j_pathsKnown, j_age, e1, e2, fun e => absurd e (Ag_ne i3 hk), JcO_next i2 (Ag_ne i3 hk), Ag_mono i3 (Nat.le_succ ka)⟩
theorem QT_next {ka kb a_g a_k : Nat} {x : Option Nat} {L : va_W} (hk : ka + 1 < 2000000000) (h : QT E G rk ka kb a_g a_k x L) : QT E G' rk (ka + 1) kb a_g a_k x L := by
  rcases h with ⟨e1, e2⟩ | ⟨u, t_arcBetween, t_open, t_sooner, t_wanted, t_total, t_first, t_graphAge, t_ranksAge, e1, e2, i1, i2, i3⟩
  · exact Or.inl ⟨e1, e2⟩
  · exact Or.inr ⟨u, t_arcBetween, t_open, t_sooner, t_wanted, t_total, t_first, t_graphAge, t_ranksAge, e1, e2, fun e _ => absurd e (Ag_ne i2 hk), Ag_mono i2 (Nat.le_succ ka), i3⟩
theorem QT_rank {ka kb a_g a_k : Nat} {x : Option Nat} {L : va_W} (hk : kb + 1 < 2000000000) (h : QT E G rk ka kb a_g a_k x L) : QT E G rk' ka (kb + 1) a_g a_k x L := by
  rcases h with ⟨e1, e2⟩ | ⟨u, t_arcBetween, t_open, t_sooner, t_wanted, t_total, t_first, t_graphAge, t_ranksAge, e1, e2, i1, i2, i3⟩
  · exact Or.inl ⟨e1, e2⟩
  · exact Or.inr ⟨u, t_arcBetween, t_open, t_sooner, t_wanted, t_total, t_first, t_graphAge, t_ranksAge, e1, e2, fun _ e => absurd e (Ag_ne i3 hk), i2, Ag_mono i3 (Nat.le_succ kb)⟩
end
/-! blocks to the front and back -/
section
variable {α : Type} (B LW LS LN LH LJ LT : List α)
theorem q_W : (B ++ (LW ++ (LS ++ (LN ++ (LH ++ (LJ ++ LT)))))).Perm ((B ++ LW) ++ (LS ++ (LN ++ (LH ++ (LJ ++ LT))))) := pm_cnt (fun x => by simp only [List.count_append]; omega)
theorem q_S : (B ++ (LW ++ (LS ++ (LN ++ (LH ++ (LJ ++ LT)))))).Perm ((B ++ (LW ++ LS)) ++ (LN ++ (LH ++ (LJ ++ LT)))) := pm_cnt (fun x => by simp only [List.count_append]; omega)
theorem q_N : (B ++ (LW ++ (LS ++ (LN ++ (LH ++ (LJ ++ LT)))))).Perm ((B ++ (LW ++ LN)) ++ (LS ++ (LH ++ (LJ ++ LT)))) := pm_cnt (fun x => by simp only [List.count_append]; omega)
theorem q_H : (B ++ (LW ++ (LS ++ (LN ++ (LH ++ (LJ ++ LT)))))).Perm ((B ++ LH) ++ (LW ++ (LS ++ (LN ++ (LJ ++ LT))))) := pm_cnt (fun x => by simp only [List.count_append]; omega)
theorem q_J : (B ++ (LW ++ (LS ++ (LN ++ (LH ++ (LJ ++ LT)))))).Perm ((B ++ LJ) ++ (LW ++ (LS ++ (LN ++ (LH ++ LT))))) := pm_cnt (fun x => by simp only [List.count_append]; omega)
theorem q_T : (B ++ (LW ++ (LS ++ (LN ++ (LH ++ (LJ ++ LT)))))).Perm ((B ++ LT) ++ (LW ++ (LS ++ (LN ++ (LH ++ LJ))))) := pm_cnt (fun x => by simp only [List.count_append]; omega)
end
theorem fr1 {ws Fr R wc wk : va_W} (h : ws.Perm (Fr ++ R)) (h1 : Fr.Perm (wc ++ wk)) : ws.Perm (wc ++ (wk ++ R)) := by
  refine h.trans ((h1.append_right R).trans ?_)
  rw [List.append_assoc]
theorem fr2 {wk R w1 Fr : va_W} (h2 : (wk ++ w1).Perm Fr) : ((wk ++ R) ++ w1).Perm (Fr ++ R) := xw2.trans (h2.append_right R)
theorem fr3 {ws wc wr : va_W} (h : ws.Perm (wc ++ wr)) : ws.Perm (wr ++ wc) := h.trans List.perm_append_comm
section
variable {l : Launch} {y : MethodName} {wy : List Cond} {E : Ev} {av : List Value} {h : Nat} {wc w : va_W} {mc ms : Nat} {w1 : (Nat → Nat) → va_W}
theorem CxI.t {r : Int32} (hc : CtI l y wy (Rm h) E av wc r w) : CxI l y wy E av h wc 0 0 r (fun _ => w) := Or.inl ⟨rfl, rfl, w, fun _ => rfl, hc⟩
theorem CxI.n {r : Int32} (hc : CnI l y wy (Ra h mc ms) E av wc mc ms r w1) : CxI l y wy E av h wc mc ms r w1 := Or.inr hc
theorem CxL.t {r : Int64} (hc : CtL l y wy (Rm h) E av wc r w) : CxL l y wy E av h wc 0 0 r (fun _ => w) := Or.inl ⟨rfl, rfl, w, fun _ => rfl, hc⟩
theorem CxL.n {r : Int64} (hc : CnL l y wy (Ra h mc ms) E av wc mc ms r w1) : CxL l y wy E av h wc mc ms r w1 := Or.inr hc
end
end
