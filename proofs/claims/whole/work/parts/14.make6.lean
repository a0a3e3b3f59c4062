def f_X11_stableMateE (p1 : Int32) (g_nodes : Int32) : Option (Int32) :=
  (if (f_X2_isNode p1 g_nodes) = 0 then some (-1) else (if g_nodes ≤ 12 then none else some (-4)))
set_option maxHeartbeats 4000000 in
set_option maxRecDepth 100000 in
theorem c_X11_stableMateE (l : Launch) (E : Ev) (g_nodes : Int32) (g_made : Int32) (g_living : Int32) (g_age : Int32) (a_g_oneEnd : Nat) (a_g_otherEnd : Nat) (a_g_weights : Nat) (a_g_alive : Nat) (a_g_joined : Nat) (a_g : Nat) (a_k : Nat) (x_ways : Option Nat) (x_sorts : Option Nat) (x_counts : Option Nat) (x_holds : Option Nat) (x_joins : Option Nat) (x_stables : Option Nat) (a_x : Nat) (p1 : Int32) (ro : Int32) (hf : f_X11_stableMateE p1 g_nodes = some ro) :
    CtI l yX11_stableMate wsX11_stableMate (Rm 1) E [.ref a_x, .int p1] [oC a_x 11 [.ref a_g, .ref a_k, va_rf x_ways, va_rf x_sorts, va_rf x_counts, va_rf x_holds, va_rf x_joins, va_rf x_stables], oC a_g 2 [.int g_nodes, .int g_made, .int g_living, .int g_age, .ref a_g_oneEnd, .ref a_g_otherEnd, .ref a_g_weights, .ref a_g_alive, .ref a_g_joined]] ro [oC a_x 11 [.ref a_g, .ref a_k, va_rf x_ways, va_rf x_sorts, va_rf x_counts, va_rf x_holds, va_rf x_joins, va_rf x_stables], oC a_g 2 [.int g_nodes, .int g_made, .int g_living, .int g_age, .ref a_g_oneEnd, .ref a_g_otherEnd, .ref a_g_weights, .ref a_g_alive, .ref a_g_joined]] := by
  refine ofI (cc := cX11_stableMate) (maxL := 3) (own := RX11) rfl rfl (by decide) rfl rfl ?_
  intro p e s m below meth c A ls Q S hnm hN hw hA hl0 hE
  have hl : lv_has ls 3 [(0, .ref a_x), (1, .int p1)] := hl0 _ (lv_entry [.ref a_x, .int p1] (n := 3) (Nat.le_of_ble_eq_true rfl))
  have iX11 : ∀ w ∈ wsX110, w ∈ wsX11_stableMate := by decide +kernel
  have iX2 : ∀ w ∈ wsX20, w ∈ wsX11_stableMate := by decide +kernel
  have k12 := S.2.2.2.2 (.fieldLink RX11 12 "PairMatching" "graph" "LPairMatching$Graph;") (by decide +kernel)
  have w23 : Cond.fieldLinkNest RX11 23 "PairMatching$Graph" "nodes" "I" "PairMatching" ∈ nestW := List.mem_of_getElem? (i := 1) rfl
  unfold f_X11_stableMateE at hf
  refine lv_aload_n S.1 S.2.1 dX11_stableMate_0 rfl (lv_at hl 0 rfl) ?_
  refine g_get S hN hw (C := RX11) (T := TX11) (N := 8) (ci := 11) (v := .ref a_g) 0 0 iX11 k12 dX11_stableMate_1 rfl rfl (by decide) rfl ?_
  refine lv_iload_n S.1 S.2.1 dX11_stableMate_4 rfl (lv_at hl 1 rfl) ?_
  refine g_calli (r := (f_X2_isNode p1 g_nodes)) (wc := [oC a_g 2 [.int g_nodes, .int g_made, .int g_living, .int g_age, .ref a_g_oneEnd, .ref a_g_otherEnd, .ref a_g_weights, .ref a_g_alive, .ref a_g_joined]]) (wr := [oC a_x 11 [.ref a_g, .ref a_k, va_rf x_ways, va_rf x_sorts, va_rf x_counts, va_rf x_holds, va_rf x_joins, va_rf x_stables]]) (w1 := [oC a_g 2 [.int g_nodes, .int g_made, .int g_living, .int g_age, .ref a_g_oneEnd, .ref a_g_otherEnd, .ref a_g_weights, .ref a_g_alive, .ref a_g_joined]]) (va_runV (As := [.int p1]) (rest := []) S (c_X2_isNode l E g_nodes g_made g_living g_age a_g_oneEnd a_g_otherEnd a_g_weights a_g_alive a_g_joined a_g p1 (f_X2_isNode p1 g_nodes) rfl _) (cwV 1 S.2.2.2.2 gX11_stableMate_X2_isNode rfl rfl rfl (by decide +kernel) (rm_le (by omega) (by decide))) (preV (q := (RX2, TX2, 9)) hN hw [1] rfl rfl rfl rfl) rfl rfl hl.1 rfl (lv_room (Nat.le_of_ble_eq_true rfl)) dX11_stableMate_5 ⟨Nat.le_refl _, Nat.le_refl _⟩) hw hA [1] [0] rfl rfl rfl (by decide) (fun H locs hw => ?_)
  have hw : Wo E A s [oC a_x 11 [.ref a_g, .ref a_k, va_rf x_ways, va_rf x_sorts, va_rf x_counts, va_rf x_holds, va_rf x_joins, va_rf x_stables], oC a_g 2 [.int g_nodes, .int g_made, .int g_living, .int g_age, .ref a_g_oneEnd, .ref a_g_otherEnd, .ref a_g_weights, .ref a_g_alive, .ref a_g_joined]] H _ := hw
  refine lv_if_ne (tgt := 13) S.1 S.2.1 dX11_stableMate_8 (by decide) (fun h_3 => ?_) (fun h_3 => ?_)
  · replace hf := if_f h_3 hf
    refine lv_aload_n S.1 S.2.1 dX11_stableMate_13 rfl (lv_at hl 0 rfl) ?_
    refine g_get S hN hw (C := RX11) (T := TX11) (N := 8) (ci := 11) (v := .ref a_g) 0 0 iX11 k12 dX11_stableMate_14 rfl rfl (by decide) rfl ?_
    refine g_getN S hN hw (C := RX2) (T := TX2) (N := 9) (ci := 2) (v := .int g_nodes) 1 0 iX2 w23 dX11_stableMate_17 rfl rfl (by decide) rfl ?_
    refine lv_bipush (v := 12) S.1 S.2.1 dX11_stableMate_20 (by decide) ?_
    refine lv_icmp_le (tgt := 28) S.1 S.2.1 dX11_stableMate_22 (by decide) (fun h_4 => ?_) (fun h_4 => ?_)
    · replace hf := if_t h_4 hf
      refine lv_aload_n S.1 S.2.1 dX11_stableMate_28 rfl (lv_at hl 0 rfl) ?_
      cases hf
    · replace hf := if_f h_4 hf
      refine lv_bipush (v := (-4)) S.1 S.2.1 dX11_stableMate_25 (by decide) ?_
      cases hf
      exact hE _ _ _ _ hw dX11_stableMate_27
  · replace hf := if_t h_3 hf
    refine lv_iconst (v := (-1)) S.1 S.2.1 dX11_stableMate_11 (by decide) ?_
    cases hf
    exact hE _ _ _ _ hw dX11_stableMate_12
def f_X11_joinArcN  : Option (Int32) :=
  some (-3)
set_option maxHeartbeats 4000000 in
set_option maxRecDepth 100000 in
theorem c_X11_joinArcN (l : Launch) (E : Ev) (a_g : Nat) (a_k : Nat) (x_ways : Option Nat) (x_sorts : Option Nat) (x_counts : Option Nat) (x_holds : Option Nat) (x_stables : Option Nat) (a_x : Nat) (p1 : Int32) (ro : Int32) (hf : f_X11_joinArcN = some ro) :
    CtI l yX11_joinArc wsX11_joinArc (Rm 0) E [.ref a_x, .int p1] [oC a_x 11 [.ref a_g, .ref a_k, va_rf x_ways, va_rf x_sorts, va_rf x_counts, va_rf x_holds, .null, va_rf x_stables]] ro [oC a_x 11 [.ref a_g, .ref a_k, va_rf x_ways, va_rf x_sorts, va_rf x_counts, va_rf x_holds, .null, va_rf x_stables]] := by
  refine ofI (cc := cX11_joinArc) (maxL := 2) (own := RX11) rfl rfl (by decide) rfl rfl ?_
  intro p e s m below meth c A ls Q S hnm hN hw hA hl0 hE
  have hl : lv_has ls 2 [(0, .ref a_x), (1, .int p1)] := hl0 _ (lv_entry [.ref a_x, .int p1] (n := 2) (Nat.le_of_ble_eq_true rfl))
  have iX11 : ∀ w ∈ wsX110, w ∈ wsX11_joinArc := by decide +kernel
  have k169 := S.2.2.2.2 (.fieldLink RX11 169 "PairMatching" "joins" "LPairMatching$Joins;") (by decide +kernel)
  unfold f_X11_joinArcN at hf
  refine lv_aload_n S.1 S.2.1 dX11_joinArc_0 rfl (lv_at hl 0 rfl) ?_
  refine g_get S hN hw (C := RX11) (T := TX11) (N := 8) (ci := 11) (v := .null) 0 6 iX11 k169 dX11_joinArc_1 rfl rfl (by decide) rfl ?_
  refine lv_ifnonnullN S.1 S.2.1 dX11_joinArc_4 ?_
  refine lv_bipush (v := (-3)) S.1 S.2.1 dX11_joinArc_7 (by decide) ?_
  cases hf
  exact hE _ _ _ _ hw dX11_joinArc_9
def f_X11_joinArcS (F : Nat) (p1 : Int32) (g_age : Int32) (j_told : Int64) (j_isTold : Int32) (j_pathsKnown : Int32) (j_age : Int32) : Option (Int32 × Int32 × Int32 × Int32) :=
  bd3 (f_X4_refresh g_age j_isTold j_pathsKnown j_age) (fun j_isTold_1 j_pathsKnown_2 j_age_3 => (if j_isTold_1 = 0 then some ((-3), j_isTold_1, j_pathsKnown_2, j_age_3) else (f_X11_arcInPlace F j_told p1).bind (fun r_6 => some (r_6, j_isTold_1, j_pathsKnown_2, j_age_3))))
set_option maxHeartbeats 4000000 in
set_option maxRecDepth 100000 in
theorem c_X11_joinArcS (l : Launch) (E : Ev) (F : Nat) (g_nodes : Int32) (g_made : Int32) (g_living : Int32) (g_age : Int32) (a_g_oneEnd : Nat) (a_g_otherEnd : Nat) (a_g_weights : Nat) (a_g_alive : Nat) (a_g_joined : Nat) (a_g : Nat) (a_k : Nat) (x_ways : Option Nat) (x_sorts : Option Nat) (x_counts : Option Nat) (x_holds : Option Nat) (a_c : Nat) (a_j_reached : Nat) (j_told : Int64) (j_isTold : Int32) (j_pathsKnown : Int32) (j_age : Int32) (a_j : Nat) (x_stables : Option Nat) (a_x : Nat) (p1 : Int32) (ro : Int32) (u_j_isTold : Int32) (u_j_pathsKnown : Int32) (u_j_age : Int32) (hf : f_X11_joinArcS F p1 g_age j_told j_isTold j_pathsKnown j_age = some (ro, u_j_isTold, u_j_pathsKnown, u_j_age)) :
    CtI l yX11_joinArc wsX11_joinArc (Rm 2) E [.ref a_x, .int p1] [oC a_x 11 [.ref a_g, .ref a_k, va_rf x_ways, va_rf x_sorts, va_rf x_counts, va_rf x_holds, .ref a_j, va_rf x_stables], oC a_g 2 [.int g_nodes, .int g_made, .int g_living, .int g_age, .ref a_g_oneEnd, .ref a_g_otherEnd, .ref a_g_weights, .ref a_g_alive, .ref a_g_joined], oC a_j 4 [.ref a_g, .ref a_c, .ref a_j_reached, .long j_told, .int j_isTold, .int j_pathsKnown, .int j_age]] ro [oC a_x 11 [.ref a_g, .ref a_k, va_rf x_ways, va_rf x_sorts, va_rf x_counts, va_rf x_holds, .ref a_j, va_rf x_stables], oC a_g 2 [.int g_nodes, .int g_made, .int g_living, .int g_age, .ref a_g_oneEnd, .ref a_g_otherEnd, .ref a_g_weights, .ref a_g_alive, .ref a_g_joined], oC a_j 4 [.ref a_g, .ref a_c, .ref a_j_reached, .long j_told, .int u_j_isTold, .int u_j_pathsKnown, .int u_j_age]] := by
  refine ofI (cc := cX11_joinArc) (maxL := 2) (own := RX11) rfl rfl (by decide) rfl rfl ?_
  intro p e s m below meth c A ls Q S hnm hN hw hA hl0 hE
  have hl : lv_has ls 2 [(0, .ref a_x), (1, .int p1)] := hl0 _ (lv_entry [.ref a_x, .int p1] (n := 2) (Nat.le_of_ble_eq_true rfl))
  have iX11 : ∀ w ∈ wsX110, w ∈ wsX11_joinArc := by decide +kernel
  have iX4 : ∀ w ∈ wsX40, w ∈ wsX11_joinArc := by decide +kernel
  have k169 := S.2.2.2.2 (.fieldLink RX11 169 "PairMatching" "joins" "LPairMatching$Joins;") (by decide +kernel)
  have w165 : Cond.fieldLinkNest RX11 165 "PairMatching$Joins" "told" "J" "PairMatching" ∈ nestW := List.mem_of_getElem? (i := 85) rfl
  have w176 : Cond.fieldLinkNest RX11 176 "PairMatching$Joins" "isTold" "Z" "PairMatching" ∈ nestW := List.mem_of_getElem? (i := 86) rfl
  unfold f_X11_joinArcS at hf
  refine lv_aload_n S.1 S.2.1 dX11_joinArc_0 rfl (lv_at hl 0 rfl) ?_
  refine g_get S hN hw (C := RX11) (T := TX11) (N := 8) (ci := 11) (v := .ref a_j) 0 6 iX11 k169 dX11_joinArc_1 rfl rfl (by decide) rfl ?_
  refine lv_ifnonnull (tgt := 10) S.1 S.2.1 dX11_joinArc_4 (by decide) ?_
  refine lv_aload_n S.1 S.2.1 dX11_joinArc_10 rfl (lv_at hl 0 rfl) ?_
  refine g_get S hN hw (C := RX11) (T := TX11) (N := 8) (ci := 11) (v := .ref a_j) 0 6 iX11 k169 dX11_joinArc_11 rfl rfl (by decide) rfl ?_
  obtain ⟨j_isTold_1, j_pathsKnown_2, j_age_3, hc_3, hf⟩ := bd3_s hf
  refine g_callv (wc := [oC a_j 4 [.ref a_g, .ref a_c, .ref a_j_reached, .long j_told, .int j_isTold, .int j_pathsKnown, .int j_age], oC a_g 2 [.int g_nodes, .int g_made, .int g_living, .int g_age, .ref a_g_oneEnd, .ref a_g_otherEnd, .ref a_g_weights, .ref a_g_alive, .ref a_g_joined]]) (wr := [oC a_x 11 [.ref a_g, .ref a_k, va_rf x_ways, va_rf x_sorts, va_rf x_counts, va_rf x_holds, .ref a_j, va_rf x_stables]]) (w1 := [oC a_j 4 [.ref a_g, .ref a_c, .ref a_j_reached, .long j_told, .int j_isTold_1, .int j_pathsKnown_2, .int j_age_3], oC a_g 2 [.int g_nodes, .int g_made, .int g_living, .int g_age, .ref a_g_oneEnd, .ref a_g_otherEnd, .ref a_g_weights, .ref a_g_alive, .ref a_g_joined]]) (va_runV (As := []) (rest := []) S (c_X4_refresh l E g_nodes g_made g_living g_age a_g_oneEnd a_g_otherEnd a_g_weights a_g_alive a_g_joined a_g a_c a_j_reached j_told j_isTold j_pathsKnown j_age a_j j_isTold_1 j_pathsKnown_2 j_age_3 hc_3 _) (cwV 0 S.2.2.2.2 gX11_joinArc_X4_refresh rfl rfl rfl (by decide +kernel) (rm_le (by omega) (by decide))) (preV (q := (RX4, TX4, 7)) hN hw [2, 1] rfl rfl rfl rfl) rfl rfl hl.1 rfl (lv_room (Nat.le_of_ble_eq_true rfl)) dX11_joinArc_14 ⟨Nat.le_refl _, Nat.le_refl _⟩) hw hA [2, 1] [0] rfl rfl rfl (by decide) (fun H locs hw => ?_)
  have hw : Wo E A s [oC a_x 11 [.ref a_g, .ref a_k, va_rf x_ways, va_rf x_sorts, va_rf x_counts, va_rf x_holds, .ref a_j, va_rf x_stables], oC a_j 4 [.ref a_g, .ref a_c, .ref a_j_reached, .long j_told, .int j_isTold_1, .int j_pathsKnown_2, .int j_age_3], oC a_g 2 [.int g_nodes, .int g_made, .int g_living, .int g_age, .ref a_g_oneEnd, .ref a_g_otherEnd, .ref a_g_weights, .ref a_g_alive, .ref a_g_joined]] H _ := hw
  refine lv_aload_n S.1 S.2.1 dX11_joinArc_17 rfl (lv_at hl 0 rfl) ?_
  refine g_get S hN hw (C := RX11) (T := TX11) (N := 8) (ci := 11) (v := .ref a_j) 0 6 iX11 k169 dX11_joinArc_18 rfl rfl (by decide) rfl ?_
  refine g_getN S hN hw (C := RX4) (T := TX4) (N := 7) (ci := 4) (v := .int j_isTold_1) 1 4 iX4 w176 dX11_joinArc_21 rfl rfl (by decide) rfl ?_
  refine lv_if_eq (tgt := 41) S.1 S.2.1 dX11_joinArc_24 (by decide) (fun h_5 => ?_) (fun h_5 => ?_)
  · replace hf := if_t h_5 hf
    refine lv_bipush (v := (-3)) S.1 S.2.1 dX11_joinArc_41 (by decide) ?_
    cases hf
    exact hE _ _ _ _ (hw.sub [0, 2, 1] rfl rfl) dX11_joinArc_43
  · replace hf := if_f h_5 hf
    refine lv_aload_n S.1 S.2.1 dX11_joinArc_27 rfl (lv_at hl 0 rfl) ?_
    refine g_get S hN hw (C := RX11) (T := TX11) (N := 8) (ci := 11) (v := .ref a_j) 0 6 iX11 k169 dX11_joinArc_28 rfl rfl (by decide) rfl ?_
    refine g_getN S hN hw (C := RX4) (T := TX4) (N := 7) (ci := 4) (v := .long j_told) 1 3 iX4 w165 dX11_joinArc_31 rfl rfl (by decide) rfl ?_
    refine lv_iload_n S.1 S.2.1 dX11_joinArc_34 rfl (lv_at hl 1 rfl) ?_
    obtain ⟨r_6, hc_6, hf⟩ := bd_s hf
    refine g_calli (r := r_6) (wc := []) (wr := [oC a_x 11 [.ref a_g, .ref a_k, va_rf x_ways, va_rf x_sorts, va_rf x_counts, va_rf x_holds, .ref a_j, va_rf x_stables], oC a_j 4 [.ref a_g, .ref a_c, .ref a_j_reached, .long j_told, .int j_isTold_1, .int j_pathsKnown_2, .int j_age_3], oC a_g 2 [.int g_nodes, .int g_made, .int g_living, .int g_age, .ref a_g_oneEnd, .ref a_g_otherEnd, .ref a_g_weights, .ref a_g_alive, .ref a_g_joined]]) (w1 := []) (va_runS (As := [.long j_told, .int p1]) (rest := []) S (c_X11_arcInPlace l E F j_told p1 r_6 hc_6 _) (va_cwS 2 S.2.2.2.2 gX11_joinArc_X11_arcInPlace rfl rfl rfl (by decide +kernel) (rm_le (by omega) (by decide))) (preS hN hw [] rfl rfl) rfl rfl hl.1 rfl (lv_room (Nat.le_of_ble_eq_true rfl)) dX11_joinArc_35 ⟨Nat.le_refl _, Nat.le_refl _⟩) hw hA [] [0, 1, 2] rfl rfl rfl (by decide) (fun H locs hw => ?_)
    have hw : Wo E A s [oC a_x 11 [.ref a_g, .ref a_k, va_rf x_ways, va_rf x_sorts, va_rf x_counts, va_rf x_holds, .ref a_j, va_rf x_stables], oC a_j 4 [.ref a_g, .ref a_c, .ref a_j_reached, .long j_told, .int j_isTold_1, .int j_pathsKnown_2, .int j_age_3], oC a_g 2 [.int g_nodes, .int g_made, .int g_living, .int g_age, .ref a_g_oneEnd, .ref a_g_otherEnd, .ref a_g_weights, .ref a_g_alive, .ref a_g_joined]] H _ := hw
    refine lv_goto (tgt := 43) S.1 S.2.1 dX11_joinArc_38 (by decide) ?_
    cases hf
    exact hE _ _ _ _ (hw.sub [0, 2, 1] rfl rfl) dX11_joinArc_43
