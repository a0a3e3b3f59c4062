def f_X11_nodeO (g_nodes : Int32) (g_age : Int32) : Option (Int32 × Int32 × Int32) :=
  (if g_nodes = 16 then some ((-4), g_nodes, g_age) else bd3 (f_X2_addNode g_nodes g_age) (fun r_2 g_nodes_3 g_age_4 => some (r_2, g_nodes_3, g_age_4)))
set_option maxHeartbeats 4000000 in
set_option maxRecDepth 100000 in
theorem c_X11_nodeO (l : Launch) (E : Ev) (g_nodes : Int32) (g_made : Int32) (g_living : Int32) (g_age : Int32) (a_g_oneEnd : Nat) (a_g_otherEnd : Nat) (a_g_weights : Nat) (a_g_alive : Nat) (a_g_joined : Nat) (a_g : Nat) (a_k : Nat) (x_ways : Option Nat) (x_sorts : Option Nat) (x_counts : Option Nat) (x_holds : Option Nat) (x_joins : Option Nat) (x_stables : Option Nat) (a_x : Nat) (ro : Int32) (u_g_nodes : Int32) (u_g_age : Int32) (hf : f_X11_nodeO g_nodes g_age = some (ro, u_g_nodes, u_g_age)) :
    CtI l yX11_node wsX11_node (Rm 1) E [.ref a_x] [oC a_x 11 [.ref a_g, .ref a_k, va_rf x_ways, va_rf x_sorts, va_rf x_counts, va_rf x_holds, va_rf x_joins, va_rf x_stables], oC a_g 2 [.int g_nodes, .int g_made, .int g_living, .int g_age, .ref a_g_oneEnd, .ref a_g_otherEnd, .ref a_g_weights, .ref a_g_alive, .ref a_g_joined]] ro [oC a_x 11 [.ref a_g, .ref a_k, va_rf x_ways, va_rf x_sorts, va_rf x_counts, va_rf x_holds, va_rf x_joins, va_rf x_stables], oC a_g 2 [.int u_g_nodes, .int g_made, .int g_living, .int u_g_age, .ref a_g_oneEnd, .ref a_g_otherEnd, .ref a_g_weights, .ref a_g_alive, .ref a_g_joined]] := by
  refine ofI (cc := cX11_node) (maxL := 1) (own := RX11) rfl rfl (by decide) rfl rfl ?_
  intro p e s m below meth c A ls Q S hnm hN hw hA hl0 hE
  have hl : lv_has ls 1 [(0, .ref a_x)] := hl0 _ (lv_entry [.ref a_x] (n := 1) (Nat.le_of_ble_eq_true rfl))
  have iX11 : ∀ w ∈ wsX110, w ∈ wsX11_node := by decide +kernel
  have iX2 : ∀ w ∈ wsX20, w ∈ wsX11_node := by decide +kernel
  have k12 := S.2.2.2.2 (.fieldLink RX11 12 "PairMatching" "graph" "LPairMatching$Graph;") (by decide +kernel)
  have w23 : Cond.fieldLinkNest RX11 23 "PairMatching$Graph" "nodes" "I" "PairMatching" ∈ nestW := List.mem_of_getElem? (i := 1) rfl
  unfold f_X11_nodeO at hf
  refine lv_aload_n S.1 S.2.1 dX11_node_0 rfl (lv_at hl 0 rfl) ?_
  refine g_get S hN hw (C := RX11) (T := TX11) (N := 8) (ci := 11) (v := .ref a_g) 0 0 iX11 k12 dX11_node_1 rfl rfl (by decide) rfl ?_
  refine g_getN S hN hw (C := RX2) (T := TX2) (N := 9) (ci := 2) (v := .int g_nodes) 1 0 iX2 w23 dX11_node_4 rfl rfl (by decide) rfl ?_
  refine lv_bipush (v := 16) S.1 S.2.1 dX11_node_7 (by decide) ?_
  refine lv_icmp_ne (tgt := 17) S.1 S.2.1 dX11_node_9 (by decide) (fun h_1 => ?_) (fun h_1 => ?_)
  · replace hf := if_f h_1 hf
    refine lv_aload_n S.1 S.2.1 dX11_node_17 rfl (lv_at hl 0 rfl) ?_
    refine g_get S hN hw (C := RX11) (T := TX11) (N := 8) (ci := 11) (v := .ref a_g) 0 0 iX11 k12 dX11_node_18 rfl rfl (by decide) rfl ?_
    obtain ⟨r_2, g_nodes_3, g_age_4, hc_4, hf⟩ := bd3_s hf
    refine g_calli (r := r_2) (wc := [oC a_g 2 [.int g_nodes, .int g_made, .int g_living, .int g_age, .ref a_g_oneEnd, .ref a_g_otherEnd, .ref a_g_weights, .ref a_g_alive, .ref a_g_joined]]) (wr := [oC a_x 11 [.ref a_g, .ref a_k, va_rf x_ways, va_rf x_sorts, va_rf x_counts, va_rf x_holds, va_rf x_joins, va_rf x_stables]]) (w1 := [oC a_g 2 [.int g_nodes_3, .int g_made, .int g_living, .int g_age_4, .ref a_g_oneEnd, .ref a_g_otherEnd, .ref a_g_weights, .ref a_g_alive, .ref a_g_joined]]) (va_runV (As := []) (rest := []) S (c_X2_addNode l E g_nodes g_made g_living g_age a_g_oneEnd a_g_otherEnd a_g_weights a_g_alive a_g_joined a_g r_2 g_nodes_3 g_age_4 hc_4 _) (cwV 0 S.2.2.2.2 gX11_node_X2_addNode rfl rfl rfl (by decide +kernel) (rm_le (by omega) (by decide))) (preV (q := (RX2, TX2, 9)) hN hw [1] rfl rfl rfl rfl) rfl rfl hl.1 rfl (lv_room (Nat.le_of_ble_eq_true rfl)) dX11_node_21 ⟨Nat.le_refl _, Nat.le_refl _⟩) hw hA [1] [0] rfl rfl rfl (by decide) (fun H locs hw => ?_)
    have hw : Wo E A s [oC a_x 11 [.ref a_g, .ref a_k, va_rf x_ways, va_rf x_sorts, va_rf x_counts, va_rf x_holds, va_rf x_joins, va_rf x_stables], oC a_g 2 [.int g_nodes_3, .int g_made, .int g_living, .int g_age_4, .ref a_g_oneEnd, .ref a_g_otherEnd, .ref a_g_weights, .ref a_g_alive, .ref a_g_joined]] H _ := hw
    cases hf
    exact hE _ _ _ _ hw dX11_node_24
  · replace hf := if_t h_1 hf
    refine lv_bipush (v := (-4)) S.1 S.2.1 dX11_node_12 (by decide) ?_
    refine lv_goto (tgt := 24) S.1 S.2.1 dX11_node_14 (by decide) ?_
    cases hf
    exact hE _ _ _ _ hw dX11_node_24
def f_X11_arcO (p1 : Int32) (p2 : Int32) (p3 : Int32) (g_nodes : Int32) (g_made : Int32) (g_living : Int32) (g_age : Int32) (g_oneEnd : Nat → Int32) (g_otherEnd : Nat → Int32) (g_weights : Nat → Int32) (g_alive : Nat → Int32) (g_joined : Nat → Int32) : Option (Int32 × Int32 × Int32 × Int32 × (Nat → Int32) × (Nat → Int32) × (Nat → Int32) × (Nat → Int32) × (Nat → Int32)) :=
  (if (f_X2_isNode p1 g_nodes) = 0 then some ((-1), g_made, g_living, g_age, g_oneEnd, g_otherEnd, g_weights, g_alive, g_joined) else (if (f_X2_isNode p2 g_nodes) = 0 then some ((-1), g_made, g_living, g_age, g_oneEnd, g_otherEnd, g_weights, g_alive, g_joined) else (if p1 = p2 then some ((-2), g_made, g_living, g_age, g_oneEnd, g_otherEnd, g_weights, g_alive, g_joined) else (if p3 < 0 then some ((-2), g_made, g_living, g_age, g_oneEnd, g_otherEnd, g_weights, g_alive, g_joined) else (if p3 ≤ 1000 then (if g_made = 60 then some ((-4), g_made, g_living, g_age, g_oneEnd, g_otherEnd, g_weights, g_alive, g_joined) else bd9 (f_X2_addArc p1 p2 p3 g_made g_living g_age g_oneEnd g_otherEnd g_weights g_alive g_joined) (fun r_11 g_made_12 g_living_13 g_age_14 g_oneEnd_15 g_otherEnd_16 g_weights_17 g_alive_18 g_joined_19 => some (r_11, g_made_12, g_living_13, g_age_14, g_oneEnd_15, g_otherEnd_16, g_weights_17, g_alive_18, g_joined_19))) else some ((-2), g_made, g_living, g_age, g_oneEnd, g_otherEnd, g_weights, g_alive, g_joined))))))
set_option maxHeartbeats 4000000 in
set_option maxRecDepth 100000 in
theorem c_X11_arcO (l : Launch) (E : Ev) (g_nodes : Int32) (g_made : Int32) (g_living : Int32) (g_age : Int32) (g_oneEnd : Nat → Int32) (a_g_oneEnd : Nat) (g_otherEnd : Nat → Int32) (a_g_otherEnd : Nat) (g_weights : Nat → Int32) (a_g_weights : Nat) (g_alive : Nat → Int32) (a_g_alive : Nat) (g_joined : Nat → Int32) (a_g_joined : Nat) (a_g : Nat) (a_k : Nat) (x_ways : Option Nat) (x_sorts : Option Nat) (x_counts : Option Nat) (x_holds : Option Nat) (x_joins : Option Nat) (x_stables : Option Nat) (a_x : Nat) (p1 : Int32) (p2 : Int32) (p3 : Int32) (ro : Int32) (u_g_made : Int32) (u_g_living : Int32) (u_g_age : Int32) (u_g_oneEnd : Nat → Int32) (u_g_otherEnd : Nat → Int32) (u_g_weights : Nat → Int32) (u_g_alive : Nat → Int32) (u_g_joined : Nat → Int32) (hf : f_X11_arcO p1 p2 p3 g_nodes g_made g_living g_age g_oneEnd g_otherEnd g_weights g_alive g_joined = some (ro, u_g_made, u_g_living, u_g_age, u_g_oneEnd, u_g_otherEnd, u_g_weights, u_g_alive, u_g_joined)) :
    CtI l yX11_arc wsX11_arc (Rm 2) E [.ref a_x, .int p1, .int p2, .int p3] [oC a_x 11 [.ref a_g, .ref a_k, va_rf x_ways, va_rf x_sorts, va_rf x_counts, va_rf x_holds, va_rf x_joins, va_rf x_stables], oC a_g 2 [.int g_nodes, .int g_made, .int g_living, .int g_age, .ref a_g_oneEnd, .ref a_g_otherEnd, .ref a_g_weights, .ref a_g_alive, .ref a_g_joined], aI E a_g_oneEnd 60 g_oneEnd, aI E a_g_otherEnd 60 g_otherEnd, aI E a_g_weights 60 g_weights, aZ E a_g_alive 60 g_alive, aI E a_g_joined 16 g_joined] ro [oC a_x 11 [.ref a_g, .ref a_k, va_rf x_ways, va_rf x_sorts, va_rf x_counts, va_rf x_holds, va_rf x_joins, va_rf x_stables], oC a_g 2 [.int g_nodes, .int u_g_made, .int u_g_living, .int u_g_age, .ref a_g_oneEnd, .ref a_g_otherEnd, .ref a_g_weights, .ref a_g_alive, .ref a_g_joined], aI E a_g_oneEnd 60 u_g_oneEnd, aI E a_g_otherEnd 60 u_g_otherEnd, aI E a_g_weights 60 u_g_weights, aZ E a_g_alive 60 u_g_alive, aI E a_g_joined 16 u_g_joined] := by
  refine ofI (cc := cX11_arc) (maxL := 4) (own := RX11) rfl rfl (by decide) rfl rfl ?_
  intro p e s m below meth c A ls Q S hnm hN hw hA hl0 hE
  have hl : lv_has ls 4 [(0, .ref a_x), (1, .int p1), (2, .int p2), (3, .int p3)] := hl0 _ (lv_entry [.ref a_x, .int p1, .int p2, .int p3] (n := 4) (Nat.le_of_ble_eq_true rfl))
  have iX11 : ∀ w ∈ wsX110, w ∈ wsX11_arc := by decide +kernel
  have iX2 : ∀ w ∈ wsX20, w ∈ wsX11_arc := by decide +kernel
  have k12 := S.2.2.2.2 (.fieldLink RX11 12 "PairMatching" "graph" "LPairMatching$Graph;") (by decide +kernel)
  have w35 : Cond.fieldLinkNest RX11 35 "PairMatching$Graph" "made" "I" "PairMatching" ∈ nestW := List.mem_of_getElem? (i := 7) rfl
  unfold f_X11_arcO at hf
  refine lv_aload_n S.1 S.2.1 dX11_arc_0 rfl (lv_at hl 0 rfl) ?_
  refine g_get S hN hw (C := RX11) (T := TX11) (N := 8) (ci := 11) (v := .ref a_g) 0 0 iX11 k12 dX11_arc_1 rfl rfl (by decide) rfl ?_
  refine lv_iload_n S.1 S.2.1 dX11_arc_4 rfl (lv_at hl 1 rfl) ?_
  refine g_calli (r := (f_X2_isNode p1 g_nodes)) (wc := [oC a_g 2 [.int g_nodes, .int g_made, .int g_living, .int g_age, .ref a_g_oneEnd, .ref a_g_otherEnd, .ref a_g_weights, .ref a_g_alive, .ref a_g_joined]]) (wr := [oC a_x 11 [.ref a_g, .ref a_k, va_rf x_ways, va_rf x_sorts, va_rf x_counts, va_rf x_holds, va_rf x_joins, va_rf x_stables], aI E a_g_oneEnd 60 g_oneEnd, aI E a_g_otherEnd 60 g_otherEnd, aI E a_g_weights 60 g_weights, aZ E a_g_alive 60 g_alive, aI E a_g_joined 16 g_joined]) (w1 := [oC a_g 2 [.int g_nodes, .int g_made, .int g_living, .int g_age, .ref a_g_oneEnd, .ref a_g_otherEnd, .ref a_g_weights, .ref a_g_alive, .ref a_g_joined]]) (va_runV (As := [.int p1]) (rest := []) S (c_X2_isNode l E g_nodes g_made g_living g_age a_g_oneEnd a_g_otherEnd a_g_weights a_g_alive a_g_joined a_g p1 (f_X2_isNode p1 g_nodes) rfl _) (cwV 1 S.2.2.2.2 gX11_arc_X2_isNode rfl rfl rfl (by decide +kernel) (rm_le (by omega) (by decide))) (preV (q := (RX2, TX2, 9)) hN hw [1] rfl rfl rfl rfl) rfl rfl hl.1 rfl (lv_room (Nat.le_of_ble_eq_true rfl)) dX11_arc_5 ⟨Nat.le_refl _, Nat.le_refl _⟩) hw hA [1] [0, 2, 3, 4, 5, 6] rfl rfl rfl (by decide) (fun H locs hw => ?_)
  have hw : Wo E A s [oC a_x 11 [.ref a_g, .ref a_k, va_rf x_ways, va_rf x_sorts, va_rf x_counts, va_rf x_holds, va_rf x_joins, va_rf x_stables], aI E a_g_oneEnd 60 g_oneEnd, aI E a_g_otherEnd 60 g_otherEnd, aI E a_g_weights 60 g_weights, aZ E a_g_alive 60 g_alive, aI E a_g_joined 16 g_joined, oC a_g 2 [.int g_nodes, .int g_made, .int g_living, .int g_age, .ref a_g_oneEnd, .ref a_g_otherEnd, .ref a_g_weights, .ref a_g_alive, .ref a_g_joined]] H _ := hw
  refine lv_if_eq (tgt := 22) S.1 S.2.1 dX11_arc_8 (by decide) (fun h_3 => ?_) (fun h_3 => ?_)
  · replace hf := if_t h_3 hf
    refine lv_iconst (v := (-1)) S.1 S.2.1 dX11_arc_22 (by decide) ?_
    cases hf
    exact hE _ _ _ _ (hw.sub [0, 6, 1, 2, 3, 4, 5] rfl rfl) dX11_arc_23
  · replace hf := if_f h_3 hf
    refine lv_aload_n S.1 S.2.1 dX11_arc_11 rfl (lv_at hl 0 rfl) ?_
    refine g_get S hN hw (C := RX11) (T := TX11) (N := 8) (ci := 11) (v := .ref a_g) 0 0 iX11 k12 dX11_arc_12 rfl rfl (by decide) rfl ?_
    refine lv_iload_n S.1 S.2.1 dX11_arc_15 rfl (lv_at hl 2 rfl) ?_
    refine g_calli (r := (f_X2_isNode p2 g_nodes)) (wc := [oC a_g 2 [.int g_nodes, .int g_made, .int g_living, .int g_age, .ref a_g_oneEnd, .ref a_g_otherEnd, .ref a_g_weights, .ref a_g_alive, .ref a_g_joined]]) (wr := [oC a_x 11 [.ref a_g, .ref a_k, va_rf x_ways, va_rf x_sorts, va_rf x_counts, va_rf x_holds, va_rf x_joins, va_rf x_stables], aI E a_g_oneEnd 60 g_oneEnd, aI E a_g_otherEnd 60 g_otherEnd, aI E a_g_weights 60 g_weights, aZ E a_g_alive 60 g_alive, aI E a_g_joined 16 g_joined]) (w1 := [oC a_g 2 [.int g_nodes, .int g_made, .int g_living, .int g_age, .ref a_g_oneEnd, .ref a_g_otherEnd, .ref a_g_weights, .ref a_g_alive, .ref a_g_joined]]) (va_runV (As := [.int p2]) (rest := []) S (c_X2_isNode l E g_nodes g_made g_living g_age a_g_oneEnd a_g_otherEnd a_g_weights a_g_alive a_g_joined a_g p2 (f_X2_isNode p2 g_nodes) rfl _) (cwV 1 S.2.2.2.2 gX11_arc_X2_isNode rfl rfl rfl (by decide +kernel) (rm_le (by omega) (by decide))) (preV (q := (RX2, TX2, 9)) hN hw [6] rfl rfl rfl rfl) rfl rfl hl.1 rfl (lv_room (Nat.le_of_ble_eq_true rfl)) dX11_arc_16 ⟨Nat.le_refl _, Nat.le_refl _⟩) hw hA [6] [0, 1, 2, 3, 4, 5] rfl rfl rfl (by decide) (fun H locs hw => ?_)
    have hw : Wo E A s [oC a_x 11 [.ref a_g, .ref a_k, va_rf x_ways, va_rf x_sorts, va_rf x_counts, va_rf x_holds, va_rf x_joins, va_rf x_stables], aI E a_g_oneEnd 60 g_oneEnd, aI E a_g_otherEnd 60 g_otherEnd, aI E a_g_weights 60 g_weights, aZ E a_g_alive 60 g_alive, aI E a_g_joined 16 g_joined, oC a_g 2 [.int g_nodes, .int g_made, .int g_living, .int g_age, .ref a_g_oneEnd, .ref a_g_otherEnd, .ref a_g_weights, .ref a_g_alive, .ref a_g_joined]] H _ := hw
    refine lv_if_ne (tgt := 24) S.1 S.2.1 dX11_arc_19 (by decide) (fun h_6 => ?_) (fun h_6 => ?_)
    · replace hf := if_f h_6 hf
      refine lv_iload_n S.1 S.2.1 dX11_arc_24 rfl (lv_at hl 1 rfl) ?_
      refine lv_iload_n S.1 S.2.1 dX11_arc_25 rfl (lv_at hl 2 rfl) ?_
      refine lv_icmp_eq (tgt := 40) S.1 S.2.1 dX11_arc_26 (by decide) (fun h_7 => ?_) (fun h_7 => ?_)
      · replace hf := if_t h_7 hf
        refine lv_bipush (v := (-2)) S.1 S.2.1 dX11_arc_40 (by decide) ?_
        cases hf
        exact hE _ _ _ _ (hw.sub [0, 6, 1, 2, 3, 4, 5] rfl rfl) dX11_arc_42
      · replace hf := if_f h_7 hf
        refine lv_iload_n S.1 S.2.1 dX11_arc_29 rfl (lv_at hl 3 rfl) ?_
        refine lv_if_lt (tgt := 40) S.1 S.2.1 dX11_arc_30 (by decide) (fun h_8 => ?_) (fun h_8 => ?_)
        · replace hf := if_t h_8 hf
          refine lv_bipush (v := (-2)) S.1 S.2.1 dX11_arc_40 (by decide) ?_
          cases hf
          exact hE _ _ _ _ (hw.sub [0, 6, 1, 2, 3, 4, 5] rfl rfl) dX11_arc_42
        · replace hf := if_f h_8 hf
          refine lv_iload_n S.1 S.2.1 dX11_arc_33 rfl (lv_at hl 3 rfl) ?_
          refine lv_sipush (v := 1000) S.1 S.2.1 dX11_arc_34 (by decide) ?_
          refine lv_icmp_le (tgt := 43) S.1 S.2.1 dX11_arc_37 (by decide) (fun h_9 => ?_) (fun h_9 => ?_)
          · replace hf := if_t h_9 hf
            refine lv_aload_n S.1 S.2.1 dX11_arc_43 rfl (lv_at hl 0 rfl) ?_
            refine g_get S hN hw (C := RX11) (T := TX11) (N := 8) (ci := 11) (v := .ref a_g) 0 0 iX11 k12 dX11_arc_44 rfl rfl (by decide) rfl ?_
            refine g_getN S hN hw (C := RX2) (T := TX2) (N := 9) (ci := 2) (v := .int g_made) 6 1 iX2 w35 dX11_arc_47 rfl rfl (by decide) rfl ?_
            refine lv_bipush (v := 60) S.1 S.2.1 dX11_arc_50 (by decide) ?_
            refine lv_icmp_ne (tgt := 60) S.1 S.2.1 dX11_arc_52 (by decide) (fun h_10 => ?_) (fun h_10 => ?_)
            · replace hf := if_f h_10 hf
              refine lv_aload_n S.1 S.2.1 dX11_arc_60 rfl (lv_at hl 0 rfl) ?_
              refine g_get S hN hw (C := RX11) (T := TX11) (N := 8) (ci := 11) (v := .ref a_g) 0 0 iX11 k12 dX11_arc_61 rfl rfl (by decide) rfl ?_
              refine lv_iload_n S.1 S.2.1 dX11_arc_64 rfl (lv_at hl 1 rfl) ?_
              refine lv_iload_n S.1 S.2.1 dX11_arc_65 rfl (lv_at hl 2 rfl) ?_
              refine lv_iload_n S.1 S.2.1 dX11_arc_66 rfl (lv_at hl 3 rfl) ?_
              obtain ⟨r_11, g_made_12, g_living_13, g_age_14, g_oneEnd_15, g_otherEnd_16, g_weights_17, g_alive_18, g_joined_19, hc_19, hf⟩ := bd9_s hf
              refine g_calli (r := r_11) (wc := [oC a_g 2 [.int g_nodes, .int g_made, .int g_living, .int g_age, .ref a_g_oneEnd, .ref a_g_otherEnd, .ref a_g_weights, .ref a_g_alive, .ref a_g_joined], aI E a_g_oneEnd 60 g_oneEnd, aI E a_g_otherEnd 60 g_otherEnd, aI E a_g_weights 60 g_weights, aZ E a_g_alive 60 g_alive, aI E a_g_joined 16 g_joined]) (wr := [oC a_x 11 [.ref a_g, .ref a_k, va_rf x_ways, va_rf x_sorts, va_rf x_counts, va_rf x_holds, va_rf x_joins, va_rf x_stables]]) (w1 := [oC a_g 2 [.int g_nodes, .int g_made_12, .int g_living_13, .int g_age_14, .ref a_g_oneEnd, .ref a_g_otherEnd, .ref a_g_weights, .ref a_g_alive, .ref a_g_joined], aI E a_g_oneEnd 60 g_oneEnd_15, aI E a_g_otherEnd 60 g_otherEnd_16, aI E a_g_weights 60 g_weights_17, aZ E a_g_alive 60 g_alive_18, aI E a_g_joined 16 g_joined_19]) (va_runV (As := [.int p1, .int p2, .int p3]) (rest := []) S (c_X2_addArc l E g_nodes g_made g_living g_age g_oneEnd a_g_oneEnd g_otherEnd a_g_otherEnd g_weights a_g_weights g_alive a_g_alive g_joined a_g_joined a_g p1 p2 p3 r_11 g_made_12 g_living_13 g_age_14 g_oneEnd_15 g_otherEnd_16 g_weights_17 g_alive_18 g_joined_19 hc_19 _) (cwV 3 S.2.2.2.2 gX11_arc_X2_addArc rfl rfl rfl (by decide +kernel) (rm_le (by omega) (by decide))) (preV (q := (RX2, TX2, 9)) hN hw [6, 1, 2, 3, 4, 5] rfl rfl rfl rfl) rfl rfl hl.1 rfl (lv_room (Nat.le_of_ble_eq_true rfl)) dX11_arc_67 ⟨Nat.le_refl _, Nat.le_refl _⟩) hw hA [6, 1, 2, 3, 4, 5] [0] rfl rfl rfl (by decide) (fun H locs hw => ?_)
              have hw : Wo E A s [oC a_x 11 [.ref a_g, .ref a_k, va_rf x_ways, va_rf x_sorts, va_rf x_counts, va_rf x_holds, va_rf x_joins, va_rf x_stables], oC a_g 2 [.int g_nodes, .int g_made_12, .int g_living_13, .int g_age_14, .ref a_g_oneEnd, .ref a_g_otherEnd, .ref a_g_weights, .ref a_g_alive, .ref a_g_joined], aI E a_g_oneEnd 60 g_oneEnd_15, aI E a_g_otherEnd 60 g_otherEnd_16, aI E a_g_weights 60 g_weights_17, aZ E a_g_alive 60 g_alive_18, aI E a_g_joined 16 g_joined_19] H _ := hw
              cases hf
              exact hE _ _ _ _ hw dX11_arc_70
            · replace hf := if_t h_10 hf
              refine lv_bipush (v := (-4)) S.1 S.2.1 dX11_arc_55 (by decide) ?_
              refine lv_goto (tgt := 70) S.1 S.2.1 dX11_arc_57 (by decide) ?_
              cases hf
              exact hE _ _ _ _ (hw.sub [0, 6, 1, 2, 3, 4, 5] rfl rfl) dX11_arc_70
          · replace hf := if_f h_9 hf
            refine lv_bipush (v := (-2)) S.1 S.2.1 dX11_arc_40 (by decide) ?_
            cases hf
            exact hE _ _ _ _ (hw.sub [0, 6, 1, 2, 3, 4, 5] rfl rfl) dX11_arc_42
    · replace hf := if_t h_6 hf
      refine lv_iconst (v := (-1)) S.1 S.2.1 dX11_arc_22 (by decide) ?_
      cases hf
      exact hE _ _ _ _ (hw.sub [0, 6, 1, 2, 3, 4, 5] rfl rfl) dX11_arc_23
def f_X11_cutO (F : Nat) (p1 : Int32) (g_made : Int32) (g_living : Int32) (g_age : Int32) (g_oneEnd : Nat → Int32) (g_otherEnd : Nat → Int32) (g_alive : Nat → Int32) (g_joined : Nat → Int32) : Option (Int32 × Int32 × Int32 × (Nat → Int32) × (Nat → Int32)) :=
  (f_X2_isArc p1 g_made g_alive).bind (fun r_1 => (if r_1 = 0 then some ((-1), g_living, g_age, g_alive, g_joined) else bd4 (f_X2_removeArc F p1 g_made g_living g_age g_oneEnd g_otherEnd g_alive g_joined) (fun g_living_4 g_age_5 g_alive_6 g_joined_7 => some (g_living_4, g_living_4, g_age_5, g_alive_6, g_joined_7))))
set_option maxHeartbeats 4000000 in
set_option maxRecDepth 100000 in
theorem c_X11_cutO (l : Launch) (E : Ev) (F : Nat) (g_nodes : Int32) (g_made : Int32) (g_living : Int32) (g_age : Int32) (g_oneEnd : Nat → Int32) (a_g_oneEnd : Nat) (g_otherEnd : Nat → Int32) (a_g_otherEnd : Nat) (a_g_weights : Nat) (g_alive : Nat → Int32) (a_g_alive : Nat) (g_joined : Nat → Int32) (a_g_joined : Nat) (a_g : Nat) (a_k : Nat) (x_ways : Option Nat) (x_sorts : Option Nat) (x_counts : Option Nat) (x_holds : Option Nat) (x_joins : Option Nat) (x_stables : Option Nat) (a_x : Nat) (p1 : Int32) (ro : Int32) (u_g_living : Int32) (u_g_age : Int32) (u_g_alive : Nat → Int32) (u_g_joined : Nat → Int32) (hf : f_X11_cutO F p1 g_made g_living g_age g_oneEnd g_otherEnd g_alive g_joined = some (ro, u_g_living, u_g_age, u_g_alive, u_g_joined)) :
    CtI l yX11_cut wsX11_cut (Rm 2) E [.ref a_x, .int p1] [oC a_x 11 [.ref a_g, .ref a_k, va_rf x_ways, va_rf x_sorts, va_rf x_counts, va_rf x_holds, va_rf x_joins, va_rf x_stables], oC a_g 2 [.int g_nodes, .int g_made, .int g_living, .int g_age, .ref a_g_oneEnd, .ref a_g_otherEnd, .ref a_g_weights, .ref a_g_alive, .ref a_g_joined], aI E a_g_oneEnd 60 g_oneEnd, aI E a_g_otherEnd 60 g_otherEnd, aZ E a_g_alive 60 g_alive, aI E a_g_joined 16 g_joined] ro [oC a_x 11 [.ref a_g, .ref a_k, va_rf x_ways, va_rf x_sorts, va_rf x_counts, va_rf x_holds, va_rf x_joins, va_rf x_stables], oC a_g 2 [.int g_nodes, .int g_made, .int u_g_living, .int u_g_age, .ref a_g_oneEnd, .ref a_g_otherEnd, .ref a_g_weights, .ref a_g_alive, .ref a_g_joined], aI E a_g_oneEnd 60 g_oneEnd, aI E a_g_otherEnd 60 g_otherEnd, aZ E a_g_alive 60 u_g_alive, aI E a_g_joined 16 u_g_joined] := by
  refine ofI (cc := cX11_cut) (maxL := 2) (own := RX11) rfl rfl (by decide) rfl rfl ?_
  intro p e s m below meth c A ls Q S hnm hN hw hA hl0 hE
  have hl : lv_has ls 2 [(0, .ref a_x), (1, .int p1)] := hl0 _ (lv_entry [.ref a_x, .int p1] (n := 2) (Nat.le_of_ble_eq_true rfl))
  have iX11 : ∀ w ∈ wsX110, w ∈ wsX11_cut := by decide +kernel
  have iX2 : ∀ w ∈ wsX20, w ∈ wsX11_cut := by decide +kernel
  have k12 := S.2.2.2.2 (.fieldLink RX11 12 "PairMatching" "graph" "LPairMatching$Graph;") (by decide +kernel)
  have w49 : Cond.fieldLinkNest RX11 49 "PairMatching$Graph" "living" "I" "PairMatching" ∈ nestW := List.mem_of_getElem? (i := 11) rfl
  unfold f_X11_cutO at hf
  refine lv_aload_n S.1 S.2.1 dX11_cut_0 rfl (lv_at hl 0 rfl) ?_
  refine g_get S hN hw (C := RX11) (T := TX11) (N := 8) (ci := 11) (v := .ref a_g) 0 0 iX11 k12 dX11_cut_1 rfl rfl (by decide) rfl ?_
  refine lv_iload_n S.1 S.2.1 dX11_cut_4 rfl (lv_at hl 1 rfl) ?_
  obtain ⟨r_1, hc_1, hf⟩ := bd_s hf
  refine g_calli (r := r_1) (wc := [oC a_g 2 [.int g_nodes, .int g_made, .int g_living, .int g_age, .ref a_g_oneEnd, .ref a_g_otherEnd, .ref a_g_weights, .ref a_g_alive, .ref a_g_joined], aZ E a_g_alive 60 g_alive]) (wr := [oC a_x 11 [.ref a_g, .ref a_k, va_rf x_ways, va_rf x_sorts, va_rf x_counts, va_rf x_holds, va_rf x_joins, va_rf x_stables], aI E a_g_oneEnd 60 g_oneEnd, aI E a_g_otherEnd 60 g_otherEnd, aI E a_g_joined 16 g_joined]) (w1 := [oC a_g 2 [.int g_nodes, .int g_made, .int g_living, .int g_age, .ref a_g_oneEnd, .ref a_g_otherEnd, .ref a_g_weights, .ref a_g_alive, .ref a_g_joined], aZ E a_g_alive 60 g_alive]) (va_runV (As := [.int p1]) (rest := []) S (c_X2_isArc l E g_nodes g_made g_living g_age a_g_oneEnd a_g_otherEnd a_g_weights g_alive a_g_alive a_g_joined a_g p1 r_1 hc_1 _) (cwV 1 S.2.2.2.2 gX11_cut_X2_isArc rfl rfl rfl (by decide +kernel) (rm_le (by omega) (by decide))) (preV (q := (RX2, TX2, 9)) hN hw [1, 4] rfl rfl rfl rfl) rfl rfl hl.1 rfl (lv_room (Nat.le_of_ble_eq_true rfl)) dX11_cut_5 ⟨Nat.le_refl _, Nat.le_refl _⟩) hw hA [1, 4] [0, 2, 3, 5] rfl rfl rfl (by decide) (fun H locs hw => ?_)
  have hw : Wo E A s [oC a_x 11 [.ref a_g, .ref a_k, va_rf x_ways, va_rf x_sorts, va_rf x_counts, va_rf x_holds, va_rf x_joins, va_rf x_stables], aI E a_g_oneEnd 60 g_oneEnd, aI E a_g_otherEnd 60 g_otherEnd, aI E a_g_joined 16 g_joined, oC a_g 2 [.int g_nodes, .int g_made, .int g_living, .int g_age, .ref a_g_oneEnd, .ref a_g_otherEnd, .ref a_g_weights, .ref a_g_alive, .ref a_g_joined], aZ E a_g_alive 60 g_alive] H _ := hw
  refine lv_if_ne (tgt := 13) S.1 S.2.1 dX11_cut_8 (by decide) (fun h_3 => ?_) (fun h_3 => ?_)
  · replace hf := if_f h_3 hf
    refine lv_aload_n S.1 S.2.1 dX11_cut_13 rfl (lv_at hl 0 rfl) ?_
    refine g_get S hN hw (C := RX11) (T := TX11) (N := 8) (ci := 11) (v := .ref a_g) 0 0 iX11 k12 dX11_cut_14 rfl rfl (by decide) rfl ?_
    refine lv_iload_n S.1 S.2.1 dX11_cut_17 rfl (lv_at hl 1 rfl) ?_
    obtain ⟨g_living_4, g_age_5, g_alive_6, g_joined_7, hc_7, hf⟩ := bd4_s hf
    refine g_callv (wc := [oC a_g 2 [.int g_nodes, .int g_made, .int g_living, .int g_age, .ref a_g_oneEnd, .ref a_g_otherEnd, .ref a_g_weights, .ref a_g_alive, .ref a_g_joined], aI E a_g_oneEnd 60 g_oneEnd, aI E a_g_otherEnd 60 g_otherEnd, aZ E a_g_alive 60 g_alive, aI E a_g_joined 16 g_joined]) (wr := [oC a_x 11 [.ref a_g, .ref a_k, va_rf x_ways, va_rf x_sorts, va_rf x_counts, va_rf x_holds, va_rf x_joins, va_rf x_stables]]) (w1 := [oC a_g 2 [.int g_nodes, .int g_made, .int g_living_4, .int g_age_5, .ref a_g_oneEnd, .ref a_g_otherEnd, .ref a_g_weights, .ref a_g_alive, .ref a_g_joined], aI E a_g_oneEnd 60 g_oneEnd, aI E a_g_otherEnd 60 g_otherEnd, aZ E a_g_alive 60 g_alive_6, aI E a_g_joined 16 g_joined_7]) (va_runV (As := [.int p1]) (rest := []) S (c_X2_removeArc l E F g_nodes g_made g_living g_age g_oneEnd a_g_oneEnd g_otherEnd a_g_otherEnd a_g_weights g_alive a_g_alive g_joined a_g_joined a_g p1 g_living_4 g_age_5 g_alive_6 g_joined_7 hc_7 _) (cwV 1 S.2.2.2.2 gX11_cut_X2_removeArc rfl rfl rfl (by decide +kernel) (rm_le (by omega) (by decide))) (preV (q := (RX2, TX2, 9)) hN hw [4, 1, 2, 5, 3] rfl rfl rfl rfl) rfl rfl hl.1 rfl (lv_room (Nat.le_of_ble_eq_true rfl)) dX11_cut_18 ⟨Nat.le_refl _, Nat.le_refl _⟩) hw hA [4, 1, 2, 5, 3] [0] rfl rfl rfl (by decide) (fun H locs hw => ?_)
    have hw : Wo E A s [oC a_x 11 [.ref a_g, .ref a_k, va_rf x_ways, va_rf x_sorts, va_rf x_counts, va_rf x_holds, va_rf x_joins, va_rf x_stables], oC a_g 2 [.int g_nodes, .int g_made, .int g_living_4, .int g_age_5, .ref a_g_oneEnd, .ref a_g_otherEnd, .ref a_g_weights, .ref a_g_alive, .ref a_g_joined], aI E a_g_oneEnd 60 g_oneEnd, aI E a_g_otherEnd 60 g_otherEnd, aZ E a_g_alive 60 g_alive_6, aI E a_g_joined 16 g_joined_7] H _ := hw
    refine lv_aload_n S.1 S.2.1 dX11_cut_21 rfl (lv_at hl 0 rfl) ?_
    refine g_get S hN hw (C := RX11) (T := TX11) (N := 8) (ci := 11) (v := .ref a_g) 0 0 iX11 k12 dX11_cut_22 rfl rfl (by decide) rfl ?_
    refine g_getN S hN hw (C := RX2) (T := TX2) (N := 9) (ci := 2) (v := .int g_living_4) 1 2 iX2 w49 dX11_cut_25 rfl rfl (by decide) rfl ?_
    cases hf
    exact hE _ _ _ _ hw dX11_cut_28
  · replace hf := if_t h_3 hf
    refine lv_iconst (v := (-1)) S.1 S.2.1 dX11_cut_11 (by decide) ?_
    cases hf
    exact hE _ _ _ _ (hw.sub [0, 4, 1, 2, 5, 3] rfl rfl) dX11_cut_12
def f_X11_clearO (F : Nat) (g_nodes : Int32) (g_age : Int32) (g_joined : Nat → Int32) (k_age : Int32) (k_given : Nat → Int32) : Option (Int32 × Int32 × Int32 × Int32 × Int32 × (Nat → Int32) × Int32 × (Nat → Int32)) :=
  bd5 (f_X2_removeAll F g_age g_joined) (fun g_nodes_1 g_made_2 g_living_3 g_age_4 g_joined_5 => bd2 (f_X6_removeAll F k_age k_given) (fun k_age_7 k_given_8 => some (g_nodes, g_nodes_1, g_made_2, g_living_3, g_age_4, g_joined_5, k_age_7, k_given_8)))
set_option maxHeartbeats 4000000 in
set_option maxRecDepth 100000 in
theorem c_X11_clearO (l : Launch) (E : Ev) (F : Nat) (g_nodes : Int32) (g_made : Int32) (g_living : Int32) (g_age : Int32) (a_g_oneEnd : Nat) (a_g_otherEnd : Nat) (a_g_weights : Nat) (a_g_alive : Nat) (g_joined : Nat → Int32) (a_g_joined : Nat) (a_g : Nat) (k_age : Int32) (k_given : Nat → Int32) (a_k_given : Nat) (a_k : Nat) (x_ways : Option Nat) (x_sorts : Option Nat) (x_counts : Option Nat) (x_holds : Option Nat) (x_joins : Option Nat) (x_stables : Option Nat) (a_x : Nat) (ro : Int32) (u_g_nodes : Int32) (u_g_made : Int32) (u_g_living : Int32) (u_g_age : Int32) (u_g_joined : Nat → Int32) (u_k_age : Int32) (u_k_given : Nat → Int32) (hf : f_X11_clearO F g_nodes g_age g_joined k_age k_given = some (ro, u_g_nodes, u_g_made, u_g_living, u_g_age, u_g_joined, u_k_age, u_k_given)) :
    CtI l yX11_clear wsX11_clear (Rm 2) E [.ref a_x] [oC a_x 11 [.ref a_g, .ref a_k, va_rf x_ways, va_rf x_sorts, va_rf x_counts, va_rf x_holds, va_rf x_joins, va_rf x_stables], oC a_g 2 [.int g_nodes, .int g_made, .int g_living, .int g_age, .ref a_g_oneEnd, .ref a_g_otherEnd, .ref a_g_weights, .ref a_g_alive, .ref a_g_joined], aI E a_g_joined 16 g_joined, oC a_k 6 [.int k_age, .ref a_k_given], aI E a_k_given 256 k_given] ro [oC a_x 11 [.ref a_g, .ref a_k, va_rf x_ways, va_rf x_sorts, va_rf x_counts, va_rf x_holds, va_rf x_joins, va_rf x_stables], oC a_g 2 [.int u_g_nodes, .int u_g_made, .int u_g_living, .int u_g_age, .ref a_g_oneEnd, .ref a_g_otherEnd, .ref a_g_weights, .ref a_g_alive, .ref a_g_joined], aI E a_g_joined 16 u_g_joined, oC a_k 6 [.int u_k_age, .ref a_k_given], aI E a_k_given 256 u_k_given] := by
  refine ofI (cc := cX11_clear) (maxL := 2) (own := RX11) rfl rfl (by decide) rfl rfl ?_
  intro p e s m below meth c A ls Q S hnm hN hw hA hl0 hE
  have hl : lv_has ls 2 [(0, .ref a_x)] := hl0 _ (lv_entry [.ref a_x] (n := 2) (Nat.le_of_ble_eq_true rfl))
  have iX11 : ∀ w ∈ wsX110, w ∈ wsX11_clear := by decide +kernel
  have iX2 : ∀ w ∈ wsX20, w ∈ wsX11_clear := by decide +kernel
  have k12 := S.2.2.2.2 (.fieldLink RX11 12 "PairMatching" "graph" "LPairMatching$Graph;") (by decide +kernel)
  have k19 := S.2.2.2.2 (.fieldLink RX11 19 "PairMatching" "ranks" "LPairMatching$Ranks;") (by decide +kernel)
  have w23 : Cond.fieldLinkNest RX11 23 "PairMatching$Graph" "nodes" "I" "PairMatching" ∈ nestW := List.mem_of_getElem? (i := 1) rfl
  unfold f_X11_clearO at hf
  refine lv_aload_n S.1 S.2.1 dX11_clear_0 rfl (lv_at hl 0 rfl) ?_
  refine g_get S hN hw (C := RX11) (T := TX11) (N := 8) (ci := 11) (v := .ref a_g) 0 0 iX11 k12 dX11_clear_1 rfl rfl (by decide) rfl ?_
  refine g_getN S hN hw (C := RX2) (T := TX2) (N := 9) (ci := 2) (v := .int g_nodes) 1 0 iX2 w23 dX11_clear_4 rfl rfl (by decide) rfl ?_
  refine lv_istore_n (lv' := [(1, .int g_nodes), (0, .ref a_x)]) S.1 S.2.1 dX11_clear_7 rfl hl (by decide) rfl (fun ls hl => ?_)
  refine lv_aload_n S.1 S.2.1 dX11_clear_8 rfl (lv_at hl 1 rfl) ?_
  refine g_get S hN hw (C := RX11) (T := TX11) (N := 8) (ci := 11) (v := .ref a_g) 0 0 iX11 k12 dX11_clear_9 rfl rfl (by decide) rfl ?_
  obtain ⟨g_nodes_1, g_made_2, g_living_3, g_age_4, g_joined_5, hc_5, hf⟩ := bd5_s hf
  refine g_callv (wc := [oC a_g 2 [.int g_nodes, .int g_made, .int g_living, .int g_age, .ref a_g_oneEnd, .ref a_g_otherEnd, .ref a_g_weights, .ref a_g_alive, .ref a_g_joined], aI E a_g_joined 16 g_joined]) (wr := [oC a_x 11 [.ref a_g, .ref a_k, va_rf x_ways, va_rf x_sorts, va_rf x_counts, va_rf x_holds, va_rf x_joins, va_rf x_stables], oC a_k 6 [.int k_age, .ref a_k_given], aI E a_k_given 256 k_given]) (w1 := [oC a_g 2 [.int g_nodes_1, .int g_made_2, .int g_living_3, .int g_age_4, .ref a_g_oneEnd, .ref a_g_otherEnd, .ref a_g_weights, .ref a_g_alive, .ref a_g_joined], aI E a_g_joined 16 g_joined_5]) (va_runV (As := []) (rest := []) S (c_X2_removeAll l E F g_nodes g_made g_living g_age a_g_oneEnd a_g_otherEnd a_g_weights a_g_alive g_joined a_g_joined a_g g_nodes_1 g_made_2 g_living_3 g_age_4 g_joined_5 hc_5 _) (cwV 0 S.2.2.2.2 gX11_clear_X2_removeAll rfl rfl rfl (by decide +kernel) (rm_le (by omega) (by decide))) (preV (q := (RX2, TX2, 9)) hN hw [1, 2] rfl rfl rfl rfl) rfl rfl hl.1 rfl (lv_room (Nat.le_of_ble_eq_true rfl)) dX11_clear_12 ⟨Nat.le_refl _, Nat.le_refl _⟩) hw hA [1, 2] [0, 3, 4] rfl rfl rfl (by decide) (fun H locs hw => ?_)
  have hw : Wo E A s [oC a_x 11 [.ref a_g, .ref a_k, va_rf x_ways, va_rf x_sorts, va_rf x_counts, va_rf x_holds, va_rf x_joins, va_rf x_stables], oC a_k 6 [.int k_age, .ref a_k_given], aI E a_k_given 256 k_given, oC a_g 2 [.int g_nodes_1, .int g_made_2, .int g_living_3, .int g_age_4, .ref a_g_oneEnd, .ref a_g_otherEnd, .ref a_g_weights, .ref a_g_alive, .ref a_g_joined], aI E a_g_joined 16 g_joined_5] H _ := hw
  refine lv_aload_n S.1 S.2.1 dX11_clear_15 rfl (lv_at hl 1 rfl) ?_
  refine g_get S hN hw (C := RX11) (T := TX11) (N := 8) (ci := 11) (v := .ref a_k) 0 1 iX11 k19 dX11_clear_16 rfl rfl (by decide) rfl ?_
  obtain ⟨k_age_7, k_given_8, hc_8, hf⟩ := bd2_s hf
  refine g_callv (wc := [oC a_k 6 [.int k_age, .ref a_k_given], aI E a_k_given 256 k_given]) (wr := [oC a_x 11 [.ref a_g, .ref a_k, va_rf x_ways, va_rf x_sorts, va_rf x_counts, va_rf x_holds, va_rf x_joins, va_rf x_stables], oC a_g 2 [.int g_nodes_1, .int g_made_2, .int g_living_3, .int g_age_4, .ref a_g_oneEnd, .ref a_g_otherEnd, .ref a_g_weights, .ref a_g_alive, .ref a_g_joined], aI E a_g_joined 16 g_joined_5]) (w1 := [oC a_k 6 [.int k_age_7, .ref a_k_given], aI E a_k_given 256 k_given_8]) (va_runV (As := []) (rest := []) S (c_X6_removeAll l E F k_age k_given a_k_given a_k k_age_7 k_given_8 hc_8 _) (cwV 0 S.2.2.2.2 gX11_clear_X6_removeAll rfl rfl rfl (by decide +kernel) (rm_le (by omega) (by decide))) (preV (q := (RX6, TX6, 2)) hN hw [1, 2] rfl rfl rfl rfl) rfl rfl hl.1 rfl (lv_room (Nat.le_of_ble_eq_true rfl)) dX11_clear_19 ⟨Nat.le_refl _, Nat.le_refl _⟩) hw hA [1, 2] [0, 3, 4] rfl rfl rfl (by decide) (fun H locs hw => ?_)
  have hw : Wo E A s [oC a_x 11 [.ref a_g, .ref a_k, va_rf x_ways, va_rf x_sorts, va_rf x_counts, va_rf x_holds, va_rf x_joins, va_rf x_stables], oC a_g 2 [.int g_nodes_1, .int g_made_2, .int g_living_3, .int g_age_4, .ref a_g_oneEnd, .ref a_g_otherEnd, .ref a_g_weights, .ref a_g_alive, .ref a_g_joined], aI E a_g_joined 16 g_joined_5, oC a_k 6 [.int k_age_7, .ref a_k_given], aI E a_k_given 256 k_given_8] H _ := hw
  refine lv_iload_n S.1 S.2.1 dX11_clear_22 rfl (lv_at hl 0 rfl) ?_
  cases hf
  exact hE _ _ _ _ hw dX11_clear_23
def f_X11_rankO (p1 : Int32) (p2 : Int32) (p3 : Int32) (g_nodes : Int32) (k_age : Int32) (k_given : Nat → Int32) : Option (Int32 × Int32 × (Nat → Int32)) :=
  (if (f_X2_isNode p1 g_nodes) = 0 then some ((-1), k_age, k_given) else (if (f_X2_isNode p2 g_nodes) = 0 then some ((-1), k_age, k_given) else (if p1 = p2 then some ((-2), k_age, k_given) else (if p3 < (-1) then some ((-2), k_age, k_given) else (if p3 ≤ 99 then bd3 (f_X6_replace p1 p2 p3 k_age k_given) (fun r_10 k_age_11 k_given_12 => some (r_10, k_age_11, k_given_12)) else some ((-2), k_age, k_given))))))
set_option maxHeartbeats 4000000 in
set_option maxRecDepth 100000 in
theorem c_X11_rankO (l : Launch) (E : Ev) (g_nodes : Int32) (g_made : Int32) (g_living : Int32) (g_age : Int32) (a_g_oneEnd : Nat) (a_g_otherEnd : Nat) (a_g_weights : Nat) (a_g_alive : Nat) (a_g_joined : Nat) (a_g : Nat) (k_age : Int32) (k_given : Nat → Int32) (a_k_given : Nat) (a_k : Nat) (x_ways : Option Nat) (x_sorts : Option Nat) (x_counts : Option Nat) (x_holds : Option Nat) (x_joins : Option Nat) (x_stables : Option Nat) (a_x : Nat) (p1 : Int32) (p2 : Int32) (p3 : Int32) (ro : Int32) (u_k_age : Int32) (u_k_given : Nat → Int32) (hf : f_X11_rankO p1 p2 p3 g_nodes k_age k_given = some (ro, u_k_age, u_k_given)) :
    CtI l yX11_rank wsX11_rank (Rm 2) E [.ref a_x, .int p1, .int p2, .int p3] [oC a_x 11 [.ref a_g, .ref a_k, va_rf x_ways, va_rf x_sorts, va_rf x_counts, va_rf x_holds, va_rf x_joins, va_rf x_stables], oC a_g 2 [.int g_nodes, .int g_made, .int g_living, .int g_age, .ref a_g_oneEnd, .ref a_g_otherEnd, .ref a_g_weights, .ref a_g_alive, .ref a_g_joined], oC a_k 6 [.int k_age, .ref a_k_given], aI E a_k_given 256 k_given] ro [oC a_x 11 [.ref a_g, .ref a_k, va_rf x_ways, va_rf x_sorts, va_rf x_counts, va_rf x_holds, va_rf x_joins, va_rf x_stables], oC a_g 2 [.int g_nodes, .int g_made, .int g_living, .int g_age, .ref a_g_oneEnd, .ref a_g_otherEnd, .ref a_g_weights, .ref a_g_alive, .ref a_g_joined], oC a_k 6 [.int u_k_age, .ref a_k_given], aI E a_k_given 256 u_k_given] := by
  refine ofI (cc := cX11_rank) (maxL := 4) (own := RX11) rfl rfl (by decide) rfl rfl ?_
  intro p e s m below meth c A ls Q S hnm hN hw hA hl0 hE
  have hl : lv_has ls 4 [(0, .ref a_x), (1, .int p1), (2, .int p2), (3, .int p3)] := hl0 _ (lv_entry [.ref a_x, .int p1, .int p2, .int p3] (n := 4) (Nat.le_of_ble_eq_true rfl))
  have iX11 : ∀ w ∈ wsX110, w ∈ wsX11_rank := by decide +kernel
  have k12 := S.2.2.2.2 (.fieldLink RX11 12 "PairMatching" "graph" "LPairMatching$Graph;") (by decide +kernel)
  have k19 := S.2.2.2.2 (.fieldLink RX11 19 "PairMatching" "ranks" "LPairMatching$Ranks;") (by decide +kernel)
  unfold f_X11_rankO at hf
  refine lv_aload_n S.1 S.2.1 dX11_rank_0 rfl (lv_at hl 0 rfl) ?_
  refine g_get S hN hw (C := RX11) (T := TX11) (N := 8) (ci := 11) (v := .ref a_g) 0 0 iX11 k12 dX11_rank_1 rfl rfl (by decide) rfl ?_
  refine lv_iload_n S.1 S.2.1 dX11_rank_4 rfl (lv_at hl 1 rfl) ?_
  refine g_calli (r := (f_X2_isNode p1 g_nodes)) (wc := [oC a_g 2 [.int g_nodes, .int g_made, .int g_living, .int g_age, .ref a_g_oneEnd, .ref a_g_otherEnd, .ref a_g_weights, .ref a_g_alive, .ref a_g_joined]]) (wr := [oC a_x 11 [.ref a_g, .ref a_k, va_rf x_ways, va_rf x_sorts, va_rf x_counts, va_rf x_holds, va_rf x_joins, va_rf x_stables], oC a_k 6 [.int k_age, .ref a_k_given], aI E a_k_given 256 k_given]) (w1 := [oC a_g 2 [.int g_nodes, .int g_made, .int g_living, .int g_age, .ref a_g_oneEnd, .ref a_g_otherEnd, .ref a_g_weights, .ref a_g_alive, .ref a_g_joined]]) (va_runV (As := [.int p1]) (rest := []) S (c_X2_isNode l E g_nodes g_made g_living g_age a_g_oneEnd a_g_otherEnd a_g_weights a_g_alive a_g_joined a_g p1 (f_X2_isNode p1 g_nodes) rfl _) (cwV 1 S.2.2.2.2 gX11_rank_X2_isNode rfl rfl rfl (by decide +kernel) (rm_le (by omega) (by decide))) (preV (q := (RX2, TX2, 9)) hN hw [1] rfl rfl rfl rfl) rfl rfl hl.1 rfl (lv_room (Nat.le_of_ble_eq_true rfl)) dX11_rank_5 ⟨Nat.le_refl _, Nat.le_refl _⟩) hw hA [1] [0, 2, 3] rfl rfl rfl (by decide) (fun H locs hw => ?_)
  have hw : Wo E A s [oC a_x 11 [.ref a_g, .ref a_k, va_rf x_ways, va_rf x_sorts, va_rf x_counts, va_rf x_holds, va_rf x_joins, va_rf x_stables], oC a_k 6 [.int k_age, .ref a_k_given], aI E a_k_given 256 k_given, oC a_g 2 [.int g_nodes, .int g_made, .int g_living, .int g_age, .ref a_g_oneEnd, .ref a_g_otherEnd, .ref a_g_weights, .ref a_g_alive, .ref a_g_joined]] H _ := hw
  refine lv_if_eq (tgt := 22) S.1 S.2.1 dX11_rank_8 (by decide) (fun h_3 => ?_) (fun h_3 => ?_)
  · replace hf := if_t h_3 hf
    refine lv_iconst (v := (-1)) S.1 S.2.1 dX11_rank_22 (by decide) ?_
    cases hf
    exact hE _ _ _ _ (hw.sub [0, 3, 1, 2] rfl rfl) dX11_rank_23
  · replace hf := if_f h_3 hf
    refine lv_aload_n S.1 S.2.1 dX11_rank_11 rfl (lv_at hl 0 rfl) ?_
    refine g_get S hN hw (C := RX11) (T := TX11) (N := 8) (ci := 11) (v := .ref a_g) 0 0 iX11 k12 dX11_rank_12 rfl rfl (by decide) rfl ?_
    refine lv_iload_n S.1 S.2.1 dX11_rank_15 rfl (lv_at hl 2 rfl) ?_
    refine g_calli (r := (f_X2_isNode p2 g_nodes)) (wc := [oC a_g 2 [.int g_nodes, .int g_made, .int g_living, .int g_age, .ref a_g_oneEnd, .ref a_g_otherEnd, .ref a_g_weights, .ref a_g_alive, .ref a_g_joined]]) (wr := [oC a_x 11 [.ref a_g, .ref a_k, va_rf x_ways, va_rf x_sorts, va_rf x_counts, va_rf x_holds, va_rf x_joins, va_rf x_stables], oC a_k 6 [.int k_age, .ref a_k_given], aI E a_k_given 256 k_given]) (w1 := [oC a_g 2 [.int g_nodes, .int g_made, .int g_living, .int g_age, .ref a_g_oneEnd, .ref a_g_otherEnd, .ref a_g_weights, .ref a_g_alive, .ref a_g_joined]]) (va_runV (As := [.int p2]) (rest := []) S (c_X2_isNode l E g_nodes g_made g_living g_age a_g_oneEnd a_g_otherEnd a_g_weights a_g_alive a_g_joined a_g p2 (f_X2_isNode p2 g_nodes) rfl _) (cwV 1 S.2.2.2.2 gX11_rank_X2_isNode rfl rfl rfl (by decide +kernel) (rm_le (by omega) (by decide))) (preV (q := (RX2, TX2, 9)) hN hw [3] rfl rfl rfl rfl) rfl rfl hl.1 rfl (lv_room (Nat.le_of_ble_eq_true rfl)) dX11_rank_16 ⟨Nat.le_refl _, Nat.le_refl _⟩) hw hA [3] [0, 1, 2] rfl rfl rfl (by decide) (fun H locs hw => ?_)
    have hw : Wo E A s [oC a_x 11 [.ref a_g, .ref a_k, va_rf x_ways, va_rf x_sorts, va_rf x_counts, va_rf x_holds, va_rf x_joins, va_rf x_stables], oC a_k 6 [.int k_age, .ref a_k_given], aI E a_k_given 256 k_given, oC a_g 2 [.int g_nodes, .int g_made, .int g_living, .int g_age, .ref a_g_oneEnd, .ref a_g_otherEnd, .ref a_g_weights, .ref a_g_alive, .ref a_g_joined]] H _ := hw
    refine lv_if_ne (tgt := 24) S.1 S.2.1 dX11_rank_19 (by decide) (fun h_6 => ?_) (fun h_6 => ?_)
    · replace hf := if_f h_6 hf
      refine lv_iload_n S.1 S.2.1 dX11_rank_24 rfl (lv_at hl 1 rfl) ?_
      refine lv_iload_n S.1 S.2.1 dX11_rank_25 rfl (lv_at hl 2 rfl) ?_
      refine lv_icmp_eq (tgt := 40) S.1 S.2.1 dX11_rank_26 (by decide) (fun h_7 => ?_) (fun h_7 => ?_)
      · replace hf := if_t h_7 hf
        refine lv_bipush (v := (-2)) S.1 S.2.1 dX11_rank_40 (by decide) ?_
        cases hf
        exact hE _ _ _ _ (hw.sub [0, 3, 1, 2] rfl rfl) dX11_rank_42
      · replace hf := if_f h_7 hf
        refine lv_iload_n S.1 S.2.1 dX11_rank_29 rfl (lv_at hl 3 rfl) ?_
        refine lv_iconst (v := (-1)) S.1 S.2.1 dX11_rank_30 (by decide) ?_
        refine lv_icmp_lt (tgt := 40) S.1 S.2.1 dX11_rank_31 (by decide) (fun h_8 => ?_) (fun h_8 => ?_)
        · replace hf := if_t h_8 hf
          refine lv_bipush (v := (-2)) S.1 S.2.1 dX11_rank_40 (by decide) ?_
          cases hf
          exact hE _ _ _ _ (hw.sub [0, 3, 1, 2] rfl rfl) dX11_rank_42
        · replace hf := if_f h_8 hf
          refine lv_iload_n S.1 S.2.1 dX11_rank_34 rfl (lv_at hl 3 rfl) ?_
          refine lv_bipush (v := 99) S.1 S.2.1 dX11_rank_35 (by decide) ?_
          refine lv_icmp_le (tgt := 43) S.1 S.2.1 dX11_rank_37 (by decide) (fun h_9 => ?_) (fun h_9 => ?_)
          · replace hf := if_t h_9 hf
            refine lv_aload_n S.1 S.2.1 dX11_rank_43 rfl (lv_at hl 0 rfl) ?_
            refine g_get S hN hw (C := RX11) (T := TX11) (N := 8) (ci := 11) (v := .ref a_k) 0 1 iX11 k19 dX11_rank_44 rfl rfl (by decide) rfl ?_
            refine lv_iload_n S.1 S.2.1 dX11_rank_47 rfl (lv_at hl 1 rfl) ?_
            refine lv_iload_n S.1 S.2.1 dX11_rank_48 rfl (lv_at hl 2 rfl) ?_
            refine lv_iload_n S.1 S.2.1 dX11_rank_49 rfl (lv_at hl 3 rfl) ?_
            obtain ⟨r_10, k_age_11, k_given_12, hc_12, hf⟩ := bd3_s hf
            refine g_calli (r := r_10) (wc := [oC a_k 6 [.int k_age, .ref a_k_given], aI E a_k_given 256 k_given]) (wr := [oC a_x 11 [.ref a_g, .ref a_k, va_rf x_ways, va_rf x_sorts, va_rf x_counts, va_rf x_holds, va_rf x_joins, va_rf x_stables], oC a_g 2 [.int g_nodes, .int g_made, .int g_living, .int g_age, .ref a_g_oneEnd, .ref a_g_otherEnd, .ref a_g_weights, .ref a_g_alive, .ref a_g_joined]]) (w1 := [oC a_k 6 [.int k_age_11, .ref a_k_given], aI E a_k_given 256 k_given_12]) (va_runV (As := [.int p1, .int p2, .int p3]) (rest := []) S (c_X6_replace l E k_age k_given a_k_given a_k p1 p2 p3 r_10 k_age_11 k_given_12 hc_12 _) (cwV 3 S.2.2.2.2 gX11_rank_X6_replace rfl rfl rfl (by decide +kernel) (rm_le (by omega) (by decide))) (preV (q := (RX6, TX6, 2)) hN hw [1, 2] rfl rfl rfl rfl) rfl rfl hl.1 rfl (lv_room (Nat.le_of_ble_eq_true rfl)) dX11_rank_50 ⟨Nat.le_refl _, Nat.le_refl _⟩) hw hA [1, 2] [0, 3] rfl rfl rfl (by decide) (fun H locs hw => ?_)
            have hw : Wo E A s [oC a_x 11 [.ref a_g, .ref a_k, va_rf x_ways, va_rf x_sorts, va_rf x_counts, va_rf x_holds, va_rf x_joins, va_rf x_stables], oC a_g 2 [.int g_nodes, .int g_made, .int g_living, .int g_age, .ref a_g_oneEnd, .ref a_g_otherEnd, .ref a_g_weights, .ref a_g_alive, .ref a_g_joined], oC a_k 6 [.int k_age_11, .ref a_k_given], aI E a_k_given 256 k_given_12] H _ := hw
            cases hf
            exact hE _ _ _ _ hw dX11_rank_53
          · replace hf := if_f h_9 hf
            refine lv_bipush (v := (-2)) S.1 S.2.1 dX11_rank_40 (by decide) ?_
            cases hf
            exact hE _ _ _ _ (hw.sub [0, 3, 1, 2] rfl rfl) dX11_rank_42
    · replace hf := if_t h_6 hf
      refine lv_iconst (v := (-1)) S.1 S.2.1 dX11_rank_22 (by decide) ?_
      cases hf
      exact hE _ _ _ _ (hw.sub [0, 3, 1, 2] rfl rfl) dX11_rank_23
