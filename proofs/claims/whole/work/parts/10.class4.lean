def f_X9_findSooner_L33 (g_nodes : Int32) (k_given : Nat → Int32) (t_open : Nat → Int32) (p1 : Int32) (y_12 : Int32) (kk_92_16 : Int32 → Option ((Nat → Int32))) : Nat → Int32 → Int32 → Option ((Nat → Int32))
  | 0, _, _ => none
  | n + 1, v4_18, v5_19 => (if g_nodes ≤ v5_19 then (kk_92_16 v4_18) else rd 16 t_open p1 (fun y_21 => (if (f_X11_has y_21 v5_19) = 0 then (f_X9_findSooner_L33 g_nodes k_given t_open p1 y_12 kk_92_16 n v4_18 (v5_19 + 1)) else rd 256 k_given (f_X11_cell p1 v5_19) (fun y_27 => (if y_12 ≤ y_27 then (f_X9_findSooner_L33 g_nodes k_given t_open p1 y_12 kk_92_16 n v4_18 (v5_19 + 1)) else (f_X9_findSooner_L33 g_nodes k_given t_open p1 y_12 kk_92_16 n (v4_18 ||| ((1 : Int32) <<< (v5_19 &&& 31))) (v5_19 + 1)))))))
def f_X9_findSooner_L2 (F : Nat) (g_nodes : Int32) (k_given : Nat → Int32) (t_open : Nat → Int32) (p1 : Int32) (kk_110_5 : (Nat → Int32) → Option ((Nat → Int32))) : Nat → Int32 → (Nat → Int32) → Option ((Nat → Int32))
  | 0, _, _ => none
  | n + 1, v2_7, t_sooner_8 => (if g_nodes ≤ v2_7 then (kk_110_5 t_sooner_8) else rd 256 k_given (f_X11_cell p1 v2_7) (fun y_12 => (jn (fun (v4_13 : Int32) => wr 256 t_sooner_8 (f_X11_cell p1 v2_7) v4_13 (fun t_sooner_16 => (f_X9_findSooner_L2 F g_nodes k_given t_open p1 kk_110_5 n (v2_7 + 1) t_sooner_16))) (fun kk_92_16 => (f_X9_findSooner_L33 g_nodes k_given t_open p1 y_12 kk_92_16 F 0 0)))))
def f_X9_findSooner (F : Nat) (p1 : Int32) (g_nodes : Int32) (k_given : Nat → Int32) (t_open : Nat → Int32) (t_sooner : Nat → Int32) : Option ((Nat → Int32)) :=
  (jn (fun (t_sooner_1 : Nat → Int32) => rd 16 t_open p1 (fun y_4 => wr 256 t_sooner_1 (f_X11_cell p1 p1) y_4 (fun t_sooner_5 => some t_sooner_5))) (fun kk_110_5 => (f_X9_findSooner_L2 F g_nodes k_given t_open p1 kk_110_5 F 0 t_sooner)))
set_option maxHeartbeats 4000000 in
set_option maxRecDepth 100000 in
theorem c_X9_findSooner (l : Launch) (E : Ev) (F : Nat) (g_nodes : Int32) (g_made : Int32) (g_living : Int32) (g_age : Int32) (a_g_oneEnd : Nat) (a_g_otherEnd : Nat) (a_g_weights : Nat) (a_g_alive : Nat) (a_g_joined : Nat) (a_g : Nat) (k_age : Int32) (k_given : Nat → Int32) (a_k_given : Nat) (a_k : Nat) (a_t_arcBetween : Nat) (t_open : Nat → Int32) (a_t_open : Nat) (t_sooner : Nat → Int32) (a_t_sooner : Nat) (a_t_wanted : Nat) (t_total : Int32) (t_first : Int64) (t_graphAge : Int32) (t_ranksAge : Int32) (a_t : Nat) (p1 : Int32) (u_t_sooner : Nat → Int32) (hf : f_X9_findSooner F p1 g_nodes k_given t_open t_sooner = some u_t_sooner) :
    CtV l yX9_findSooner wsX9_findSooner (Rm 1) E [.ref a_t, .int p1] [oC a_t 9 [.ref a_g, .ref a_k, .ref a_t_arcBetween, .ref a_t_open, .ref a_t_sooner, .ref a_t_wanted, .int t_total, .long t_first, .int t_graphAge, .int t_ranksAge], oC a_g 2 [.int g_nodes, .int g_made, .int g_living, .int g_age, .ref a_g_oneEnd, .ref a_g_otherEnd, .ref a_g_weights, .ref a_g_alive, .ref a_g_joined], oC a_k 6 [.int k_age, .ref a_k_given], aI E a_k_given 256 k_given, aI E a_t_open 16 t_open, aI E a_t_sooner 256 t_sooner] [oC a_t 9 [.ref a_g, .ref a_k, .ref a_t_arcBetween, .ref a_t_open, .ref a_t_sooner, .ref a_t_wanted, .int t_total, .long t_first, .int t_graphAge, .int t_ranksAge], oC a_g 2 [.int g_nodes, .int g_made, .int g_living, .int g_age, .ref a_g_oneEnd, .ref a_g_otherEnd, .ref a_g_weights, .ref a_g_alive, .ref a_g_joined], oC a_k 6 [.int k_age, .ref a_k_given], aI E a_k_given 256 k_given, aI E a_t_open 16 t_open, aI E a_t_sooner 256 u_t_sooner] := by
  refine ofV (cc := cX9_findSooner) (maxL := 6) (own := RX9) rfl rfl (by decide) rfl rfl ?_
  intro p e s m below meth c A ls Q S hnm hN hw hA hl0 hE
  have hl : lv_has ls 6 [(0, .ref a_t), (1, .int p1)] := hl0 _ (lv_entry [.ref a_t, .int p1] (n := 6) (Nat.le_of_ble_eq_true rfl))
  have iX2 : ∀ w ∈ wsX20, w ∈ wsX9_findSooner := by decide +kernel
  have iX6 : ∀ w ∈ wsX60, w ∈ wsX9_findSooner := by decide +kernel
  have iX9 : ∀ w ∈ wsX90, w ∈ wsX9_findSooner := by decide +kernel
  have k15 := S.2.2.2.2 (.fieldLink RX9 15 "PairMatching$Stables" "open" "[I") (by decide +kernel)
  have k19 := S.2.2.2.2 (.fieldLink RX9 19 "PairMatching$Stables" "sooner" "[I") (by decide +kernel)
  have k32 := S.2.2.2.2 (.fieldLink RX9 32 "PairMatching$Stables" "graph" "LPairMatching$Graph;") (by decide +kernel)
  have k36 := S.2.2.2.2 (.fieldLink RX9 36 "PairMatching$Stables" "ranks" "LPairMatching$Ranks;") (by decide +kernel)
  have kIX11 := S.2.2.2.2 (.initialized RX11) (by decide +kernel)
  have kSX11_cell := S.2.2.2.2 (.static yX11_cell) (by decide +kernel)
  have kSX11_has := S.2.2.2.2 (.static yX11_has) (by decide +kernel)
  have w106 : Cond.fieldLinkNest RX9 106 "PairMatching$Ranks" "given" "[I" "PairMatching" ∈ nestW := List.mem_of_getElem? (i := 38) rfl
  have w112 : Cond.methodLinkNest RX9 112 yX11_has "PairMatching" ∈ nestW := List.mem_of_getElem? (i := 94) rfl
  have w51 : Cond.fieldLinkNest RX9 51 "PairMatching$Graph" "nodes" "I" "PairMatching" ∈ nestW := List.mem_of_getElem? (i := 2) rfl
  have w92 : Cond.methodLinkNest RX9 92 yX11_cell "PairMatching" ∈ nestW := List.mem_of_getElem? (i := 92) rfl
  unfold f_X9_findSooner at hf
  refine lv_iconst (v := 0) S.1 S.2.1 dX9_findSooner_0 (by decide) ?_
  refine lv_istore_n (lv' := [(2, .int 0), (0, .ref a_t), (1, .int p1)]) S.1 S.2.1 dX9_findSooner_1 rfl hl (by decide) rfl (fun ls hl => ?_)
  obtain ⟨kk_110_5, ekk_110_5, hf⟩ := jn_s hf
  have hJ_kk_110_5 : ∀ (t_sooner_1 : Nat → Int32) (H : Heap) (locs : List Loc) (ls : Array Slot), Wo E A s [oC a_t 9 [.ref a_g, .ref a_k, .ref a_t_arcBetween, .ref a_t_open, .ref a_t_sooner, .ref a_t_wanted, .int t_total, .long t_first, .int t_graphAge, .int t_ranksAge], oC a_g 2 [.int g_nodes, .int g_made, .int g_living, .int g_age, .ref a_g_oneEnd, .ref a_g_otherEnd, .ref a_g_weights, .ref a_g_alive, .ref a_g_joined], oC a_k 6 [.int k_age, .ref a_k_given], aI E a_k_given 256 k_given, aI E a_t_open 16 t_open, aI E a_t_sooner 256 t_sooner_1] H locs → lv_has ls 6 [(0, .ref a_t), (1, .int p1)] → kk_110_5 t_sooner_1 = some u_t_sooner → W p l e (Rm 1) s m (([.ref a_t, .int p1] : List Value).toArray) below meth c H locs 0 0 Q (F0 m 110 ls []) := by
    intro t_sooner_1 H locs ls hw hl hf
    rw [ekk_110_5] at hf
    refine lv_aload_n S.1 S.2.1 dX9_findSooner_110 rfl (lv_at hl 0 rfl) ?_
    refine g_get S hN hw (C := RX9) (T := TX9) (N := 10) (ci := 9) (v := .ref a_t_sooner) 0 4 iX9 k19 dX9_findSooner_111 rfl rfl (by decide) rfl ?_
    refine lv_iload_n S.1 S.2.1 dX9_findSooner_114 rfl (lv_at hl 1 rfl) ?_
    refine lv_iload_n S.1 S.2.1 dX9_findSooner_115 rfl (lv_at hl 1 rfl) ?_
    refine g_calli (r := (f_X11_cell p1 p1)) (wc := []) (wr := [oC a_t 9 [.ref a_g, .ref a_k, .ref a_t_arcBetween, .ref a_t_open, .ref a_t_sooner, .ref a_t_wanted, .int t_total, .long t_first, .int t_graphAge, .int t_ranksAge], oC a_g 2 [.int g_nodes, .int g_made, .int g_living, .int g_age, .ref a_g_oneEnd, .ref a_g_otherEnd, .ref a_g_weights, .ref a_g_alive, .ref a_g_joined], oC a_k 6 [.int k_age, .ref a_k_given], aI E a_k_given 256 k_given, aI E a_t_open 16 t_open, aI E a_t_sooner 256 t_sooner_1]) (w1 := []) (va_runSN (As := [.int p1, .int p1]) (rest := [.ref a_t_sooner]) S (c_X11_cell l E p1 p1 (f_X11_cell p1 p1) rfl _) ⟨(va_cnB 2 S.2.2.2.2 gX9_findSooner_X11_cell_n92 rfl rfl rfl (hN.2 _ w92) kIX11 (by decide +kernel) (rm_le (by omega) (by decide))), kSX11_cell, trivial⟩ (preS hN hw [] rfl rfl) rfl rfl hl.1 rfl (lv_room (Nat.le_of_ble_eq_true rfl)) dX9_findSooner_116 ⟨Nat.le_refl _, Nat.le_refl _⟩) hw hA [] [0, 1, 2, 3, 4, 5] rfl rfl rfl (by decide) (fun H locs hw => ?_)
    have hw : Wo E A s [oC a_t 9 [.ref a_g, .ref a_k, .ref a_t_arcBetween, .ref a_t_open, .ref a_t_sooner, .ref a_t_wanted, .int t_total, .long t_first, .int t_graphAge, .int t_ranksAge], oC a_g 2 [.int g_nodes, .int g_made, .int g_living, .int g_age, .ref a_g_oneEnd, .ref a_g_otherEnd, .ref a_g_weights, .ref a_g_alive, .ref a_g_joined], oC a_k 6 [.int k_age, .ref a_k_given], aI E a_k_given 256 k_given, aI E a_t_open 16 t_open, aI E a_t_sooner 256 t_sooner_1] H _ := hw
    refine lv_aload_n S.1 S.2.1 dX9_findSooner_119 rfl (lv_at hl 0 rfl) ?_
    refine g_get S hN hw (C := RX9) (T := TX9) (N := 10) (ci := 9) (v := .ref a_t_open) 0 3 iX9 k15 dX9_findSooner_120 rfl rfl (by decide) rfl ?_
    refine lv_iload_n S.1 S.2.1 dX9_findSooner_123 rfl (lv_at hl 1 rfl) ?_
    obtain ⟨hi_3, hf⟩ := rd_s hf
    refine g_iald (n := 16) (f := t_open) S hN hw 4 hi_3 dX9_findSooner_124 rfl ?_
    generalize t_open (p1 : Int32).toNatClampNeg = y_4 at hf ⊢
    obtain ⟨hi_4, hf⟩ := wr_s hf
    refine g_iast (n := 256) (f := t_sooner_1) (w1 := [oC a_t 9 [.ref a_g, .ref a_k, .ref a_t_arcBetween, .ref a_t_open, .ref a_t_sooner, .ref a_t_wanted, .int t_total, .long t_first, .int t_graphAge, .int t_ranksAge], oC a_g 2 [.int g_nodes, .int g_made, .int g_living, .int g_age, .ref a_g_oneEnd, .ref a_g_otherEnd, .ref a_g_weights, .ref a_g_alive, .ref a_g_joined], oC a_k 6 [.int k_age, .ref a_k_given], aI E a_k_given 256 k_given, aI E a_t_open 16 t_open, aI E a_t_sooner 256 (va_up t_sooner_1 ((f_X11_cell p1 p1) : Int32).toNatClampNeg y_4)]) S hN hw 5 hi_4 dX9_findSooner_125 rfl rfl (fun H locs hw => ?_)
    generalize va_up t_sooner_1 ((f_X11_cell p1 p1) : Int32).toNatClampNeg y_4 = t_sooner_5 at hf hw
    cases hf
    exact hE _ _ _ _ hw dX9_findSooner_126
  have hL_2_29 : ∀ (n : Nat) (v2_7 : Int32) (t_sooner_8 : Nat → Int32) (H : Heap) (locs : List Loc) (ls : Array Slot), Wo E A s [oC a_t 9 [.ref a_g, .ref a_k, .ref a_t_arcBetween, .ref a_t_open, .ref a_t_sooner, .ref a_t_wanted, .int t_total, .long t_first, .int t_graphAge, .int t_ranksAge], oC a_g 2 [.int g_nodes, .int g_made, .int g_living, .int g_age, .ref a_g_oneEnd, .ref a_g_otherEnd, .ref a_g_weights, .ref a_g_alive, .ref a_g_joined], oC a_k 6 [.int k_age, .ref a_k_given], aI E a_k_given 256 k_given, aI E a_t_open 16 t_open, aI E a_t_sooner 256 t_sooner_8] H locs → lv_has ls 6 [(0, .ref a_t), (1, .int p1), (2, .int v2_7)] → f_X9_findSooner_L2 F g_nodes k_given t_open p1 kk_110_5 n v2_7 t_sooner_8 = some u_t_sooner → W p l e (Rm 1) s m (([.ref a_t, .int p1] : List Value).toArray) below meth c H locs 0 0 Q (F0 m 2 ls []) := by
    intro n
    induction n with
    | zero => intro v2_7 t_sooner_8 H locs ls hw hl hf; unfold f_X9_findSooner_L2 at hf; cases hf
    | succ n ih =>
      intro v2_7 t_sooner_8 H locs ls hw hl hf
      unfold f_X9_findSooner_L2 at hf
      refine lv_iload_n S.1 S.2.1 dX9_findSooner_2 rfl (lv_at hl 2 rfl) ?_
      refine lv_aload_n S.1 S.2.1 dX9_findSooner_3 rfl (lv_at hl 0 rfl) ?_
      refine g_get S hN hw (C := RX9) (T := TX9) (N := 10) (ci := 9) (v := .ref a_g) 0 0 iX9 k32 dX9_findSooner_4 rfl rfl (by decide) rfl ?_
      refine g_getN S hN hw (C := RX2) (T := TX2) (N := 9) (ci := 2) (v := .int g_nodes) 1 0 iX2 w51 dX9_findSooner_7 rfl rfl (by decide) rfl ?_
      refine lv_icmp_ge (tgt := 110) S.1 S.2.1 dX9_findSooner_10 (by decide) (fun h_9 => ?_) (fun h_9 => ?_)
      · replace hf := if_t h_9 hf
        exact hJ_kk_110_5 t_sooner_8 _ _ _ hw (lv_sub hl [0, 1] rfl) hf
      · replace hf := if_f h_9 hf
        refine lv_aload_n S.1 S.2.1 dX9_findSooner_13 rfl (lv_at hl 0 rfl) ?_
        refine g_get S hN hw (C := RX9) (T := TX9) (N := 10) (ci := 9) (v := .ref a_k) 0 1 iX9 k36 dX9_findSooner_14 rfl rfl (by decide) rfl ?_
        refine g_getN S hN hw (C := RX6) (T := TX6) (N := 2) (ci := 6) (v := .ref a_k_given) 2 1 iX6 w106 dX9_findSooner_17 rfl rfl (by decide) rfl ?_
        refine lv_iload_n S.1 S.2.1 dX9_findSooner_20 rfl (lv_at hl 1 rfl) ?_
        refine lv_iload_n S.1 S.2.1 dX9_findSooner_21 rfl (lv_at hl 2 rfl) ?_
        refine g_calli (r := (f_X11_cell p1 v2_7)) (wc := []) (wr := [oC a_t 9 [.ref a_g, .ref a_k, .ref a_t_arcBetween, .ref a_t_open, .ref a_t_sooner, .ref a_t_wanted, .int t_total, .long t_first, .int t_graphAge, .int t_ranksAge], oC a_g 2 [.int g_nodes, .int g_made, .int g_living, .int g_age, .ref a_g_oneEnd, .ref a_g_otherEnd, .ref a_g_weights, .ref a_g_alive, .ref a_g_joined], oC a_k 6 [.int k_age, .ref a_k_given], aI E a_k_given 256 k_given, aI E a_t_open 16 t_open, aI E a_t_sooner 256 t_sooner_8]) (w1 := []) (va_runSN (As := [.int p1, .int v2_7]) (rest := [.ref a_k_given]) S (c_X11_cell l E p1 v2_7 (f_X11_cell p1 v2_7) rfl _) ⟨(va_cnB 2 S.2.2.2.2 gX9_findSooner_X11_cell_n92 rfl rfl rfl (hN.2 _ w92) kIX11 (by decide +kernel) (rm_le (by omega) (by decide))), kSX11_cell, trivial⟩ (preS hN hw [] rfl rfl) rfl rfl hl.1 rfl (lv_room (Nat.le_of_ble_eq_true rfl)) dX9_findSooner_22 ⟨Nat.le_refl _, Nat.le_refl _⟩) hw hA [] [0, 1, 2, 3, 4, 5] rfl rfl rfl (by decide) (fun H locs hw => ?_)
        have hw : Wo E A s [oC a_t 9 [.ref a_g, .ref a_k, .ref a_t_arcBetween, .ref a_t_open, .ref a_t_sooner, .ref a_t_wanted, .int t_total, .long t_first, .int t_graphAge, .int t_ranksAge], oC a_g 2 [.int g_nodes, .int g_made, .int g_living, .int g_age, .ref a_g_oneEnd, .ref a_g_otherEnd, .ref a_g_weights, .ref a_g_alive, .ref a_g_joined], oC a_k 6 [.int k_age, .ref a_k_given], aI E a_k_given 256 k_given, aI E a_t_open 16 t_open, aI E a_t_sooner 256 t_sooner_8] H _ := hw
        obtain ⟨hi_11, hf⟩ := rd_s hf
        refine g_iald (n := 256) (f := k_given) S hN hw 3 hi_11 dX9_findSooner_25 rfl ?_
        generalize k_given ((f_X11_cell p1 v2_7) : Int32).toNatClampNeg = y_12 at hf ⊢
        refine lv_istore_n (lv' := [(3, .int y_12), (0, .ref a_t), (1, .int p1), (2, .int v2_7)]) S.1 S.2.1 dX9_findSooner_26 rfl hl (by decide) rfl (fun ls hl => ?_)
        refine lv_iconst (v := 0) S.1 S.2.1 dX9_findSooner_27 (by decide) ?_
        refine lv_istore (lv' := [(4, .int 0), (3, .int y_12), (0, .ref a_t), (1, .int p1), (2, .int v2_7)]) S.1 S.2.1 dX9_findSooner_28 hl (by decide) rfl (fun ls hl => ?_)
        refine lv_iconst (v := 0) S.1 S.2.1 dX9_findSooner_30 (by decide) ?_
        refine lv_istore (lv' := [(5, .int 0), (4, .int 0), (3, .int y_12), (0, .ref a_t), (1, .int p1), (2, .int v2_7)]) S.1 S.2.1 dX9_findSooner_31 hl (by decide) rfl (fun ls hl => ?_)
        obtain ⟨kk_92_16, ekk_92_16, hf⟩ := jn_s hf
        have hJ_kk_92_16 : ∀ (v4_13 : Int32) (H : Heap) (locs : List Loc) (ls : Array Slot), Wo E A s [oC a_t 9 [.ref a_g, .ref a_k, .ref a_t_arcBetween, .ref a_t_open, .ref a_t_sooner, .ref a_t_wanted, .int t_total, .long t_first, .int t_graphAge, .int t_ranksAge], oC a_g 2 [.int g_nodes, .int g_made, .int g_living, .int g_age, .ref a_g_oneEnd, .ref a_g_otherEnd, .ref a_g_weights, .ref a_g_alive, .ref a_g_joined], oC a_k 6 [.int k_age, .ref a_k_given], aI E a_k_given 256 k_given, aI E a_t_open 16 t_open, aI E a_t_sooner 256 t_sooner_8] H locs → lv_has ls 6 [(0, .ref a_t), (1, .int p1), (2, .int v2_7), (4, .int v4_13)] → kk_92_16 v4_13 = some u_t_sooner → W p l e (Rm 1) s m (([.ref a_t, .int p1] : List Value).toArray) below meth c H locs 0 0 Q (F0 m 92 ls []) := by
          intro v4_13 H locs ls hw hl hf
          rw [ekk_92_16] at hf
          refine lv_aload_n S.1 S.2.1 dX9_findSooner_92 rfl (lv_at hl 0 rfl) ?_
          refine g_get S hN hw (C := RX9) (T := TX9) (N := 10) (ci := 9) (v := .ref a_t_sooner) 0 4 iX9 k19 dX9_findSooner_93 rfl rfl (by decide) rfl ?_
          refine lv_iload_n S.1 S.2.1 dX9_findSooner_96 rfl (lv_at hl 1 rfl) ?_
          refine lv_iload_n S.1 S.2.1 dX9_findSooner_97 rfl (lv_at hl 2 rfl) ?_
          refine g_calli (r := (f_X11_cell p1 v2_7)) (wc := []) (wr := [oC a_t 9 [.ref a_g, .ref a_k, .ref a_t_arcBetween, .ref a_t_open, .ref a_t_sooner, .ref a_t_wanted, .int t_total, .long t_first, .int t_graphAge, .int t_ranksAge], oC a_g 2 [.int g_nodes, .int g_made, .int g_living, .int g_age, .ref a_g_oneEnd, .ref a_g_otherEnd, .ref a_g_weights, .ref a_g_alive, .ref a_g_joined], oC a_k 6 [.int k_age, .ref a_k_given], aI E a_k_given 256 k_given, aI E a_t_open 16 t_open, aI E a_t_sooner 256 t_sooner_8]) (w1 := []) (va_runSN (As := [.int p1, .int v2_7]) (rest := [.ref a_t_sooner]) S (c_X11_cell l E p1 v2_7 (f_X11_cell p1 v2_7) rfl _) ⟨(va_cnB 2 S.2.2.2.2 gX9_findSooner_X11_cell_n92 rfl rfl rfl (hN.2 _ w92) kIX11 (by decide +kernel) (rm_le (by omega) (by decide))), kSX11_cell, trivial⟩ (preS hN hw [] rfl rfl) rfl rfl hl.1 rfl (lv_room (Nat.le_of_ble_eq_true rfl)) dX9_findSooner_98 ⟨Nat.le_refl _, Nat.le_refl _⟩) hw hA [] [0, 1, 2, 3, 4, 5] rfl rfl rfl (by decide) (fun H locs hw => ?_)
          have hw : Wo E A s [oC a_t 9 [.ref a_g, .ref a_k, .ref a_t_arcBetween, .ref a_t_open, .ref a_t_sooner, .ref a_t_wanted, .int t_total, .long t_first, .int t_graphAge, .int t_ranksAge], oC a_g 2 [.int g_nodes, .int g_made, .int g_living, .int g_age, .ref a_g_oneEnd, .ref a_g_otherEnd, .ref a_g_weights, .ref a_g_alive, .ref a_g_joined], oC a_k 6 [.int k_age, .ref a_k_given], aI E a_k_given 256 k_given, aI E a_t_open 16 t_open, aI E a_t_sooner 256 t_sooner_8] H _ := hw
          refine lv_iload S.1 S.2.1 dX9_findSooner_101 (lv_at hl 3 rfl) ?_
          obtain ⟨hi_15, hf⟩ := wr_s hf
          refine g_iast (n := 256) (f := t_sooner_8) (w1 := [oC a_t 9 [.ref a_g, .ref a_k, .ref a_t_arcBetween, .ref a_t_open, .ref a_t_sooner, .ref a_t_wanted, .int t_total, .long t_first, .int t_graphAge, .int t_ranksAge], oC a_g 2 [.int g_nodes, .int g_made, .int g_living, .int g_age, .ref a_g_oneEnd, .ref a_g_otherEnd, .ref a_g_weights, .ref a_g_alive, .ref a_g_joined], oC a_k 6 [.int k_age, .ref a_k_given], aI E a_k_given 256 k_given, aI E a_t_open 16 t_open, aI E a_t_sooner 256 (va_up t_sooner_8 ((f_X11_cell p1 v2_7) : Int32).toNatClampNeg v4_13)]) S hN hw 5 hi_15 dX9_findSooner_103 rfl rfl (fun H locs hw => ?_)
          generalize va_up t_sooner_8 ((f_X11_cell p1 v2_7) : Int32).toNatClampNeg v4_13 = t_sooner_16 at hf hw
          refine lv_iinc (v := (v2_7 + 1)) (lv' := [(2, .int (v2_7 + 1)), (0, .ref a_t), (1, .int p1), (4, .int v4_13)]) S.1 S.2.1 dX9_findSooner_104 hl (k := 2) rfl rfl (by decide) rfl (fun ls hl => ?_)
          refine lv_goto (tgt := 2) S.1 S.2.1 dX9_findSooner_107 (by decide) ?_
          exact ih (v2_7 + 1) t_sooner_16 _ _ _ hw (lv_sub hl [1, 2, 0] rfl) hf
        have hL_33_28 : ∀ (n : Nat) (v4_18 : Int32) (v5_19 : Int32) (H : Heap) (locs : List Loc) (ls : Array Slot), Wo E A s [oC a_t 9 [.ref a_g, .ref a_k, .ref a_t_arcBetween, .ref a_t_open, .ref a_t_sooner, .ref a_t_wanted, .int t_total, .long t_first, .int t_graphAge, .int t_ranksAge], oC a_g 2 [.int g_nodes, .int g_made, .int g_living, .int g_age, .ref a_g_oneEnd, .ref a_g_otherEnd, .ref a_g_weights, .ref a_g_alive, .ref a_g_joined], oC a_k 6 [.int k_age, .ref a_k_given], aI E a_k_given 256 k_given, aI E a_t_open 16 t_open, aI E a_t_sooner 256 t_sooner_8] H locs → lv_has ls 6 [(0, .ref a_t), (1, .int p1), (2, .int v2_7), (3, .int y_12), (4, .int v4_18), (5, .int v5_19)] → f_X9_findSooner_L33 g_nodes k_given t_open p1 y_12 kk_92_16 n v4_18 v5_19 = some u_t_sooner → W p l e (Rm 1) s m (([.ref a_t, .int p1] : List Value).toArray) below meth c H locs 0 0 Q (F0 m 33 ls []) := by
          intro n
          induction n with
          | zero => intro v4_18 v5_19 H locs ls hw hl hf; unfold f_X9_findSooner_L33 at hf; cases hf
          | succ n ih =>
            intro v4_18 v5_19 H locs ls hw hl hf
            unfold f_X9_findSooner_L33 at hf
            refine lv_iload S.1 S.2.1 dX9_findSooner_33 (lv_at hl 5 rfl) ?_
            refine lv_aload_n S.1 S.2.1 dX9_findSooner_35 rfl (lv_at hl 0 rfl) ?_
            refine g_get S hN hw (C := RX9) (T := TX9) (N := 10) (ci := 9) (v := .ref a_g) 0 0 iX9 k32 dX9_findSooner_36 rfl rfl (by decide) rfl ?_
            refine g_getN S hN hw (C := RX2) (T := TX2) (N := 9) (ci := 2) (v := .int g_nodes) 1 0 iX2 w51 dX9_findSooner_39 rfl rfl (by decide) rfl ?_
            refine lv_icmp_ge (tgt := 92) S.1 S.2.1 dX9_findSooner_42 (by decide) (fun h_20 => ?_) (fun h_20 => ?_)
            · replace hf := if_t h_20 hf
              exact hJ_kk_92_16 v4_18 _ _ _ hw (lv_sub hl [0, 1, 2, 4] rfl) hf
            · replace hf := if_f h_20 hf
              refine lv_aload_n S.1 S.2.1 dX9_findSooner_45 rfl (lv_at hl 0 rfl) ?_
              refine g_get S hN hw (C := RX9) (T := TX9) (N := 10) (ci := 9) (v := .ref a_t_open) 0 3 iX9 k15 dX9_findSooner_46 rfl rfl (by decide) rfl ?_
              refine lv_iload_n S.1 S.2.1 dX9_findSooner_49 rfl (lv_at hl 1 rfl) ?_
              obtain ⟨hi_20, hf⟩ := rd_s hf
              refine g_iald (n := 16) (f := t_open) S hN hw 4 hi_20 dX9_findSooner_50 rfl ?_
              generalize t_open (p1 : Int32).toNatClampNeg = y_21 at hf ⊢
              refine lv_iload S.1 S.2.1 dX9_findSooner_51 (lv_at hl 5 rfl) ?_
              refine g_calli (r := (f_X11_has y_21 v5_19)) (wc := []) (wr := [oC a_t 9 [.ref a_g, .ref a_k, .ref a_t_arcBetween, .ref a_t_open, .ref a_t_sooner, .ref a_t_wanted, .int t_total, .long t_first, .int t_graphAge, .int t_ranksAge], oC a_g 2 [.int g_nodes, .int g_made, .int g_living, .int g_age, .ref a_g_oneEnd, .ref a_g_otherEnd, .ref a_g_weights, .ref a_g_alive, .ref a_g_joined], oC a_k 6 [.int k_age, .ref a_k_given], aI E a_k_given 256 k_given, aI E a_t_open 16 t_open, aI E a_t_sooner 256 t_sooner_8]) (w1 := []) (va_runSN (As := [.int y_21, .int v5_19]) (rest := []) S (c_X11_has l E y_21 v5_19 (f_X11_has y_21 v5_19) rfl _) ⟨(va_cnB 2 S.2.2.2.2 gX9_findSooner_X11_has_n112 rfl rfl rfl (hN.2 _ w112) kIX11 (by decide +kernel) (rm_le (by omega) (by decide))), kSX11_has, trivial⟩ (preS hN hw [] rfl rfl) rfl rfl hl.1 rfl (lv_room (Nat.le_of_ble_eq_true rfl)) dX9_findSooner_53 ⟨Nat.le_refl _, Nat.le_refl _⟩) hw hA [] [0, 1, 2, 3, 4, 5] rfl rfl rfl (by decide) (fun H locs hw => ?_)
              have hw : Wo E A s [oC a_t 9 [.ref a_g, .ref a_k, .ref a_t_arcBetween, .ref a_t_open, .ref a_t_sooner, .ref a_t_wanted, .int t_total, .long t_first, .int t_graphAge, .int t_ranksAge], oC a_g 2 [.int g_nodes, .int g_made, .int g_living, .int g_age, .ref a_g_oneEnd, .ref a_g_otherEnd, .ref a_g_weights, .ref a_g_alive, .ref a_g_joined], oC a_k 6 [.int k_age, .ref a_k_given], aI E a_k_given 256 k_given, aI E a_t_open 16 t_open, aI E a_t_sooner 256 t_sooner_8] H _ := hw
              refine lv_if_eq (tgt := 86) S.1 S.2.1 dX9_findSooner_56 (by decide) (fun h_24 => ?_) (fun h_24 => ?_)
              · replace hf := if_t h_24 hf
                refine lv_iinc (v := (v5_19 + 1)) (lv' := [(5, .int (v5_19 + 1)), (0, .ref a_t), (1, .int p1), (2, .int v2_7), (3, .int y_12), (4, .int v4_18)]) S.1 S.2.1 dX9_findSooner_86 hl (k := 5) rfl rfl (by decide) rfl (fun ls hl => ?_)
                refine lv_goto (tgt := 33) S.1 S.2.1 dX9_findSooner_89 (by decide) ?_
                exact ih v4_18 (v5_19 + 1) _ _ _ hw (lv_sub hl [1, 2, 3, 4, 5, 0] rfl) hf
              · replace hf := if_f h_24 hf
                refine lv_aload_n S.1 S.2.1 dX9_findSooner_59 rfl (lv_at hl 0 rfl) ?_
                refine g_get S hN hw (C := RX9) (T := TX9) (N := 10) (ci := 9) (v := .ref a_k) 0 1 iX9 k36 dX9_findSooner_60 rfl rfl (by decide) rfl ?_
                refine g_getN S hN hw (C := RX6) (T := TX6) (N := 2) (ci := 6) (v := .ref a_k_given) 2 1 iX6 w106 dX9_findSooner_63 rfl rfl (by decide) rfl ?_
                refine lv_iload_n S.1 S.2.1 dX9_findSooner_66 rfl (lv_at hl 1 rfl) ?_
                refine lv_iload S.1 S.2.1 dX9_findSooner_67 (lv_at hl 5 rfl) ?_
                refine g_calli (r := (f_X11_cell p1 v5_19)) (wc := []) (wr := [oC a_t 9 [.ref a_g, .ref a_k, .ref a_t_arcBetween, .ref a_t_open, .ref a_t_sooner, .ref a_t_wanted, .int t_total, .long t_first, .int t_graphAge, .int t_ranksAge], oC a_g 2 [.int g_nodes, .int g_made, .int g_living, .int g_age, .ref a_g_oneEnd, .ref a_g_otherEnd, .ref a_g_weights, .ref a_g_alive, .ref a_g_joined], oC a_k 6 [.int k_age, .ref a_k_given], aI E a_k_given 256 k_given, aI E a_t_open 16 t_open, aI E a_t_sooner 256 t_sooner_8]) (w1 := []) (va_runSN (As := [.int p1, .int v5_19]) (rest := [.ref a_k_given]) S (c_X11_cell l E p1 v5_19 (f_X11_cell p1 v5_19) rfl _) ⟨(va_cnB 2 S.2.2.2.2 gX9_findSooner_X11_cell_n92 rfl rfl rfl (hN.2 _ w92) kIX11 (by decide +kernel) (rm_le (by omega) (by decide))), kSX11_cell, trivial⟩ (preS hN hw [] rfl rfl) rfl rfl hl.1 rfl (lv_room (Nat.le_of_ble_eq_true rfl)) dX9_findSooner_69 ⟨Nat.le_refl _, Nat.le_refl _⟩) hw hA [] [0, 1, 2, 3, 4, 5] rfl rfl rfl (by decide) (fun H locs hw => ?_)
                have hw : Wo E A s [oC a_t 9 [.ref a_g, .ref a_k, .ref a_t_arcBetween, .ref a_t_open, .ref a_t_sooner, .ref a_t_wanted, .int t_total, .long t_first, .int t_graphAge, .int t_ranksAge], oC a_g 2 [.int g_nodes, .int g_made, .int g_living, .int g_age, .ref a_g_oneEnd, .ref a_g_otherEnd, .ref a_g_weights, .ref a_g_alive, .ref a_g_joined], oC a_k 6 [.int k_age, .ref a_k_given], aI E a_k_given 256 k_given, aI E a_t_open 16 t_open, aI E a_t_sooner 256 t_sooner_8] H _ := hw
                obtain ⟨hi_26, hf⟩ := rd_s hf
                refine g_iald (n := 256) (f := k_given) S hN hw 3 hi_26 dX9_findSooner_72 rfl ?_
                generalize k_given ((f_X11_cell p1 v5_19) : Int32).toNatClampNeg = y_27 at hf ⊢
                refine lv_iload_n S.1 S.2.1 dX9_findSooner_73 rfl (lv_at hl 3 rfl) ?_
                refine lv_icmp_ge (tgt := 86) S.1 S.2.1 dX9_findSooner_74 (by decide) (fun h_28 => ?_) (fun h_28 => ?_)
                · replace hf := if_t h_28 hf
                  refine lv_iinc (v := (v5_19 + 1)) (lv' := [(5, .int (v5_19 + 1)), (0, .ref a_t), (1, .int p1), (2, .int v2_7), (3, .int y_12), (4, .int v4_18)]) S.1 S.2.1 dX9_findSooner_86 hl (k := 5) rfl rfl (by decide) rfl (fun ls hl => ?_)
                  refine lv_goto (tgt := 33) S.1 S.2.1 dX9_findSooner_89 (by decide) ?_
                  exact ih v4_18 (v5_19 + 1) _ _ _ hw (lv_sub hl [1, 2, 3, 4, 5, 0] rfl) hf
                · replace hf := if_f h_28 hf
                  refine lv_iload S.1 S.2.1 dX9_findSooner_77 (lv_at hl 4 rfl) ?_
                  refine lv_iconst (v := 1) S.1 S.2.1 dX9_findSooner_79 (by decide) ?_
                  refine lv_iload S.1 S.2.1 dX9_findSooner_80 (lv_at hl 5 rfl) ?_
                  refine lv_ishl S.1 S.2.1 dX9_findSooner_82 ?_
                  refine lv_ior S.1 S.2.1 dX9_findSooner_83 ?_
                  refine lv_istore (lv' := [(4, .int (v4_18 ||| ((1 : Int32) <<< (v5_19 &&& 31)))), (0, .ref a_t), (1, .int p1), (2, .int v2_7), (3, .int y_12), (5, .int v5_19)]) S.1 S.2.1 dX9_findSooner_84 hl (by decide) rfl (fun ls hl => ?_)
                  refine lv_iinc (v := (v5_19 + 1)) (lv' := [(5, .int (v5_19 + 1)), (4, .int (v4_18 ||| ((1 : Int32) <<< (v5_19 &&& 31)))), (0, .ref a_t), (1, .int p1), (2, .int v2_7), (3, .int y_12)]) S.1 S.2.1 dX9_findSooner_86 hl (k := 5) rfl rfl (by decide) rfl (fun ls hl => ?_)
                  refine lv_goto (tgt := 33) S.1 S.2.1 dX9_findSooner_89 (by decide) ?_
                  exact ih (v4_18 ||| ((1 : Int32) <<< (v5_19 &&& 31))) (v5_19 + 1) _ _ _ hw (lv_sub hl [2, 3, 4, 5, 1, 0] rfl) hf
        exact hL_33_28 F 0 0 _ _ _ hw (lv_sub hl [3, 4, 5, 2, 1, 0] rfl) hf
  exact hL_2_29 F 0 t_sooner _ _ _ hw (lv_sub hl [1, 2, 0] rfl) hf
def f_X9_isTempted_L18 (g_nodes : Int32) (t_wanted : Nat → Int32) (p1 : Int32) (p2 : Int32) (y_1 : Int32) (kk_61_2 : Option (Int32)) : Nat → Int32 → Option (Int32)
  | 0, _ => none
  | n + 1, v4_4 => (if g_nodes ≤ v4_4 then (kk_61_2) else (if (f_X11_has (y_1 &&& p2) v4_4) = 0 then (f_X9_isTempted_L18 g_nodes t_wanted p1 p2 y_1 kk_61_2 n (v4_4 + 1)) else rd 16 t_wanted v4_4 (fun y_9 => (if (f_X11_has y_9 p1) = 0 then (f_X9_isTempted_L18 g_nodes t_wanted p1 p2 y_1 kk_61_2 n (v4_4 + 1)) else some 1))))
def f_X9_isTempted (F : Nat) (p1 : Int32) (p2 : Int32) (g_nodes : Int32) (t_wanted : Nat → Int32) : Option (Int32) :=
  rd 16 t_wanted p1 (fun y_1 => (if (y_1 &&& p2) = 0 then some 0 else (jn (some 0) (fun kk_61_2 => (f_X9_isTempted_L18 g_nodes t_wanted p1 p2 y_1 kk_61_2 F 0)))))
set_option maxHeartbeats 4000000 in
set_option maxRecDepth 100000 in
theorem c_X9_isTempted (l : Launch) (E : Ev) (F : Nat) (g_nodes : Int32) (g_made : Int32) (g_living : Int32) (g_age : Int32) (a_g_oneEnd : Nat) (a_g_otherEnd : Nat) (a_g_weights : Nat) (a_g_alive : Nat) (a_g_joined : Nat) (a_g : Nat) (a_k : Nat) (a_t_arcBetween : Nat) (a_t_open : Nat) (a_t_sooner : Nat) (t_wanted : Nat → Int32) (a_t_wanted : Nat) (t_total : Int32) (t_first : Int64) (t_graphAge : Int32) (t_ranksAge : Int32) (a_t : Nat) (p1 : Int32) (p2 : Int32) (ro : Int32) (hf : f_X9_isTempted F p1 p2 g_nodes t_wanted = some ro) :
    CtI l yX9_isTempted wsX9_isTempted (Rm 1) E [.ref a_t, .int p1, .int p2] [oC a_t 9 [.ref a_g, .ref a_k, .ref a_t_arcBetween, .ref a_t_open, .ref a_t_sooner, .ref a_t_wanted, .int t_total, .long t_first, .int t_graphAge, .int t_ranksAge], oC a_g 2 [.int g_nodes, .int g_made, .int g_living, .int g_age, .ref a_g_oneEnd, .ref a_g_otherEnd, .ref a_g_weights, .ref a_g_alive, .ref a_g_joined], aI E a_t_wanted 16 t_wanted] ro [oC a_t 9 [.ref a_g, .ref a_k, .ref a_t_arcBetween, .ref a_t_open, .ref a_t_sooner, .ref a_t_wanted, .int t_total, .long t_first, .int t_graphAge, .int t_ranksAge], oC a_g 2 [.int g_nodes, .int g_made, .int g_living, .int g_age, .ref a_g_oneEnd, .ref a_g_otherEnd, .ref a_g_weights, .ref a_g_alive, .ref a_g_joined], aI E a_t_wanted 16 t_wanted] := by
  refine ofZ (cc := cX9_isTempted) (maxL := 5) (own := RX9) rfl rfl (by decide) rfl rfl ?_
  intro p e s m below meth c A ls Q S hnm hN hw hA hl0 hE
  have hl : lv_has ls 5 [(0, .ref a_t), (1, .int p1), (2, .int p2)] := hl0 _ (lv_entry [.ref a_t, .int p1, .int p2] (n := 5) (Nat.le_of_ble_eq_true rfl))
  have iX2 : ∀ w ∈ wsX20, w ∈ wsX9_isTempted := by decide +kernel
  have iX9 : ∀ w ∈ wsX90, w ∈ wsX9_isTempted := by decide +kernel
  have k22 := S.2.2.2.2 (.fieldLink RX9 22 "PairMatching$Stables" "wanted" "[I") (by decide +kernel)
  have k32 := S.2.2.2.2 (.fieldLink RX9 32 "PairMatching$Stables" "graph" "LPairMatching$Graph;") (by decide +kernel)
  have kIX11 := S.2.2.2.2 (.initialized RX11) (by decide +kernel)
  have kSX11_has := S.2.2.2.2 (.static yX11_has) (by decide +kernel)
  have w112 : Cond.methodLinkNest RX9 112 yX11_has "PairMatching" ∈ nestW := List.mem_of_getElem? (i := 94) rfl
  have w51 : Cond.fieldLinkNest RX9 51 "PairMatching$Graph" "nodes" "I" "PairMatching" ∈ nestW := List.mem_of_getElem? (i := 2) rfl
  unfold f_X9_isTempted at hf
  refine lv_aload_n S.1 S.2.1 dX9_isTempted_0 rfl (lv_at hl 0 rfl) ?_
  refine g_get S hN hw (C := RX9) (T := TX9) (N := 10) (ci := 9) (v := .ref a_t_wanted) 0 5 iX9 k22 dX9_isTempted_1 rfl rfl (by decide) rfl ?_
  refine lv_iload_n S.1 S.2.1 dX9_isTempted_4 rfl (lv_at hl 1 rfl) ?_
  obtain ⟨hi_0, hf⟩ := rd_s hf
  refine g_iald (n := 16) (f := t_wanted) S hN hw 2 hi_0 dX9_isTempted_5 rfl ?_
  generalize t_wanted (p1 : Int32).toNatClampNeg = y_1 at hf ⊢
  refine lv_iload_n S.1 S.2.1 dX9_isTempted_6 rfl (lv_at hl 2 rfl) ?_
  refine lv_iand S.1 S.2.1 dX9_isTempted_7 ?_
  refine lv_istore_n (lv' := [(3, .int (y_1 &&& p2)), (0, .ref a_t), (1, .int p1), (2, .int p2)]) S.1 S.2.1 dX9_isTempted_8 rfl hl (by decide) rfl (fun ls hl => ?_)
  refine lv_iload_n S.1 S.2.1 dX9_isTempted_9 rfl (lv_at hl 0 rfl) ?_
  refine lv_if_ne (tgt := 15) S.1 S.2.1 dX9_isTempted_10 (by decide) (fun h_2 => ?_) (fun h_2 => ?_)
  · replace hf := if_f h_2 hf
    refine lv_iconst (v := 0) S.1 S.2.1 dX9_isTempted_15 (by decide) ?_
    refine lv_istore (lv' := [(4, .int 0), (3, .int (y_1 &&& p2)), (0, .ref a_t), (1, .int p1), (2, .int p2)]) S.1 S.2.1 dX9_isTempted_16 hl (by decide) rfl (fun ls hl => ?_)
    obtain ⟨kk_61_2, ekk_61_2, hf⟩ := jn_s hf
    have hJ_kk_61_2 : ∀  (H : Heap) (locs : List Loc) (ls : Array Slot), Wo E A s [oC a_t 9 [.ref a_g, .ref a_k, .ref a_t_arcBetween, .ref a_t_open, .ref a_t_sooner, .ref a_t_wanted, .int t_total, .long t_first, .int t_graphAge, .int t_ranksAge], oC a_g 2 [.int g_nodes, .int g_made, .int g_living, .int g_age, .ref a_g_oneEnd, .ref a_g_otherEnd, .ref a_g_weights, .ref a_g_alive, .ref a_g_joined], aI E a_t_wanted 16 t_wanted] H locs → lv_has ls 5 [] → kk_61_2 = some ro → W p l e (Rm 1) s m (([.ref a_t, .int p1, .int p2] : List Value).toArray) below meth c H locs 0 0 Q (F0 m 61 ls []) := by
      intro H locs ls hw hl hf
      rw [ekk_61_2] at hf
      refine lv_iconst (v := 0) S.1 S.2.1 dX9_isTempted_61 (by decide) ?_
      cases hf
      exact hE _ _ _ _ hw dX9_isTempted_62 (by decide)
    have hL_18_12 : ∀ (n : Nat) (v4_4 : Int32) (H : Heap) (locs : List Loc) (ls : Array Slot), Wo E A s [oC a_t 9 [.ref a_g, .ref a_k, .ref a_t_arcBetween, .ref a_t_open, .ref a_t_sooner, .ref a_t_wanted, .int t_total, .long t_first, .int t_graphAge, .int t_ranksAge], oC a_g 2 [.int g_nodes, .int g_made, .int g_living, .int g_age, .ref a_g_oneEnd, .ref a_g_otherEnd, .ref a_g_weights, .ref a_g_alive, .ref a_g_joined], aI E a_t_wanted 16 t_wanted] H locs → lv_has ls 5 [(0, .ref a_t), (1, .int p1), (3, .int (y_1 &&& p2)), (4, .int v4_4)] → f_X9_isTempted_L18 g_nodes t_wanted p1 p2 y_1 kk_61_2 n v4_4 = some ro → W p l e (Rm 1) s m (([.ref a_t, .int p1, .int p2] : List Value).toArray) below meth c H locs 0 0 Q (F0 m 18 ls []) := by
      intro n
      induction n with
      | zero => intro v4_4 H locs ls hw hl hf; unfold f_X9_isTempted_L18 at hf; cases hf
      | succ n ih =>
        intro v4_4 H locs ls hw hl hf
        unfold f_X9_isTempted_L18 at hf
        refine lv_iload S.1 S.2.1 dX9_isTempted_18 (lv_at hl 3 rfl) ?_
        refine lv_aload_n S.1 S.2.1 dX9_isTempted_20 rfl (lv_at hl 0 rfl) ?_
        refine g_get S hN hw (C := RX9) (T := TX9) (N := 10) (ci := 9) (v := .ref a_g) 0 0 iX9 k32 dX9_isTempted_21 rfl rfl (by decide) rfl ?_
        refine g_getN S hN hw (C := RX2) (T := TX2) (N := 9) (ci := 2) (v := .int g_nodes) 1 0 iX2 w51 dX9_isTempted_24 rfl rfl (by decide) rfl ?_
        refine lv_icmp_ge (tgt := 61) S.1 S.2.1 dX9_isTempted_27 (by decide) (fun h_5 => ?_) (fun h_5 => ?_)
        · replace hf := if_t h_5 hf
          exact hJ_kk_61_2 _ _ _ hw (lv_sub hl [] rfl) hf
        · replace hf := if_f h_5 hf
          refine lv_iload_n S.1 S.2.1 dX9_isTempted_30 rfl (lv_at hl 2 rfl) ?_
          refine lv_iload S.1 S.2.1 dX9_isTempted_31 (lv_at hl 3 rfl) ?_
          refine g_calli (r := (f_X11_has (y_1 &&& p2) v4_4)) (wc := []) (wr := [oC a_t 9 [.ref a_g, .ref a_k, .ref a_t_arcBetween, .ref a_t_open, .ref a_t_sooner, .ref a_t_wanted, .int t_total, .long t_first, .int t_graphAge, .int t_ranksAge], oC a_g 2 [.int g_nodes, .int g_made, .int g_living, .int g_age, .ref a_g_oneEnd, .ref a_g_otherEnd, .ref a_g_weights, .ref a_g_alive, .ref a_g_joined], aI E a_t_wanted 16 t_wanted]) (w1 := []) (va_runSN (As := [.int (y_1 &&& p2), .int v4_4]) (rest := []) S (c_X11_has l E (y_1 &&& p2) v4_4 (f_X11_has (y_1 &&& p2) v4_4) rfl _) ⟨(va_cnB 2 S.2.2.2.2 gX9_isTempted_X11_has_n112 rfl rfl rfl (hN.2 _ w112) kIX11 (by decide +kernel) (rm_le (by omega) (by decide))), kSX11_has, trivial⟩ (preS hN hw [] rfl rfl) rfl rfl hl.1 rfl (lv_room (Nat.le_of_ble_eq_true rfl)) dX9_isTempted_33 ⟨Nat.le_refl _, Nat.le_refl _⟩) hw hA [] [0, 1, 2] rfl rfl rfl (by decide) (fun H locs hw => ?_)
          have hw : Wo E A s [oC a_t 9 [.ref a_g, .ref a_k, .ref a_t_arcBetween, .ref a_t_open, .ref a_t_sooner, .ref a_t_wanted, .int t_total, .long t_first, .int t_graphAge, .int t_ranksAge], oC a_g 2 [.int g_nodes, .int g_made, .int g_living, .int g_age, .ref a_g_oneEnd, .ref a_g_otherEnd, .ref a_g_weights, .ref a_g_alive, .ref a_g_joined], aI E a_t_wanted 16 t_wanted] H _ := hw
          refine lv_if_eq (tgt := 55) S.1 S.2.1 dX9_isTempted_36 (by decide) (fun h_8 => ?_) (fun h_8 => ?_)
          · replace hf := if_t h_8 hf
            refine lv_iinc (v := (v4_4 + 1)) (lv' := [(4, .int (v4_4 + 1)), (0, .ref a_t), (1, .int p1), (3, .int (y_1 &&& p2))]) S.1 S.2.1 dX9_isTempted_55 hl (k := 3) rfl rfl (by decide) rfl (fun ls hl => ?_)
            refine lv_goto (tgt := 18) S.1 S.2.1 dX9_isTempted_58 (by decide) ?_
            exact ih (v4_4 + 1) _ _ _ hw (lv_sub hl [1, 2, 3, 0] rfl) hf
          · replace hf := if_f h_8 hf
            refine lv_aload_n S.1 S.2.1 dX9_isTempted_39 rfl (lv_at hl 0 rfl) ?_
            refine g_get S hN hw (C := RX9) (T := TX9) (N := 10) (ci := 9) (v := .ref a_t_wanted) 0 5 iX9 k22 dX9_isTempted_40 rfl rfl (by decide) rfl ?_
            refine lv_iload S.1 S.2.1 dX9_isTempted_43 (lv_at hl 3 rfl) ?_
            obtain ⟨hi_8, hf⟩ := rd_s hf
            refine g_iald (n := 16) (f := t_wanted) S hN hw 2 hi_8 dX9_isTempted_45 rfl ?_
            generalize t_wanted (v4_4 : Int32).toNatClampNeg = y_9 at hf ⊢
            refine lv_iload_n S.1 S.2.1 dX9_isTempted_46 rfl (lv_at hl 1 rfl) ?_
            refine g_calli (r := (f_X11_has y_9 p1)) (wc := []) (wr := [oC a_t 9 [.ref a_g, .ref a_k, .ref a_t_arcBetween, .ref a_t_open, .ref a_t_sooner, .ref a_t_wanted, .int t_total, .long t_first, .int t_graphAge, .int t_ranksAge], oC a_g 2 [.int g_nodes, .int g_made, .int g_living, .int g_age, .ref a_g_oneEnd, .ref a_g_otherEnd, .ref a_g_weights, .ref a_g_alive, .ref a_g_joined], aI E a_t_wanted 16 t_wanted]) (w1 := []) (va_runSN (As := [.int y_9, .int p1]) (rest := []) S (c_X11_has l E y_9 p1 (f_X11_has y_9 p1) rfl _) ⟨(va_cnB 2 S.2.2.2.2 gX9_isTempted_X11_has_n112 rfl rfl rfl (hN.2 _ w112) kIX11 (by decide +kernel) (rm_le (by omega) (by decide))), kSX11_has, trivial⟩ (preS hN hw [] rfl rfl) rfl rfl hl.1 rfl (lv_room (Nat.le_of_ble_eq_true rfl)) dX9_isTempted_47 ⟨Nat.le_refl _, Nat.le_refl _⟩) hw hA [] [0, 1, 2] rfl rfl rfl (by decide) (fun H locs hw => ?_)
            have hw : Wo E A s [oC a_t 9 [.ref a_g, .ref a_k, .ref a_t_arcBetween, .ref a_t_open, .ref a_t_sooner, .ref a_t_wanted, .int t_total, .long t_first, .int t_graphAge, .int t_ranksAge], oC a_g 2 [.int g_nodes, .int g_made, .int g_living, .int g_age, .ref a_g_oneEnd, .ref a_g_otherEnd, .ref a_g_weights, .ref a_g_alive, .ref a_g_joined], aI E a_t_wanted 16 t_wanted] H _ := hw
            refine lv_if_eq (tgt := 55) S.1 S.2.1 dX9_isTempted_50 (by decide) (fun h_12 => ?_) (fun h_12 => ?_)
            · replace hf := if_t h_12 hf
              refine lv_iinc (v := (v4_4 + 1)) (lv' := [(4, .int (v4_4 + 1)), (0, .ref a_t), (1, .int p1), (3, .int (y_1 &&& p2))]) S.1 S.2.1 dX9_isTempted_55 hl (k := 3) rfl rfl (by decide) rfl (fun ls hl => ?_)
              refine lv_goto (tgt := 18) S.1 S.2.1 dX9_isTempted_58 (by decide) ?_
              exact ih (v4_4 + 1) _ _ _ hw (lv_sub hl [1, 2, 3, 0] rfl) hf
            · replace hf := if_f h_12 hf
              refine lv_iconst (v := 1) S.1 S.2.1 dX9_isTempted_53 (by decide) ?_
              cases hf
              exact hE _ _ _ _ hw dX9_isTempted_54 (by decide)
    exact hL_18_12 F 0 _ _ _ hw (lv_sub hl [2, 3, 1, 0] rfl) hf
  · replace hf := if_t h_2 hf
    refine lv_iconst (v := 0) S.1 S.2.1 dX9_isTempted_13 (by decide) ?_
    cases hf
    exact hE _ _ _ _ hw dX9_isTempted_14 (by decide)
def f_X9_canPair (F : Nat) (p1 : Int32) (p2 : Int32) (p3 : Int32) (g_nodes : Int32) (t_sooner : Nat → Int32) (t_wanted : Nat → Int32) : Option (Int32 × (Nat → Int32)) :=
  rd 256 t_sooner (f_X11_cell p1 p2) (fun y_3 => wr 16 t_wanted p1 y_3 (fun t_wanted_4 => rd 256 t_sooner (f_X11_cell p2 p1) (fun y_7 => wr 16 t_wanted_4 p2 y_7 (fun t_wanted_8 => (f_X9_isTempted F p1 p3 g_nodes t_wanted_8).bind (fun r_9 => (if r_9 = 0 then (f_X9_isTempted F p2 p3 g_nodes t_wanted_8).bind (fun r_12 => (if r_12 = 0 then some (1, t_wanted_8) else some (0, t_wanted_8))) else some (0, t_wanted_8)))))))
set_option maxHeartbeats 4000000 in
set_option maxRecDepth 100000 in
theorem c_X9_canPair (l : Launch) (E : Ev) (F : Nat) (g_nodes : Int32) (g_made : Int32) (g_living : Int32) (g_age : Int32) (a_g_oneEnd : Nat) (a_g_otherEnd : Nat) (a_g_weights : Nat) (a_g_alive : Nat) (a_g_joined : Nat) (a_g : Nat) (a_k : Nat) (a_t_arcBetween : Nat) (a_t_open : Nat) (t_sooner : Nat → Int32) (a_t_sooner : Nat) (t_wanted : Nat → Int32) (a_t_wanted : Nat) (t_total : Int32) (t_first : Int64) (t_graphAge : Int32) (t_ranksAge : Int32) (a_t : Nat) (p1 : Int32) (p2 : Int32) (p3 : Int32) (ro : Int32) (u_t_wanted : Nat → Int32) (hf : f_X9_canPair F p1 p2 p3 g_nodes t_sooner t_wanted = some (ro, u_t_wanted)) :
    CtI l yX9_canPair wsX9_canPair (Rm 2) E [.ref a_t, .int p1, .int p2, .int p3] [oC a_t 9 [.ref a_g, .ref a_k, .ref a_t_arcBetween, .ref a_t_open, .ref a_t_sooner, .ref a_t_wanted, .int t_total, .long t_first, .int t_graphAge, .int t_ranksAge], oC a_g 2 [.int g_nodes, .int g_made, .int g_living, .int g_age, .ref a_g_oneEnd, .ref a_g_otherEnd, .ref a_g_weights, .ref a_g_alive, .ref a_g_joined], aI E a_t_sooner 256 t_sooner, aI E a_t_wanted 16 t_wanted] ro [oC a_t 9 [.ref a_g, .ref a_k, .ref a_t_arcBetween, .ref a_t_open, .ref a_t_sooner, .ref a_t_wanted, .int t_total, .long t_first, .int t_graphAge, .int t_ranksAge], oC a_g 2 [.int g_nodes, .int g_made, .int g_living, .int g_age, .ref a_g_oneEnd, .ref a_g_otherEnd, .ref a_g_weights, .ref a_g_alive, .ref a_g_joined], aI E a_t_sooner 256 t_sooner, aI E a_t_wanted 16 u_t_wanted] := by
  refine ofZ (cc := cX9_canPair) (maxL := 4) (own := RX9) rfl rfl (by decide) rfl rfl ?_
  intro p e s m below meth c A ls Q S hnm hN hw hA hl0 hE
  have hl : lv_has ls 4 [(0, .ref a_t), (1, .int p1), (2, .int p2), (3, .int p3)] := hl0 _ (lv_entry [.ref a_t, .int p1, .int p2, .int p3] (n := 4) (Nat.le_of_ble_eq_true rfl))
  have iX9 : ∀ w ∈ wsX90, w ∈ wsX9_canPair := by decide +kernel
  have k19 := S.2.2.2.2 (.fieldLink RX9 19 "PairMatching$Stables" "sooner" "[I") (by decide +kernel)
  have k22 := S.2.2.2.2 (.fieldLink RX9 22 "PairMatching$Stables" "wanted" "[I") (by decide +kernel)
  have kIX11 := S.2.2.2.2 (.initialized RX11) (by decide +kernel)
  have kSX11_cell := S.2.2.2.2 (.static yX11_cell) (by decide +kernel)
  have w92 : Cond.methodLinkNest RX9 92 yX11_cell "PairMatching" ∈ nestW := List.mem_of_getElem? (i := 92) rfl
  unfold f_X9_canPair at hf
  refine lv_aload_n S.1 S.2.1 dX9_canPair_0 rfl (lv_at hl 0 rfl) ?_
  refine g_get S hN hw (C := RX9) (T := TX9) (N := 10) (ci := 9) (v := .ref a_t_wanted) 0 5 iX9 k22 dX9_canPair_1 rfl rfl (by decide) rfl ?_
  refine lv_iload_n S.1 S.2.1 dX9_canPair_4 rfl (lv_at hl 1 rfl) ?_
  refine lv_aload_n S.1 S.2.1 dX9_canPair_5 rfl (lv_at hl 0 rfl) ?_
  refine g_get S hN hw (C := RX9) (T := TX9) (N := 10) (ci := 9) (v := .ref a_t_sooner) 0 4 iX9 k19 dX9_canPair_6 rfl rfl (by decide) rfl ?_
  refine lv_iload_n S.1 S.2.1 dX9_canPair_9 rfl (lv_at hl 1 rfl) ?_
  refine lv_iload_n S.1 S.2.1 dX9_canPair_10 rfl (lv_at hl 2 rfl) ?_
  refine g_calli (r := (f_X11_cell p1 p2)) (wc := []) (wr := [oC a_t 9 [.ref a_g, .ref a_k, .ref a_t_arcBetween, .ref a_t_open, .ref a_t_sooner, .ref a_t_wanted, .int t_total, .long t_first, .int t_graphAge, .int t_ranksAge], oC a_g 2 [.int g_nodes, .int g_made, .int g_living, .int g_age, .ref a_g_oneEnd, .ref a_g_otherEnd, .ref a_g_weights, .ref a_g_alive, .ref a_g_joined], aI E a_t_sooner 256 t_sooner, aI E a_t_wanted 16 t_wanted]) (w1 := []) (va_runSN (As := [.int p1, .int p2]) (rest := [.ref a_t_sooner, .int p1, .ref a_t_wanted]) S (c_X11_cell l E p1 p2 (f_X11_cell p1 p2) rfl _) ⟨(va_cnB 2 S.2.2.2.2 gX9_canPair_X11_cell_n92 rfl rfl rfl (hN.2 _ w92) kIX11 (by decide +kernel) (rm_le (by omega) (by decide))), kSX11_cell, trivial⟩ (preS hN hw [] rfl rfl) rfl rfl hl.1 rfl (lv_room (Nat.le_of_ble_eq_true rfl)) dX9_canPair_11 ⟨Nat.le_refl _, Nat.le_refl _⟩) hw hA [] [0, 1, 2, 3] rfl rfl rfl (by decide) (fun H locs hw => ?_)
  have hw : Wo E A s [oC a_t 9 [.ref a_g, .ref a_k, .ref a_t_arcBetween, .ref a_t_open, .ref a_t_sooner, .ref a_t_wanted, .int t_total, .long t_first, .int t_graphAge, .int t_ranksAge], oC a_g 2 [.int g_nodes, .int g_made, .int g_living, .int g_age, .ref a_g_oneEnd, .ref a_g_otherEnd, .ref a_g_weights, .ref a_g_alive, .ref a_g_joined], aI E a_t_sooner 256 t_sooner, aI E a_t_wanted 16 t_wanted] H _ := hw
  obtain ⟨hi_2, hf⟩ := rd_s hf
  refine g_iald (n := 256) (f := t_sooner) S hN hw 2 hi_2 dX9_canPair_14 rfl ?_
  generalize t_sooner ((f_X11_cell p1 p2) : Int32).toNatClampNeg = y_3 at hf ⊢
  obtain ⟨hi_3, hf⟩ := wr_s hf
  refine g_iast (n := 16) (f := t_wanted) (w1 := [oC a_t 9 [.ref a_g, .ref a_k, .ref a_t_arcBetween, .ref a_t_open, .ref a_t_sooner, .ref a_t_wanted, .int t_total, .long t_first, .int t_graphAge, .int t_ranksAge], oC a_g 2 [.int g_nodes, .int g_made, .int g_living, .int g_age, .ref a_g_oneEnd, .ref a_g_otherEnd, .ref a_g_weights, .ref a_g_alive, .ref a_g_joined], aI E a_t_sooner 256 t_sooner, aI E a_t_wanted 16 (va_up t_wanted (p1 : Int32).toNatClampNeg y_3)]) S hN hw 3 hi_3 dX9_canPair_15 rfl rfl (fun H locs hw => ?_)
  generalize va_up t_wanted (p1 : Int32).toNatClampNeg y_3 = t_wanted_4 at hf hw
  refine lv_aload_n S.1 S.2.1 dX9_canPair_16 rfl (lv_at hl 0 rfl) ?_
  refine g_get S hN hw (C := RX9) (T := TX9) (N := 10) (ci := 9) (v := .ref a_t_wanted) 0 5 iX9 k22 dX9_canPair_17 rfl rfl (by decide) rfl ?_
  refine lv_iload_n S.1 S.2.1 dX9_canPair_20 rfl (lv_at hl 2 rfl) ?_
  refine lv_aload_n S.1 S.2.1 dX9_canPair_21 rfl (lv_at hl 0 rfl) ?_
  refine g_get S hN hw (C := RX9) (T := TX9) (N := 10) (ci := 9) (v := .ref a_t_sooner) 0 4 iX9 k19 dX9_canPair_22 rfl rfl (by decide) rfl ?_
  refine lv_iload_n S.1 S.2.1 dX9_canPair_25 rfl (lv_at hl 2 rfl) ?_
  refine lv_iload_n S.1 S.2.1 dX9_canPair_26 rfl (lv_at hl 1 rfl) ?_
  refine g_calli (r := (f_X11_cell p2 p1)) (wc := []) (wr := [oC a_t 9 [.ref a_g, .ref a_k, .ref a_t_arcBetween, .ref a_t_open, .ref a_t_sooner, .ref a_t_wanted, .int t_total, .long t_first, .int t_graphAge, .int t_ranksAge], oC a_g 2 [.int g_nodes, .int g_made, .int g_living, .int g_age, .ref a_g_oneEnd, .ref a_g_otherEnd, .ref a_g_weights, .ref a_g_alive, .ref a_g_joined], aI E a_t_sooner 256 t_sooner, aI E a_t_wanted 16 t_wanted_4]) (w1 := []) (va_runSN (As := [.int p2, .int p1]) (rest := [.ref a_t_sooner, .int p2, .ref a_t_wanted]) S (c_X11_cell l E p2 p1 (f_X11_cell p2 p1) rfl _) ⟨(va_cnB 2 S.2.2.2.2 gX9_canPair_X11_cell_n92 rfl rfl rfl (hN.2 _ w92) kIX11 (by decide +kernel) (rm_le (by omega) (by decide))), kSX11_cell, trivial⟩ (preS hN hw [] rfl rfl) rfl rfl hl.1 rfl (lv_room (Nat.le_of_ble_eq_true rfl)) dX9_canPair_27 ⟨Nat.le_refl _, Nat.le_refl _⟩) hw hA [] [0, 1, 2, 3] rfl rfl rfl (by decide) (fun H locs hw => ?_)
  have hw : Wo E A s [oC a_t 9 [.ref a_g, .ref a_k, .ref a_t_arcBetween, .ref a_t_open, .ref a_t_sooner, .ref a_t_wanted, .int t_total, .long t_first, .int t_graphAge, .int t_ranksAge], oC a_g 2 [.int g_nodes, .int g_made, .int g_living, .int g_age, .ref a_g_oneEnd, .ref a_g_otherEnd, .ref a_g_weights, .ref a_g_alive, .ref a_g_joined], aI E a_t_sooner 256 t_sooner, aI E a_t_wanted 16 t_wanted_4] H _ := hw
  obtain ⟨hi_6, hf⟩ := rd_s hf
  refine g_iald (n := 256) (f := t_sooner) S hN hw 2 hi_6 dX9_canPair_30 rfl ?_
  generalize t_sooner ((f_X11_cell p2 p1) : Int32).toNatClampNeg = y_7 at hf ⊢
  obtain ⟨hi_7, hf⟩ := wr_s hf
  refine g_iast (n := 16) (f := t_wanted_4) (w1 := [oC a_t 9 [.ref a_g, .ref a_k, .ref a_t_arcBetween, .ref a_t_open, .ref a_t_sooner, .ref a_t_wanted, .int t_total, .long t_first, .int t_graphAge, .int t_ranksAge], oC a_g 2 [.int g_nodes, .int g_made, .int g_living, .int g_age, .ref a_g_oneEnd, .ref a_g_otherEnd, .ref a_g_weights, .ref a_g_alive, .ref a_g_joined], aI E a_t_sooner 256 t_sooner, aI E a_t_wanted 16 (va_up t_wanted_4 (p2 : Int32).toNatClampNeg y_7)]) S hN hw 3 hi_7 dX9_canPair_31 rfl rfl (fun H locs hw => ?_)
  generalize va_up t_wanted_4 (p2 : Int32).toNatClampNeg y_7 = t_wanted_8 at hf hw
  refine lv_aload_n S.1 S.2.1 dX9_canPair_32 rfl (lv_at hl 0 rfl) ?_
  refine lv_iload_n S.1 S.2.1 dX9_canPair_33 rfl (lv_at hl 1 rfl) ?_
  refine lv_iload_n S.1 S.2.1 dX9_canPair_34 rfl (lv_at hl 3 rfl) ?_
  obtain ⟨r_9, hc_9, hf⟩ := bd_s hf
  refine g_calli (r := r_9) (wc := [oC a_t 9 [.ref a_g, .ref a_k, .ref a_t_arcBetween, .ref a_t_open, .ref a_t_sooner, .ref a_t_wanted, .int t_total, .long t_first, .int t_graphAge, .int t_ranksAge], oC a_g 2 [.int g_nodes, .int g_made, .int g_living, .int g_age, .ref a_g_oneEnd, .ref a_g_otherEnd, .ref a_g_weights, .ref a_g_alive, .ref a_g_joined], aI E a_t_wanted 16 t_wanted_8]) (wr := [aI E a_t_sooner 256 t_sooner]) (w1 := [oC a_t 9 [.ref a_g, .ref a_k, .ref a_t_arcBetween, .ref a_t_open, .ref a_t_sooner, .ref a_t_wanted, .int t_total, .long t_first, .int t_graphAge, .int t_ranksAge], oC a_g 2 [.int g_nodes, .int g_made, .int g_living, .int g_age, .ref a_g_oneEnd, .ref a_g_otherEnd, .ref a_g_weights, .ref a_g_alive, .ref a_g_joined], aI E a_t_wanted 16 t_wanted_8]) (va_runV (As := [.int p1, .int p3]) (rest := []) S (c_X9_isTempted l E F g_nodes g_made g_living g_age a_g_oneEnd a_g_otherEnd a_g_weights a_g_alive a_g_joined a_g a_k a_t_arcBetween a_t_open a_t_sooner t_wanted_8 a_t_wanted t_total t_first t_graphAge t_ranksAge a_t p1 p3 r_9 hc_9 _) (cwV 2 S.2.2.2.2 gX9_canPair_X9_isTempted rfl rfl rfl (by decide +kernel) (rm_le (by omega) (by decide))) (preV (q := (RX9, TX9, 10)) hN hw [0, 1, 3] rfl rfl rfl rfl) rfl rfl hl.1 rfl (lv_room (Nat.le_of_ble_eq_true rfl)) dX9_canPair_35 ⟨Nat.le_refl _, Nat.le_refl _⟩) hw hA [0, 1, 3] [2] rfl rfl rfl (by decide) (fun H locs hw => ?_)
  have hw : Wo E A s [aI E a_t_sooner 256 t_sooner, oC a_t 9 [.ref a_g, .ref a_k, .ref a_t_arcBetween, .ref a_t_open, .ref a_t_sooner, .ref a_t_wanted, .int t_total, .long t_first, .int t_graphAge, .int t_ranksAge], oC a_g 2 [.int g_nodes, .int g_made, .int g_living, .int g_age, .ref a_g_oneEnd, .ref a_g_otherEnd, .ref a_g_weights, .ref a_g_alive, .ref a_g_joined], aI E a_t_wanted 16 t_wanted_8] H _ := hw
  refine lv_if_ne (tgt := 54) S.1 S.2.1 dX9_canPair_38 (by decide) (fun h_11 => ?_) (fun h_11 => ?_)
  · replace hf := if_f h_11 hf
    refine lv_iconst (v := 0) S.1 S.2.1 dX9_canPair_54 (by decide) ?_
    cases hf
    exact hE _ _ _ _ (hw.sub [1, 2, 0, 3] rfl rfl) dX9_canPair_55 (by decide)
  · replace hf := if_t h_11 hf
    refine lv_aload_n S.1 S.2.1 dX9_canPair_41 rfl (lv_at hl 0 rfl) ?_
    refine lv_iload_n S.1 S.2.1 dX9_canPair_42 rfl (lv_at hl 2 rfl) ?_
    refine lv_iload_n S.1 S.2.1 dX9_canPair_43 rfl (lv_at hl 3 rfl) ?_
    obtain ⟨r_12, hc_12, hf⟩ := bd_s hf
    refine g_calli (r := r_12) (wc := [oC a_t 9 [.ref a_g, .ref a_k, .ref a_t_arcBetween, .ref a_t_open, .ref a_t_sooner, .ref a_t_wanted, .int t_total, .long t_first, .int t_graphAge, .int t_ranksAge], oC a_g 2 [.int g_nodes, .int g_made, .int g_living, .int g_age, .ref a_g_oneEnd, .ref a_g_otherEnd, .ref a_g_weights, .ref a_g_alive, .ref a_g_joined], aI E a_t_wanted 16 t_wanted_8]) (wr := [aI E a_t_sooner 256 t_sooner]) (w1 := [oC a_t 9 [.ref a_g, .ref a_k, .ref a_t_arcBetween, .ref a_t_open, .ref a_t_sooner, .ref a_t_wanted, .int t_total, .long t_first, .int t_graphAge, .int t_ranksAge], oC a_g 2 [.int g_nodes, .int g_made, .int g_living, .int g_age, .ref a_g_oneEnd, .ref a_g_otherEnd, .ref a_g_weights, .ref a_g_alive, .ref a_g_joined], aI E a_t_wanted 16 t_wanted_8]) (va_runV (As := [.int p2, .int p3]) (rest := []) S (c_X9_isTempted l E F g_nodes g_made g_living g_age a_g_oneEnd a_g_otherEnd a_g_weights a_g_alive a_g_joined a_g a_k a_t_arcBetween a_t_open a_t_sooner t_wanted_8 a_t_wanted t_total t_first t_graphAge t_ranksAge a_t p2 p3 r_12 hc_12 _) (cwV 2 S.2.2.2.2 gX9_canPair_X9_isTempted rfl rfl rfl (by decide +kernel) (rm_le (by omega) (by decide))) (preV (q := (RX9, TX9, 10)) hN hw [1, 2, 3] rfl rfl rfl rfl) rfl rfl hl.1 rfl (lv_room (Nat.le_of_ble_eq_true rfl)) dX9_canPair_44 ⟨Nat.le_refl _, Nat.le_refl _⟩) hw hA [1, 2, 3] [0] rfl rfl rfl (by decide) (fun H locs hw => ?_)
    have hw : Wo E A s [aI E a_t_sooner 256 t_sooner, oC a_t 9 [.ref a_g, .ref a_k, .ref a_t_arcBetween, .ref a_t_open, .ref a_t_sooner, .ref a_t_wanted, .int t_total, .long t_first, .int t_graphAge, .int t_ranksAge], oC a_g 2 [.int g_nodes, .int g_made, .int g_living, .int g_age, .ref a_g_oneEnd, .ref a_g_otherEnd, .ref a_g_weights, .ref a_g_alive, .ref a_g_joined], aI E a_t_wanted 16 t_wanted_8] H _ := hw
    refine lv_if_ne (tgt := 54) S.1 S.2.1 dX9_canPair_47 (by decide) (fun h_14 => ?_) (fun h_14 => ?_)
    · replace hf := if_f h_14 hf
      refine lv_iconst (v := 0) S.1 S.2.1 dX9_canPair_54 (by decide) ?_
      cases hf
      exact hE _ _ _ _ (hw.sub [1, 2, 0, 3] rfl rfl) dX9_canPair_55 (by decide)
    · replace hf := if_t h_14 hf
      refine lv_iconst (v := 1) S.1 S.2.1 dX9_canPair_50 (by decide) ?_
      refine lv_goto (tgt := 55) S.1 S.2.1 dX9_canPair_51 (by decide) ?_
      cases hf
      exact hE _ _ _ _ (hw.sub [1, 2, 0, 3] rfl rfl) dX9_canPair_55 (by decide)
def f_X9_settle_L118 (F : Nat) (g_nodes : Int32) (t_arcBetween : Nat → Int64) (t_sooner : Nat → Int32) (p1 : Int32) (p2 : Int64) (p3 : Int32) (rec : Int32 → Int64 → Int32 → Int32 → Int64 → (Nat → Int32) → Option (Int32 × Int64 × (Nat → Int32))) (x_7 : Int32) (y_18 : Int32) (kk_195_21 : Int32 → Int64 → (Nat → Int32) → Option (Int32 × Int64 × (Nat → Int32))) : Nat → Int32 → (Nat → Int32) → Int32 → Int64 → Option (Int32 × Int64 × (Nat → Int32))
  | 0, _, _, _, _ => none
  | n + 1, v8_23, t_wanted_24, t_total_25, t_first_26 => (if g_nodes ≤ v8_23 then (kk_195_21 t_total_25 t_first_26 t_wanted_24) else (if (f_X11_has (y_18 &&& ((f_X2_allNodes g_nodes) &&& (p1 ^^^ (-1)))) v8_23) = 0 then (f_X9_settle_L118 F g_nodes t_arcBetween t_sooner p1 p2 p3 rec x_7 y_18 kk_195_21 n (v8_23 + 1) t_wanted_24 t_total_25 t_first_26) else bd2 (f_X9_canPair F x_7 v8_23 p1 g_nodes t_sooner t_wanted_24) (fun r_31 t_wanted_32 => (if r_31 = 0 then (f_X9_settle_L118 F g_nodes t_arcBetween t_sooner p1 p2 p3 rec x_7 y_18 kk_195_21 n (v8_23 + 1) t_wanted_32 t_total_25 t_first_26) else ltt (((1 : Int32) <<< (x_7 &&& 31)) ||| ((1 : Int32) <<< (v8_23 &&& 31))) (fun x_35 => rd 256 t_arcBetween (f_X11_cell x_7 v8_23) (fun y_38 => bd3 (rec (p1 ||| x_35) (p2 ||| y_38) (p3 + 1) t_total_25 t_first_26 t_wanted_32) (fun t_total_39 t_first_40 t_wanted_41 => (f_X9_settle_L118 F g_nodes t_arcBetween t_sooner p1 p2 p3 rec x_7 y_18 kk_195_21 n (v8_23 + 1) t_wanted_41 t_total_39 t_first_40))))))))
def f_X9_settle (F : Nat) (g_nodes : Int32) (t_arcBetween : Nat → Int64) (t_open : Nat → Int32) (t_sooner : Nat → Int32) : Nat → Int32 → Int64 → Int32 → Int32 → Int64 → (Nat → Int32) → Option (Int32 × Int64 × (Nat → Int32))
  | 0, _, _, _, _, _, _ => none
  | n + 1, p1, p2, p3, t_total, t_first, t_wanted => (if p3 ≤ 16 then (if ((f_X2_allNodes g_nodes) &&& (p1 ^^^ (-1))) = 0 then some ((t_total + 1), (if p2 < t_first then t_first else p2), t_wanted) else ltt (f_X11_leastNode ((f_X2_allNodes g_nodes) &&& (p1 ^^^ (-1)))) (fun x_7 => rd 256 t_sooner (f_X11_cell x_7 x_7) (fun y_10 => wr 16 t_wanted x_7 y_10 (fun t_wanted_11 => (f_X9_isTempted F x_7 p1 g_nodes t_wanted_11).bind (fun r_12 => (jn (fun (t_total_14 : Int32) (t_first_15 : Int64) (t_wanted_16 : Nat → Int32) => rd 16 t_open x_7 (fun y_18 => (jn (fun (t_total_19 : Int32) (t_first_20 : Int64) (t_wanted_21 : Nat → Int32) => some (t_total_19, t_first_20, t_wanted_21)) (fun kk_195_21 => (f_X9_settle_L118 F g_nodes t_arcBetween t_sooner p1 p2 p3 (f_X9_settle F g_nodes t_arcBetween t_open t_sooner n) x_7 y_18 kk_195_21 F (x_7 + 1) t_wanted_16 t_total_14 t_first_15))))) (fun jj_100_16 => (if r_12 = 0 then bd3 ((f_X9_settle F g_nodes t_arcBetween t_open t_sooner n) (p1 ||| ((1 : Int32) <<< (x_7 &&& 31))) p2 (p3 + 1) t_total t_first t_wanted_11) (fun t_total_45 t_first_46 t_wanted_47 => (jj_100_16 t_total_45 t_first_46 t_wanted_47)) else (jj_100_16 t_total t_first t_wanted_11))))))))) else some (t_total, t_first, t_wanted))
set_option maxHeartbeats 4000000 in
set_option maxRecDepth 100000 in
theorem c_X9_settle (l : Launch) (E : Ev) (F : Nat) (g_nodes : Int32) (g_made : Int32) (g_living : Int32) (g_age : Int32) (a_g_oneEnd : Nat) (a_g_otherEnd : Nat) (a_g_weights : Nat) (a_g_alive : Nat) (a_g_joined : Nat) (a_g : Nat) (a_k : Nat) (t_arcBetween : Nat → Int64) (a_t_arcBetween : Nat) (t_open : Nat → Int32) (a_t_open : Nat) (t_sooner : Nat → Int32) (a_t_sooner : Nat) (a_t_wanted : Nat) (t_graphAge : Int32) (t_ranksAge : Int32) (a_t : Nat) : ∀ (d : Nat) (p1 : Int32) (p2 : Int64) (p3 : Int32) (t_total : Int32) (t_first : Int64) (t_wanted : Nat → Int32) (u_t_total : Int32) (u_t_first : Int64) (u_t_wanted : Nat → Int32) (hf : f_X9_settle F g_nodes t_arcBetween t_open t_sooner d p1 p2 p3 t_total t_first t_wanted = some (u_t_total, u_t_first, u_t_wanted)),
    CtV l yX9_settle wsX9_settle (Rm (3 + d)) E [.ref a_t, .int p1, .long p2, .int p3] [oC a_t 9 [.ref a_g, .ref a_k, .ref a_t_arcBetween, .ref a_t_open, .ref a_t_sooner, .ref a_t_wanted, .int t_total, .long t_first, .int t_graphAge, .int t_ranksAge], oC a_g 2 [.int g_nodes, .int g_made, .int g_living, .int g_age, .ref a_g_oneEnd, .ref a_g_otherEnd, .ref a_g_weights, .ref a_g_alive, .ref a_g_joined], aJ E a_t_arcBetween 256 t_arcBetween, aI E a_t_open 16 t_open, aI E a_t_sooner 256 t_sooner, aI E a_t_wanted 16 t_wanted] [oC a_t 9 [.ref a_g, .ref a_k, .ref a_t_arcBetween, .ref a_t_open, .ref a_t_sooner, .ref a_t_wanted, .int u_t_total, .long u_t_first, .int t_graphAge, .int t_ranksAge], oC a_g 2 [.int g_nodes, .int g_made, .int g_living, .int g_age, .ref a_g_oneEnd, .ref a_g_otherEnd, .ref a_g_weights, .ref a_g_alive, .ref a_g_joined], aJ E a_t_arcBetween 256 t_arcBetween, aI E a_t_open 16 t_open, aI E a_t_sooner 256 t_sooner, aI E a_t_wanted 16 u_t_wanted] := by
  intro d
  induction d with
  | zero => intro p1 p2 p3 t_total t_first t_wanted u_t_total u_t_first u_t_wanted hf; unfold f_X9_settle at hf; cases hf
  | succ d ihd =>
    intro p1 p2 p3 t_total t_first t_wanted u_t_total u_t_first u_t_wanted hf
    refine ofV (cc := cX9_settle) (maxL := 10) (own := RX9) rfl rfl (by decide) rfl rfl ?_
    intro p e s m below meth c A ls Q S hnm hN hw hA hl0 hE
    have hl : lv_has ls 10 [(0, .ref a_t), (1, .int p1), (2, .long p2), (4, .int p3)] := hl0 _ (lv_entry [.ref a_t, .int p1, .long p2, .int p3] (n := 10) (Nat.le_of_ble_eq_true rfl))
    have iX2 : ∀ w ∈ wsX20, w ∈ wsX9_settle := by decide +kernel
    have iX9 : ∀ w ∈ wsX90, w ∈ wsX9_settle := by decide +kernel
    have k100 := S.2.2.2.2 (.methodLink RX9 100 Lib.MathLoose.max_long.x) (by decide +kernel)
    have k15 := S.2.2.2.2 (.fieldLink RX9 15 "PairMatching$Stables" "open" "[I") (by decide +kernel)
    have k19 := S.2.2.2.2 (.fieldLink RX9 19 "PairMatching$Stables" "sooner" "[I") (by decide +kernel)
    have k22 := S.2.2.2.2 (.fieldLink RX9 22 "PairMatching$Stables" "wanted" "[I") (by decide +kernel)
    have k32 := S.2.2.2.2 (.fieldLink RX9 32 "PairMatching$Stables" "graph" "LPairMatching$Graph;") (by decide +kernel)
    have k62 := S.2.2.2.2 (.fieldLink RX9 62 "PairMatching$Stables" "total" "I") (by decide +kernel)
    have k65 := S.2.2.2.2 (.fieldLink RX9 65 "PairMatching$Stables" "first" "J") (by decide +kernel)
    have k9 := S.2.2.2.2 (.fieldLink RX9 9 "PairMatching$Stables" "arcBetween" "[J") (by decide +kernel)
    have kIX11 := S.2.2.2.2 (.initialized RX11) (by decide +kernel)
    have kSX11_cell := S.2.2.2.2 (.static yX11_cell) (by decide +kernel)
    have kSX11_has := S.2.2.2.2 (.static yX11_has) (by decide +kernel)
    have kSX11_leastNode := S.2.2.2.2 (.static yX11_leastNode) (by decide +kernel)
    have kmx1 := S.2.2.2.2 (.static Lib.MathLoose.max_long.x) (by decide +kernel)
    have kmx2 := S.2.2.2.2 (.initialized "java/lang/Math") (by decide +kernel)
    have kmx3 := S.2.2.2.2 (.code Lib.MathLoose.max_long.x Lib.MathLoose.max_long.code 4 (some .long)) (by decide +kernel)
    have w112 : Cond.methodLinkNest RX9 112 yX11_has "PairMatching" ∈ nestW := List.mem_of_getElem? (i := 94) rfl
    have w120 : Cond.methodLinkNest RX9 120 yX11_leastNode "PairMatching" ∈ nestW := List.mem_of_getElem? (i := 95) rfl
    have w51 : Cond.fieldLinkNest RX9 51 "PairMatching$Graph" "nodes" "I" "PairMatching" ∈ nestW := List.mem_of_getElem? (i := 2) rfl
    have w92 : Cond.methodLinkNest RX9 92 yX11_cell "PairMatching" ∈ nestW := List.mem_of_getElem? (i := 92) rfl
    unfold f_X9_settle at hf
    refine lv_aload_n S.1 S.2.1 dX9_settle_0 rfl (lv_at hl 0 rfl) ?_
    refine g_get S hN hw (C := RX9) (T := TX9) (N := 10) (ci := 9) (v := .ref a_g) 0 0 iX9 k32 dX9_settle_1 rfl rfl (by decide) rfl ?_
    refine g_calli (r := (f_X2_allNodes g_nodes)) (wc := [oC a_g 2 [.int g_nodes, .int g_made, .int g_living, .int g_age, .ref a_g_oneEnd, .ref a_g_otherEnd, .ref a_g_weights, .ref a_g_alive, .ref a_g_joined]]) (wr := [oC a_t 9 [.ref a_g, .ref a_k, .ref a_t_arcBetween, .ref a_t_open, .ref a_t_sooner, .ref a_t_wanted, .int t_total, .long t_first, .int t_graphAge, .int t_ranksAge], aJ E a_t_arcBetween 256 t_arcBetween, aI E a_t_open 16 t_open, aI E a_t_sooner 256 t_sooner, aI E a_t_wanted 16 t_wanted]) (w1 := [oC a_g 2 [.int g_nodes, .int g_made, .int g_living, .int g_age, .ref a_g_oneEnd, .ref a_g_otherEnd, .ref a_g_weights, .ref a_g_alive, .ref a_g_joined]]) (va_runV (As := []) (rest := []) S (c_X2_allNodes l E g_nodes g_made g_living g_age a_g_oneEnd a_g_otherEnd a_g_weights a_g_alive a_g_joined a_g (f_X2_allNodes g_nodes) rfl _) (cwV 0 S.2.2.2.2 gX9_settle_X2_allNodes rfl rfl rfl (by decide +kernel) (rm_le (by omega) (by decide))) (preV (q := (RX2, TX2, 9)) hN hw [1] rfl rfl rfl rfl) rfl rfl hl.1 rfl (lv_room (Nat.le_of_ble_eq_true rfl)) dX9_settle_4 ⟨Nat.le_refl _, Nat.le_refl _⟩) hw hA [1] [0, 2, 3, 4, 5] rfl rfl rfl (by decide) (fun H locs hw => ?_)
    have hw : Wo E A s [oC a_t 9 [.ref a_g, .ref a_k, .ref a_t_arcBetween, .ref a_t_open, .ref a_t_sooner, .ref a_t_wanted, .int t_total, .long t_first, .int t_graphAge, .int t_ranksAge], aJ E a_t_arcBetween 256 t_arcBetween, aI E a_t_open 16 t_open, aI E a_t_sooner 256 t_sooner, aI E a_t_wanted 16 t_wanted, oC a_g 2 [.int g_nodes, .int g_made, .int g_living, .int g_age, .ref a_g_oneEnd, .ref a_g_otherEnd, .ref a_g_weights, .ref a_g_alive, .ref a_g_joined]] H _ := hw
    refine lv_iload_n S.1 S.2.1 dX9_settle_7 rfl (lv_at hl 1 rfl) ?_
    refine lv_iconst (v := (-1)) S.1 S.2.1 dX9_settle_8 (by decide) ?_
    refine lv_ixor S.1 S.2.1 dX9_settle_9 ?_
    refine lv_iand S.1 S.2.1 dX9_settle_10 ?_
    refine lv_istore (lv' := [(5, .int ((f_X2_allNodes g_nodes) &&& (p1 ^^^ (-1)))), (0, .ref a_t), (1, .int p1), (2, .long p2), (4, .int p3)]) S.1 S.2.1 dX9_settle_11 hl (by decide) rfl (fun ls hl => ?_)
    refine lv_iload S.1 S.2.1 dX9_settle_13 (lv_at hl 4 rfl) ?_
    refine lv_bipush (v := 16) S.1 S.2.1 dX9_settle_15 (by decide) ?_
    refine lv_icmp_le (tgt := 21) S.1 S.2.1 dX9_settle_17 (by decide) (fun h_3 => ?_) (fun h_3 => ?_)
    · replace hf := if_t h_3 hf
      refine lv_iload S.1 S.2.1 dX9_settle_21 (lv_at hl 0 rfl) ?_
      refine lv_if_ne (tgt := 49) S.1 S.2.1 dX9_settle_23 (by decide) (fun h_4 => ?_) (fun h_4 => ?_)
      · replace hf := if_f h_4 hf
        refine lv_iload S.1 S.2.1 dX9_settle_49 (lv_at hl 0 rfl) ?_
        refine g_calli (r := (f_X11_leastNode ((f_X2_allNodes g_nodes) &&& (p1 ^^^ (-1))))) (wc := []) (wr := [oC a_t 9 [.ref a_g, .ref a_k, .ref a_t_arcBetween, .ref a_t_open, .ref a_t_sooner, .ref a_t_wanted, .int t_total, .long t_first, .int t_graphAge, .int t_ranksAge], aJ E a_t_arcBetween 256 t_arcBetween, aI E a_t_open 16 t_open, aI E a_t_sooner 256 t_sooner, aI E a_t_wanted 16 t_wanted, oC a_g 2 [.int g_nodes, .int g_made, .int g_living, .int g_age, .ref a_g_oneEnd, .ref a_g_otherEnd, .ref a_g_weights, .ref a_g_alive, .ref a_g_joined]]) (w1 := []) (va_runSN (As := [.int ((f_X2_allNodes g_nodes) &&& (p1 ^^^ (-1)))]) (rest := []) S (c_X11_leastNode l E ((f_X2_allNodes g_nodes) &&& (p1 ^^^ (-1))) (f_X11_leastNode ((f_X2_allNodes g_nodes) &&& (p1 ^^^ (-1)))) rfl _) ⟨(va_cnB 1 S.2.2.2.2 gX9_settle_X11_leastNode_n120 rfl rfl rfl (hN.2 _ w120) kIX11 (by decide +kernel) (rm_le (by omega) (by decide))), kSX11_leastNode, trivial⟩ (preS hN hw [] rfl rfl) rfl rfl hl.1 rfl (lv_room (Nat.le_of_ble_eq_true rfl)) dX9_settle_51 ⟨Nat.le_refl _, Nat.le_refl _⟩) hw hA [] [0, 1, 2, 3, 4, 5] rfl rfl rfl (by decide) (fun H locs hw => ?_)
        have hw : Wo E A s [oC a_t 9 [.ref a_g, .ref a_k, .ref a_t_arcBetween, .ref a_t_open, .ref a_t_sooner, .ref a_t_wanted, .int t_total, .long t_first, .int t_graphAge, .int t_ranksAge], aJ E a_t_arcBetween 256 t_arcBetween, aI E a_t_open 16 t_open, aI E a_t_sooner 256 t_sooner, aI E a_t_wanted 16 t_wanted, oC a_g 2 [.int g_nodes, .int g_made, .int g_living, .int g_age, .ref a_g_oneEnd, .ref a_g_otherEnd, .ref a_g_weights, .ref a_g_alive, .ref a_g_joined]] H _ := hw
        obtain ⟨x_7, he_7, hf⟩ := ltt_s hf
        rw [← he_7]
        refine lv_istore (lv' := [(6, .int x_7), (5, .int ((f_X2_allNodes g_nodes) &&& (p1 ^^^ (-1)))), (0, .ref a_t), (1, .int p1), (2, .long p2), (4, .int p3)]) S.1 S.2.1 dX9_settle_54 hl (by decide) rfl (fun ls hl => ?_)
        refine lv_aload_n S.1 S.2.1 dX9_settle_56 rfl (lv_at hl 2 rfl) ?_
        refine g_get S hN hw (C := RX9) (T := TX9) (N := 10) (ci := 9) (v := .ref a_t_wanted) 0 5 iX9 k22 dX9_settle_57 rfl rfl (by decide) rfl ?_
        refine lv_iload S.1 S.2.1 dX9_settle_60 (lv_at hl 0 rfl) ?_
        refine lv_aload_n S.1 S.2.1 dX9_settle_62 rfl (lv_at hl 2 rfl) ?_
        refine g_get S hN hw (C := RX9) (T := TX9) (N := 10) (ci := 9) (v := .ref a_t_sooner) 0 4 iX9 k19 dX9_settle_63 rfl rfl (by decide) rfl ?_
        refine lv_iload S.1 S.2.1 dX9_settle_66 (lv_at hl 0 rfl) ?_
        refine lv_iload S.1 S.2.1 dX9_settle_68 (lv_at hl 0 rfl) ?_
        refine g_calli (r := (f_X11_cell x_7 x_7)) (wc := []) (wr := [oC a_t 9 [.ref a_g, .ref a_k, .ref a_t_arcBetween, .ref a_t_open, .ref a_t_sooner, .ref a_t_wanted, .int t_total, .long t_first, .int t_graphAge, .int t_ranksAge], aJ E a_t_arcBetween 256 t_arcBetween, aI E a_t_open 16 t_open, aI E a_t_sooner 256 t_sooner, aI E a_t_wanted 16 t_wanted, oC a_g 2 [.int g_nodes, .int g_made, .int g_living, .int g_age, .ref a_g_oneEnd, .ref a_g_otherEnd, .ref a_g_weights, .ref a_g_alive, .ref a_g_joined]]) (w1 := []) (va_runSN (As := [.int x_7, .int x_7]) (rest := [.ref a_t_sooner, .int x_7, .ref a_t_wanted]) S (c_X11_cell l E x_7 x_7 (f_X11_cell x_7 x_7) rfl _) ⟨(va_cnB 2 S.2.2.2.2 gX9_settle_X11_cell_n92 rfl rfl rfl (hN.2 _ w92) kIX11 (by decide +kernel) (rm_le (by omega) (by decide))), kSX11_cell, trivial⟩ (preS hN hw [] rfl rfl) rfl rfl hl.1 rfl (lv_room (Nat.le_of_ble_eq_true rfl)) dX9_settle_70 ⟨Nat.le_refl _, Nat.le_refl _⟩) hw hA [] [0, 1, 2, 3, 4, 5] rfl rfl rfl (by decide) (fun H locs hw => ?_)
        have hw : Wo E A s [oC a_t 9 [.ref a_g, .ref a_k, .ref a_t_arcBetween, .ref a_t_open, .ref a_t_sooner, .ref a_t_wanted, .int t_total, .long t_first, .int t_graphAge, .int t_ranksAge], aJ E a_t_arcBetween 256 t_arcBetween, aI E a_t_open 16 t_open, aI E a_t_sooner 256 t_sooner, aI E a_t_wanted 16 t_wanted, oC a_g 2 [.int g_nodes, .int g_made, .int g_living, .int g_age, .ref a_g_oneEnd, .ref a_g_otherEnd, .ref a_g_weights, .ref a_g_alive, .ref a_g_joined]] H _ := hw
        obtain ⟨hi_9, hf⟩ := rd_s hf
        refine g_iald (n := 256) (f := t_sooner) S hN hw 3 hi_9 dX9_settle_73 rfl ?_
        generalize t_sooner ((f_X11_cell x_7 x_7) : Int32).toNatClampNeg = y_10 at hf ⊢
        obtain ⟨hi_10, hf⟩ := wr_s hf
        refine g_iast (n := 16) (f := t_wanted) (w1 := [oC a_t 9 [.ref a_g, .ref a_k, .ref a_t_arcBetween, .ref a_t_open, .ref a_t_sooner, .ref a_t_wanted, .int t_total, .long t_first, .int t_graphAge, .int t_ranksAge], aJ E a_t_arcBetween 256 t_arcBetween, aI E a_t_open 16 t_open, aI E a_t_sooner 256 t_sooner, aI E a_t_wanted 16 (va_up t_wanted (x_7 : Int32).toNatClampNeg y_10), oC a_g 2 [.int g_nodes, .int g_made, .int g_living, .int g_age, .ref a_g_oneEnd, .ref a_g_otherEnd, .ref a_g_weights, .ref a_g_alive, .ref a_g_joined]]) S hN hw 4 hi_10 dX9_settle_74 rfl rfl (fun H locs hw => ?_)
        generalize va_up t_wanted (x_7 : Int32).toNatClampNeg y_10 = t_wanted_11 at hf hw
        refine lv_aload_n S.1 S.2.1 dX9_settle_75 rfl (lv_at hl 2 rfl) ?_
        refine lv_iload S.1 S.2.1 dX9_settle_76 (lv_at hl 0 rfl) ?_
        refine lv_iload_n S.1 S.2.1 dX9_settle_78 rfl (lv_at hl 3 rfl) ?_
        obtain ⟨r_12, hc_12, hf⟩ := bd_s hf
        refine g_calli (r := r_12) (wc := [oC a_t 9 [.ref a_g, .ref a_k, .ref a_t_arcBetween, .ref a_t_open, .ref a_t_sooner, .ref a_t_wanted, .int t_total, .long t_first, .int t_graphAge, .int t_ranksAge], oC a_g 2 [.int g_nodes, .int g_made, .int g_living, .int g_age, .ref a_g_oneEnd, .ref a_g_otherEnd, .ref a_g_weights, .ref a_g_alive, .ref a_g_joined], aI E a_t_wanted 16 t_wanted_11]) (wr := [aJ E a_t_arcBetween 256 t_arcBetween, aI E a_t_open 16 t_open, aI E a_t_sooner 256 t_sooner]) (w1 := [oC a_t 9 [.ref a_g, .ref a_k, .ref a_t_arcBetween, .ref a_t_open, .ref a_t_sooner, .ref a_t_wanted, .int t_total, .long t_first, .int t_graphAge, .int t_ranksAge], oC a_g 2 [.int g_nodes, .int g_made, .int g_living, .int g_age, .ref a_g_oneEnd, .ref a_g_otherEnd, .ref a_g_weights, .ref a_g_alive, .ref a_g_joined], aI E a_t_wanted 16 t_wanted_11]) (va_runV (As := [.int x_7, .int p1]) (rest := []) S (c_X9_isTempted l E F g_nodes g_made g_living g_age a_g_oneEnd a_g_otherEnd a_g_weights a_g_alive a_g_joined a_g a_k a_t_arcBetween a_t_open a_t_sooner t_wanted_11 a_t_wanted t_total t_first t_graphAge t_ranksAge a_t x_7 p1 r_12 hc_12 _) (cwV 2 S.2.2.2.2 gX9_settle_X9_isTempted rfl rfl rfl (by decide +kernel) (rm_le (by omega) (by decide))) (preV (q := (RX9, TX9, 10)) hN hw [0, 5, 4] rfl rfl rfl rfl) rfl rfl hl.1 rfl (lv_room (Nat.le_of_ble_eq_true rfl)) dX9_settle_79 ⟨Nat.le_refl _, Nat.le_refl _⟩) hw hA [0, 5, 4] [1, 2, 3] rfl rfl rfl (by decide) (fun H locs hw => ?_)
        have hw : Wo E A s [aJ E a_t_arcBetween 256 t_arcBetween, aI E a_t_open 16 t_open, aI E a_t_sooner 256 t_sooner, oC a_t 9 [.ref a_g, .ref a_k, .ref a_t_arcBetween, .ref a_t_open, .ref a_t_sooner, .ref a_t_wanted, .int t_total, .long t_first, .int t_graphAge, .int t_ranksAge], oC a_g 2 [.int g_nodes, .int g_made, .int g_living, .int g_age, .ref a_g_oneEnd, .ref a_g_otherEnd, .ref a_g_weights, .ref a_g_alive, .ref a_g_joined], aI E a_t_wanted 16 t_wanted_11] H _ := hw
        obtain ⟨jj_100_16, ejj_100_16, hf⟩ := jn_s hf
        have hJ_jj_100_16 : ∀ (t_total_14 : Int32) (t_first_15 : Int64) (t_wanted_16 : Nat → Int32) (H : Heap) (locs : List Loc) (ls : Array Slot), Wo E A s [aJ E a_t_arcBetween 256 t_arcBetween, aI E a_t_open 16 t_open, aI E a_t_sooner 256 t_sooner, oC a_t 9 [.ref a_g, .ref a_k, .ref a_t_arcBetween, .ref a_t_open, .ref a_t_sooner, .ref a_t_wanted, .int t_total_14, .long t_first_15, .int t_graphAge, .int t_ranksAge], oC a_g 2 [.int g_nodes, .int g_made, .int g_living, .int g_age, .ref a_g_oneEnd, .ref a_g_otherEnd, .ref a_g_weights, .ref a_g_alive, .ref a_g_joined], aI E a_t_wanted 16 t_wanted_16] H locs → lv_has ls 10 [(0, .ref a_t), (1, .int p1), (2, .long p2), (4, .int p3), (5, .int ((f_X2_allNodes g_nodes) &&& (p1 ^^^ (-1)))), (6, .int x_7)] → jj_100_16 t_total_14 t_first_15 t_wanted_16 = some (u_t_total, u_t_first, u_t_wanted) → W p l e (Rm (3 + (d + 1))) s m (([.ref a_t, .int p1, .long p2, .int p3] : List Value).toArray) below meth c H locs 0 0 Q (F0 m 100 ls []) := by
          intro t_total_14 t_first_15 t_wanted_16 H locs ls hw hl hf
          rw [ejj_100_16] at hf
          refine lv_aload_n S.1 S.2.1 dX9_settle_100 rfl (lv_at hl 0 rfl) ?_
          refine g_get S hN hw (C := RX9) (T := TX9) (N := 10) (ci := 9) (v := .ref a_t_open) 3 3 iX9 k15 dX9_settle_101 rfl rfl (by decide) rfl ?_
          refine lv_iload S.1 S.2.1 dX9_settle_104 (lv_at hl 5 rfl) ?_
          obtain ⟨hi_17, hf⟩ := rd_s hf
          refine g_iald (n := 16) (f := t_open) S hN hw 1 hi_17 dX9_settle_106 rfl ?_
          generalize t_open (x_7 : Int32).toNatClampNeg = y_18 at hf ⊢
          refine lv_iload S.1 S.2.1 dX9_settle_107 (lv_at hl 4 rfl) ?_
          refine lv_iand S.1 S.2.1 dX9_settle_109 ?_
          refine lv_istore (lv' := [(7, .int (y_18 &&& ((f_X2_allNodes g_nodes) &&& (p1 ^^^ (-1))))), (0, .ref a_t), (1, .int p1), (2, .long p2), (4, .int p3), (5, .int ((f_X2_allNodes g_nodes) &&& (p1 ^^^ (-1)))), (6, .int x_7)]) S.1 S.2.1 dX9_settle_110 hl (by decide) rfl (fun ls hl => ?_)
          refine lv_iload S.1 S.2.1 dX9_settle_112 (lv_at hl 6 rfl) ?_
          refine lv_iconst (v := 1) S.1 S.2.1 dX9_settle_114 (by decide) ?_
          refine lv_iadd S.1 S.2.1 dX9_settle_115 ?_
          refine lv_istore (lv' := [(8, .int (x_7 + 1)), (7, .int (y_18 &&& ((f_X2_allNodes g_nodes) &&& (p1 ^^^ (-1))))), (0, .ref a_t), (1, .int p1), (2, .long p2), (4, .int p3), (5, .int ((f_X2_allNodes g_nodes) &&& (p1 ^^^ (-1)))), (6, .int x_7)]) S.1 S.2.1 dX9_settle_116 hl (by decide) rfl (fun ls hl => ?_)
          obtain ⟨kk_195_21, ekk_195_21, hf⟩ := jn_s hf
          have hJ_kk_195_21 : ∀ (t_total_19 : Int32) (t_first_20 : Int64) (t_wanted_21 : Nat → Int32) (H : Heap) (locs : List Loc) (ls : Array Slot), Wo E A s [aJ E a_t_arcBetween 256 t_arcBetween, aI E a_t_open 16 t_open, aI E a_t_sooner 256 t_sooner, oC a_t 9 [.ref a_g, .ref a_k, .ref a_t_arcBetween, .ref a_t_open, .ref a_t_sooner, .ref a_t_wanted, .int t_total_19, .long t_first_20, .int t_graphAge, .int t_ranksAge], oC a_g 2 [.int g_nodes, .int g_made, .int g_living, .int g_age, .ref a_g_oneEnd, .ref a_g_otherEnd, .ref a_g_weights, .ref a_g_alive, .ref a_g_joined], aI E a_t_wanted 16 t_wanted_21] H locs → lv_has ls 10 [] → kk_195_21 t_total_19 t_first_20 t_wanted_21 = some (u_t_total, u_t_first, u_t_wanted) → W p l e (Rm (3 + (d + 1))) s m (([.ref a_t, .int p1, .long p2, .int p3] : List Value).toArray) below meth c H locs 0 0 Q (F0 m 195 ls []) := by
            intro t_total_19 t_first_20 t_wanted_21 H locs ls hw hl hf
            rw [ekk_195_21] at hf
            cases hf
            exact hE _ _ _ _ (hw.sub [3, 4, 0, 1, 2, 5] rfl rfl) dX9_settle_195
          have hL_118_42 : ∀ (n : Nat) (v8_23 : Int32) (t_wanted_24 : Nat → Int32) (t_total_25 : Int32) (t_first_26 : Int64) (H : Heap) (locs : List Loc) (ls : Array Slot), Wo E A s [aJ E a_t_arcBetween 256 t_arcBetween, aI E a_t_open 16 t_open, aI E a_t_sooner 256 t_sooner, oC a_t 9 [.ref a_g, .ref a_k, .ref a_t_arcBetween, .ref a_t_open, .ref a_t_sooner, .ref a_t_wanted, .int t_total_25, .long t_first_26, .int t_graphAge, .int t_ranksAge], oC a_g 2 [.int g_nodes, .int g_made, .int g_living, .int g_age, .ref a_g_oneEnd, .ref a_g_otherEnd, .ref a_g_weights, .ref a_g_alive, .ref a_g_joined], aI E a_t_wanted 16 t_wanted_24] H locs → lv_has ls 10 [(0, .ref a_t), (1, .int p1), (2, .long p2), (4, .int p3), (6, .int x_7), (7, .int (y_18 &&& ((f_X2_allNodes g_nodes) &&& (p1 ^^^ (-1))))), (8, .int v8_23)] → f_X9_settle_L118 F g_nodes t_arcBetween t_sooner p1 p2 p3 (f_X9_settle F g_nodes t_arcBetween t_open t_sooner d) x_7 y_18 kk_195_21 n v8_23 t_wanted_24 t_total_25 t_first_26 = some (u_t_total, u_t_first, u_t_wanted) → W p l e (Rm (3 + (d + 1))) s m (([.ref a_t, .int p1, .long p2, .int p3] : List Value).toArray) below meth c H locs 0 0 Q (F0 m 118 ls []) := by
            intro n
            induction n with
            | zero => intro v8_23 t_wanted_24 t_total_25 t_first_26 H locs ls hw hl hf; unfold f_X9_settle_L118 at hf; cases hf
            | succ n ih =>
              intro v8_23 t_wanted_24 t_total_25 t_first_26 H locs ls hw hl hf
              unfold f_X9_settle_L118 at hf
              refine lv_iload S.1 S.2.1 dX9_settle_118 (lv_at hl 6 rfl) ?_
              refine lv_aload_n S.1 S.2.1 dX9_settle_120 rfl (lv_at hl 0 rfl) ?_
              refine g_get S hN hw (C := RX9) (T := TX9) (N := 10) (ci := 9) (v := .ref a_g) 3 0 iX9 k32 dX9_settle_121 rfl rfl (by decide) rfl ?_
              refine g_getN S hN hw (C := RX2) (T := TX2) (N := 9) (ci := 2) (v := .int g_nodes) 4 0 iX2 w51 dX9_settle_124 rfl rfl (by decide) rfl ?_
              refine lv_icmp_ge (tgt := 195) S.1 S.2.1 dX9_settle_127 (by decide) (fun h_27 => ?_) (fun h_27 => ?_)
              · replace hf := if_t h_27 hf
                exact hJ_kk_195_21 t_total_25 t_first_26 t_wanted_24 _ _ _ hw (lv_sub hl [] rfl) hf
              · replace hf := if_f h_27 hf
                refine lv_iload S.1 S.2.1 dX9_settle_130 (lv_at hl 5 rfl) ?_
                refine lv_iload S.1 S.2.1 dX9_settle_132 (lv_at hl 6 rfl) ?_
                refine g_calli (r := (f_X11_has (y_18 &&& ((f_X2_allNodes g_nodes) &&& (p1 ^^^ (-1)))) v8_23)) (wc := []) (wr := [aJ E a_t_arcBetween 256 t_arcBetween, aI E a_t_open 16 t_open, aI E a_t_sooner 256 t_sooner, oC a_t 9 [.ref a_g, .ref a_k, .ref a_t_arcBetween, .ref a_t_open, .ref a_t_sooner, .ref a_t_wanted, .int t_total_25, .long t_first_26, .int t_graphAge, .int t_ranksAge], oC a_g 2 [.int g_nodes, .int g_made, .int g_living, .int g_age, .ref a_g_oneEnd, .ref a_g_otherEnd, .ref a_g_weights, .ref a_g_alive, .ref a_g_joined], aI E a_t_wanted 16 t_wanted_24]) (w1 := []) (va_runSN (As := [.int (y_18 &&& ((f_X2_allNodes g_nodes) &&& (p1 ^^^ (-1)))), .int v8_23]) (rest := []) S (c_X11_has l E (y_18 &&& ((f_X2_allNodes g_nodes) &&& (p1 ^^^ (-1)))) v8_23 (f_X11_has (y_18 &&& ((f_X2_allNodes g_nodes) &&& (p1 ^^^ (-1)))) v8_23) rfl _) ⟨(va_cnB 2 S.2.2.2.2 gX9_settle_X11_has_n112 rfl rfl rfl (hN.2 _ w112) kIX11 (by decide +kernel) (rm_le (by omega) (by decide))), kSX11_has, trivial⟩ (preS hN hw [] rfl rfl) rfl rfl hl.1 rfl (lv_room (Nat.le_of_ble_eq_true rfl)) dX9_settle_134 ⟨Nat.le_refl _, Nat.le_refl _⟩) hw hA [] [0, 1, 2, 3, 4, 5] rfl rfl rfl (by decide) (fun H locs hw => ?_)
                have hw : Wo E A s [aJ E a_t_arcBetween 256 t_arcBetween, aI E a_t_open 16 t_open, aI E a_t_sooner 256 t_sooner, oC a_t 9 [.ref a_g, .ref a_k, .ref a_t_arcBetween, .ref a_t_open, .ref a_t_sooner, .ref a_t_wanted, .int t_total_25, .long t_first_26, .int t_graphAge, .int t_ranksAge], oC a_g 2 [.int g_nodes, .int g_made, .int g_living, .int g_age, .ref a_g_oneEnd, .ref a_g_otherEnd, .ref a_g_weights, .ref a_g_alive, .ref a_g_joined], aI E a_t_wanted 16 t_wanted_24] H _ := hw
                refine lv_if_eq (tgt := 189) S.1 S.2.1 dX9_settle_137 (by decide) (fun h_30 => ?_) (fun h_30 => ?_)
                · replace hf := if_t h_30 hf
                  refine lv_iinc (v := (v8_23 + 1)) (lv' := [(8, .int (v8_23 + 1)), (0, .ref a_t), (1, .int p1), (2, .long p2), (4, .int p3), (6, .int x_7), (7, .int (y_18 &&& ((f_X2_allNodes g_nodes) &&& (p1 ^^^ (-1)))))]) S.1 S.2.1 dX9_settle_189 hl (k := 6) rfl rfl (by decide) rfl (fun ls hl => ?_)
                  refine lv_goto (tgt := 118) S.1 S.2.1 dX9_settle_192 (by decide) ?_
                  exact ih (v8_23 + 1) t_wanted_24 t_total_25 t_first_26 _ _ _ hw (lv_sub hl [1, 2, 3, 4, 5, 6, 0] rfl) hf
                · replace hf := if_f h_30 hf
                  refine lv_aload_n S.1 S.2.1 dX9_settle_140 rfl (lv_at hl 0 rfl) ?_
                  refine lv_iload S.1 S.2.1 dX9_settle_141 (lv_at hl 4 rfl) ?_
                  refine lv_iload S.1 S.2.1 dX9_settle_143 (lv_at hl 6 rfl) ?_
                  refine lv_iload_n S.1 S.2.1 dX9_settle_145 rfl (lv_at hl 1 rfl) ?_
                  obtain ⟨r_31, t_wanted_32, hc_32, hf⟩ := bd2_s hf
                  refine g_calli (r := r_31) (wc := [oC a_t 9 [.ref a_g, .ref a_k, .ref a_t_arcBetween, .ref a_t_open, .ref a_t_sooner, .ref a_t_wanted, .int t_total_25, .long t_first_26, .int t_graphAge, .int t_ranksAge], oC a_g 2 [.int g_nodes, .int g_made, .int g_living, .int g_age, .ref a_g_oneEnd, .ref a_g_otherEnd, .ref a_g_weights, .ref a_g_alive, .ref a_g_joined], aI E a_t_sooner 256 t_sooner, aI E a_t_wanted 16 t_wanted_24]) (wr := [aJ E a_t_arcBetween 256 t_arcBetween, aI E a_t_open 16 t_open]) (w1 := [oC a_t 9 [.ref a_g, .ref a_k, .ref a_t_arcBetween, .ref a_t_open, .ref a_t_sooner, .ref a_t_wanted, .int t_total_25, .long t_first_26, .int t_graphAge, .int t_ranksAge], oC a_g 2 [.int g_nodes, .int g_made, .int g_living, .int g_age, .ref a_g_oneEnd, .ref a_g_otherEnd, .ref a_g_weights, .ref a_g_alive, .ref a_g_joined], aI E a_t_sooner 256 t_sooner, aI E a_t_wanted 16 t_wanted_32]) (va_runV (As := [.int x_7, .int v8_23, .int p1]) (rest := []) S (c_X9_canPair l E F g_nodes g_made g_living g_age a_g_oneEnd a_g_otherEnd a_g_weights a_g_alive a_g_joined a_g a_k a_t_arcBetween a_t_open t_sooner a_t_sooner t_wanted_24 a_t_wanted t_total_25 t_first_26 t_graphAge t_ranksAge a_t x_7 v8_23 p1 r_31 t_wanted_32 hc_32 _) (cwV 3 S.2.2.2.2 gX9_settle_X9_canPair rfl rfl rfl (by decide +kernel) (rm_le (by omega) (by decide))) (preV (q := (RX9, TX9, 10)) hN hw [3, 4, 2, 5] rfl rfl rfl rfl) rfl rfl hl.1 rfl (lv_room (Nat.le_of_ble_eq_true rfl)) dX9_settle_146 ⟨Nat.le_refl _, Nat.le_refl _⟩) hw hA [3, 4, 2, 5] [0, 1] rfl rfl rfl (by decide) (fun H locs hw => ?_)
                  have hw : Wo E A s [aJ E a_t_arcBetween 256 t_arcBetween, aI E a_t_open 16 t_open, oC a_t 9 [.ref a_g, .ref a_k, .ref a_t_arcBetween, .ref a_t_open, .ref a_t_sooner, .ref a_t_wanted, .int t_total_25, .long t_first_26, .int t_graphAge, .int t_ranksAge], oC a_g 2 [.int g_nodes, .int g_made, .int g_living, .int g_age, .ref a_g_oneEnd, .ref a_g_otherEnd, .ref a_g_weights, .ref a_g_alive, .ref a_g_joined], aI E a_t_sooner 256 t_sooner, aI E a_t_wanted 16 t_wanted_32] H _ := hw
                  refine lv_if_eq (tgt := 189) S.1 S.2.1 dX9_settle_149 (by decide) (fun h_34 => ?_) (fun h_34 => ?_)
                  · replace hf := if_t h_34 hf
                    refine lv_iinc (v := (v8_23 + 1)) (lv' := [(8, .int (v8_23 + 1)), (0, .ref a_t), (1, .int p1), (2, .long p2), (4, .int p3), (6, .int x_7), (7, .int (y_18 &&& ((f_X2_allNodes g_nodes) &&& (p1 ^^^ (-1)))))]) S.1 S.2.1 dX9_settle_189 hl (k := 6) rfl rfl (by decide) rfl (fun ls hl => ?_)
                    refine lv_goto (tgt := 118) S.1 S.2.1 dX9_settle_192 (by decide) ?_
                    exact ih (v8_23 + 1) t_wanted_32 t_total_25 t_first_26 _ _ _ (hw.sub [0, 1, 4, 2, 3, 5] rfl rfl) (lv_sub hl [1, 2, 3, 4, 5, 6, 0] rfl) hf
                  · replace hf := if_f h_34 hf
                    refine lv_iconst (v := 1) S.1 S.2.1 dX9_settle_152 (by decide) ?_
                    refine lv_iload S.1 S.2.1 dX9_settle_153 (lv_at hl 4 rfl) ?_
                    refine lv_ishl S.1 S.2.1 dX9_settle_155 ?_
                    refine lv_iconst (v := 1) S.1 S.2.1 dX9_settle_156 (by decide) ?_
                    refine lv_iload S.1 S.2.1 dX9_settle_157 (lv_at hl 6 rfl) ?_
                    refine lv_ishl S.1 S.2.1 dX9_settle_159 ?_
                    refine lv_ior S.1 S.2.1 dX9_settle_160 ?_
                    obtain ⟨x_35, he_35, hf⟩ := ltt_s hf
                    rw [← he_35]
                    refine lv_istore (lv' := [(9, .int x_35), (0, .ref a_t), (1, .int p1), (2, .long p2), (4, .int p3), (6, .int x_7), (7, .int (y_18 &&& ((f_X2_allNodes g_nodes) &&& (p1 ^^^ (-1))))), (8, .int v8_23)]) S.1 S.2.1 dX9_settle_161 hl (by decide) rfl (fun ls hl => ?_)
                    refine lv_aload_n S.1 S.2.1 dX9_settle_163 rfl (lv_at hl 1 rfl) ?_
                    refine lv_iload_n S.1 S.2.1 dX9_settle_164 rfl (lv_at hl 2 rfl) ?_
                    refine lv_iload S.1 S.2.1 dX9_settle_165 (lv_at hl 0 rfl) ?_
                    refine lv_ior S.1 S.2.1 dX9_settle_167 ?_
                    refine lv_lload_n S.1 S.2.1 dX9_settle_168 rfl (lv_at hl 3 rfl) ?_
                    refine lv_aload_n S.1 S.2.1 dX9_settle_169 rfl (lv_at hl 1 rfl) ?_
                    refine g_get S hN hw (C := RX9) (T := TX9) (N := 10) (ci := 9) (v := .ref a_t_arcBetween) 2 2 iX9 k9 dX9_settle_170 rfl rfl (by decide) rfl ?_
                    refine lv_iload S.1 S.2.1 dX9_settle_173 (lv_at hl 5 rfl) ?_
                    refine lv_iload S.1 S.2.1 dX9_settle_175 (lv_at hl 7 rfl) ?_
                    refine g_calli (r := (f_X11_cell x_7 v8_23)) (wc := []) (wr := [aJ E a_t_arcBetween 256 t_arcBetween, aI E a_t_open 16 t_open, oC a_t 9 [.ref a_g, .ref a_k, .ref a_t_arcBetween, .ref a_t_open, .ref a_t_sooner, .ref a_t_wanted, .int t_total_25, .long t_first_26, .int t_graphAge, .int t_ranksAge], oC a_g 2 [.int g_nodes, .int g_made, .int g_living, .int g_age, .ref a_g_oneEnd, .ref a_g_otherEnd, .ref a_g_weights, .ref a_g_alive, .ref a_g_joined], aI E a_t_sooner 256 t_sooner, aI E a_t_wanted 16 t_wanted_32]) (w1 := []) (va_runSN (As := [.int x_7, .int v8_23]) (rest := [.ref a_t_arcBetween, .long p2, .int (p1 ||| x_35), .ref a_t]) S (c_X11_cell l E x_7 v8_23 (f_X11_cell x_7 v8_23) rfl _) ⟨(va_cnB 2 S.2.2.2.2 gX9_settle_X11_cell_n92 rfl rfl rfl (hN.2 _ w92) kIX11 (by decide +kernel) (rm_le (by omega) (by decide))), kSX11_cell, trivial⟩ (preS hN hw [] rfl rfl) rfl rfl hl.1 rfl (lv_room (Nat.le_of_ble_eq_true rfl)) dX9_settle_177 ⟨Nat.le_refl _, Nat.le_refl _⟩) hw hA [] [0, 1, 2, 3, 4, 5] rfl rfl rfl (by decide) (fun H locs hw => ?_)
                    have hw : Wo E A s [aJ E a_t_arcBetween 256 t_arcBetween, aI E a_t_open 16 t_open, oC a_t 9 [.ref a_g, .ref a_k, .ref a_t_arcBetween, .ref a_t_open, .ref a_t_sooner, .ref a_t_wanted, .int t_total_25, .long t_first_26, .int t_graphAge, .int t_ranksAge], oC a_g 2 [.int g_nodes, .int g_made, .int g_living, .int g_age, .ref a_g_oneEnd, .ref a_g_otherEnd, .ref a_g_weights, .ref a_g_alive, .ref a_g_joined], aI E a_t_sooner 256 t_sooner, aI E a_t_wanted 16 t_wanted_32] H _ := hw
                    obtain ⟨hi_37, hf⟩ := rd_s hf
                    refine g_lald (n := 256) (f := t_arcBetween) S hN hw 0 hi_37 dX9_settle_180 rfl ?_
                    generalize t_arcBetween ((f_X11_cell x_7 v8_23) : Int32).toNatClampNeg = y_38 at hf ⊢
                    refine lv_lor S.1 S.2.1 dX9_settle_181 ?_
                    refine lv_iload S.1 S.2.1 dX9_settle_182 (lv_at hl 4 rfl) ?_
                    refine lv_iconst (v := 1) S.1 S.2.1 dX9_settle_184 (by decide) ?_
                    refine lv_iadd S.1 S.2.1 dX9_settle_185 ?_
                    obtain ⟨t_total_39, t_first_40, t_wanted_41, hc_41, hf⟩ := bd3_s hf
                    refine g_callv (wc := [oC a_t 9 [.ref a_g, .ref a_k, .ref a_t_arcBetween, .ref a_t_open, .ref a_t_sooner, .ref a_t_wanted, .int t_total_25, .long t_first_26, .int t_graphAge, .int t_ranksAge], oC a_g 2 [.int g_nodes, .int g_made, .int g_living, .int g_age, .ref a_g_oneEnd, .ref a_g_otherEnd, .ref a_g_weights, .ref a_g_alive, .ref a_g_joined], aJ E a_t_arcBetween 256 t_arcBetween, aI E a_t_open 16 t_open, aI E a_t_sooner 256 t_sooner, aI E a_t_wanted 16 t_wanted_32]) (wr := []) (w1 := [oC a_t 9 [.ref a_g, .ref a_k, .ref a_t_arcBetween, .ref a_t_open, .ref a_t_sooner, .ref a_t_wanted, .int t_total_39, .long t_first_40, .int t_graphAge, .int t_ranksAge], oC a_g 2 [.int g_nodes, .int g_made, .int g_living, .int g_age, .ref a_g_oneEnd, .ref a_g_otherEnd, .ref a_g_weights, .ref a_g_alive, .ref a_g_joined], aJ E a_t_arcBetween 256 t_arcBetween, aI E a_t_open 16 t_open, aI E a_t_sooner 256 t_sooner, aI E a_t_wanted 16 t_wanted_41]) (va_runV (As := [.int (p1 ||| x_35), .long (p2 ||| y_38), .int (p3 + 1)]) (rest := []) S (ihd (p1 ||| x_35) (p2 ||| y_38) (p3 + 1) t_total_25 t_first_26 t_wanted_32 t_total_39 t_first_40 t_wanted_41 hc_41 _) (cwV 3 S.2.2.2.2 gX9_settle_X9_settle rfl rfl rfl (by decide +kernel) (rm_le (by omega) (by decide))) (preV (q := (RX9, TX9, 10)) hN hw [2, 3, 0, 1, 4, 5] rfl rfl rfl rfl) rfl rfl hl.1 rfl (lv_room (Nat.le_of_ble_eq_true rfl)) dX9_settle_186 ⟨Nat.le_refl _, Nat.le_refl _⟩) hw hA [2, 3, 0, 1, 4, 5] [] rfl rfl rfl (by decide) (fun H locs hw => ?_)
                    have hw : Wo E A s [oC a_t 9 [.ref a_g, .ref a_k, .ref a_t_arcBetween, .ref a_t_open, .ref a_t_sooner, .ref a_t_wanted, .int t_total_39, .long t_first_40, .int t_graphAge, .int t_ranksAge], oC a_g 2 [.int g_nodes, .int g_made, .int g_living, .int g_age, .ref a_g_oneEnd, .ref a_g_otherEnd, .ref a_g_weights, .ref a_g_alive, .ref a_g_joined], aJ E a_t_arcBetween 256 t_arcBetween, aI E a_t_open 16 t_open, aI E a_t_sooner 256 t_sooner, aI E a_t_wanted 16 t_wanted_41] H _ := hw
                    refine lv_iinc (v := (v8_23 + 1)) (lv' := [(8, .int (v8_23 + 1)), (9, .int x_35), (0, .ref a_t), (1, .int p1), (2, .long p2), (4, .int p3), (6, .int x_7), (7, .int (y_18 &&& ((f_X2_allNodes g_nodes) &&& (p1 ^^^ (-1)))))]) S.1 S.2.1 dX9_settle_189 hl (k := 7) rfl rfl (by decide) rfl (fun ls hl => ?_)
                    refine lv_goto (tgt := 118) S.1 S.2.1 dX9_settle_192 (by decide) ?_
                    exact ih (v8_23 + 1) t_wanted_41 t_total_39 t_first_40 _ _ _ (hw.sub [2, 3, 4, 0, 1, 5] rfl rfl) (lv_sub hl [2, 3, 4, 5, 6, 7, 0] rfl) hf
          exact hL_118_42 F (x_7 + 1) t_wanted_16 t_total_14 t_first_15 _ _ _ hw (lv_sub hl [2, 3, 4, 5, 7, 1, 0] rfl) hf
        refine lv_if_ne (tgt := 100) S.1 S.2.1 dX9_settle_82 (by decide) (fun h_44 => ?_) (fun h_44 => ?_)
        · replace hf := if_f h_44 hf
          exact hJ_jj_100_16 t_total t_first t_wanted_11 _ _ _ hw (lv_sub hl [2, 3, 4, 5, 1, 0] rfl) hf
        · replace hf := if_t h_44 hf
          refine lv_aload_n S.1 S.2.1 dX9_settle_85 rfl (lv_at hl 2 rfl) ?_
          refine lv_iload_n S.1 S.2.1 dX9_settle_86 rfl (lv_at hl 3 rfl) ?_
          refine lv_iconst (v := 1) S.1 S.2.1 dX9_settle_87 (by decide) ?_
          refine lv_iload S.1 S.2.1 dX9_settle_88 (lv_at hl 0 rfl) ?_
          refine lv_ishl S.1 S.2.1 dX9_settle_90 ?_
          refine lv_ior S.1 S.2.1 dX9_settle_91 ?_
          refine lv_lload_n S.1 S.2.1 dX9_settle_92 rfl (lv_at hl 4 rfl) ?_
          refine lv_iload S.1 S.2.1 dX9_settle_93 (lv_at hl 5 rfl) ?_
          refine lv_iconst (v := 1) S.1 S.2.1 dX9_settle_95 (by decide) ?_
          refine lv_iadd S.1 S.2.1 dX9_settle_96 ?_
          obtain ⟨t_total_45, t_first_46, t_wanted_47, hc_47, hf⟩ := bd3_s hf
          refine g_callv (wc := [oC a_t 9 [.ref a_g, .ref a_k, .ref a_t_arcBetween, .ref a_t_open, .ref a_t_sooner, .ref a_t_wanted, .int t_total, .long t_first, .int t_graphAge, .int t_ranksAge], oC a_g 2 [.int g_nodes, .int g_made, .int g_living, .int g_age, .ref a_g_oneEnd, .ref a_g_otherEnd, .ref a_g_weights, .ref a_g_alive, .ref a_g_joined], aJ E a_t_arcBetween 256 t_arcBetween, aI E a_t_open 16 t_open, aI E a_t_sooner 256 t_sooner, aI E a_t_wanted 16 t_wanted_11]) (wr := []) (w1 := [oC a_t 9 [.ref a_g, .ref a_k, .ref a_t_arcBetween, .ref a_t_open, .ref a_t_sooner, .ref a_t_wanted, .int t_total_45, .long t_first_46, .int t_graphAge, .int t_ranksAge], oC a_g 2 [.int g_nodes, .int g_made, .int g_living, .int g_age, .ref a_g_oneEnd, .ref a_g_otherEnd, .ref a_g_weights, .ref a_g_alive, .ref a_g_joined], aJ E a_t_arcBetween 256 t_arcBetween, aI E a_t_open 16 t_open, aI E a_t_sooner 256 t_sooner, aI E a_t_wanted 16 t_wanted_47]) (va_runV (As := [.int (p1 ||| ((1 : Int32) <<< (x_7 &&& 31))), .long p2, .int (p3 + 1)]) (rest := []) S (ihd (p1 ||| ((1 : Int32) <<< (x_7 &&& 31))) p2 (p3 + 1) t_total t_first t_wanted_11 t_total_45 t_first_46 t_wanted_47 hc_47 _) (cwV 3 S.2.2.2.2 gX9_settle_X9_settle rfl rfl rfl (by decide +kernel) (rm_le (by omega) (by decide))) (preV (q := (RX9, TX9, 10)) hN hw [3, 4, 0, 1, 2, 5] rfl rfl rfl rfl) rfl rfl hl.1 rfl (lv_room (Nat.le_of_ble_eq_true rfl)) dX9_settle_97 ⟨Nat.le_refl _, Nat.le_refl _⟩) hw hA [3, 4, 0, 1, 2, 5] [] rfl rfl rfl (by decide) (fun H locs hw => ?_)
          have hw : Wo E A s [oC a_t 9 [.ref a_g, .ref a_k, .ref a_t_arcBetween, .ref a_t_open, .ref a_t_sooner, .ref a_t_wanted, .int t_total_45, .long t_first_46, .int t_graphAge, .int t_ranksAge], oC a_g 2 [.int g_nodes, .int g_made, .int g_living, .int g_age, .ref a_g_oneEnd, .ref a_g_otherEnd, .ref a_g_weights, .ref a_g_alive, .ref a_g_joined], aJ E a_t_arcBetween 256 t_arcBetween, aI E a_t_open 16 t_open, aI E a_t_sooner 256 t_sooner, aI E a_t_wanted 16 t_wanted_47] H _ := hw
          exact hJ_jj_100_16 t_total_45 t_first_46 t_wanted_47 _ _ _ (hw.sub [2, 3, 4, 0, 1, 5] rfl rfl) (lv_sub hl [2, 3, 4, 5, 1, 0] rfl) hf
      · replace hf := if_t h_4 hf
        refine lv_aload_n S.1 S.2.1 dX9_settle_26 rfl (lv_at hl 1 rfl) ?_
        refine lv_dup S.1 S.2.1 dX9_settle_27 rfl ?_
        refine g_get S hN hw (C := RX9) (T := TX9) (N := 10) (ci := 9) (v := .int t_total) 0 6 iX9 k62 dX9_settle_28 rfl rfl (by decide) rfl ?_
        refine lv_iconst (v := 1) S.1 S.2.1 dX9_settle_31 (by decide) ?_
        refine lv_iadd S.1 S.2.1 dX9_settle_32 ?_
        refine g_put S hN hw (C := RX9) (T := TX9) (N := 10) (ci := 9) (ty := .int) (w1 := [oC a_t 9 [.ref a_g, .ref a_k, .ref a_t_arcBetween, .ref a_t_open, .ref a_t_sooner, .ref a_t_wanted, .int (t_total + 1), .long t_first, .int t_graphAge, .int t_ranksAge], aJ E a_t_arcBetween 256 t_arcBetween, aI E a_t_open 16 t_open, aI E a_t_sooner 256 t_sooner, aI E a_t_wanted 16 t_wanted, oC a_g 2 [.int g_nodes, .int g_made, .int g_living, .int g_age, .ref a_g_oneEnd, .ref a_g_otherEnd, .ref a_g_weights, .ref a_g_alive, .ref a_g_joined]]) 0 6 iX9 k62 tyX9 tyX9_ok nmX9 dX9_settle_33 rfl rfl (by decide) rfl (by decide +kernel) rfl rfl (Nat.le_of_ble_eq_true rfl) rfl (fun H locs hw => ?_)
        refine lv_aload_n S.1 S.2.1 dX9_settle_36 rfl (lv_at hl 1 rfl) ?_
        refine lv_aload_n S.1 S.2.1 dX9_settle_37 rfl (lv_at hl 1 rfl) ?_
        refine g_get S hN hw (C := RX9) (T := TX9) (N := 10) (ci := 9) (v := .long t_first) 0 7 iX9 k65 dX9_settle_38 rfl rfl (by decide) rfl ?_
        refine lv_lload_n S.1 S.2.1 dX9_settle_41 rfl (lv_at hl 3 rfl) ?_
        refine va_mmax_long S.1 S.2.1 (S.2.2.1.trans hl.1.symm) S.2.2.2.1 k100 kmx1 kmx2 kmx3 (rm_f (by omega)) (rm_l (Nat.le_trans (Nat.le_of_ble_eq_true rfl : _ ≤ 40) (by omega))) (Nat.le_refl _) (Nat.le_refl _) dX9_settle_42 ?_
        refine g_put S hN hw (C := RX9) (T := TX9) (N := 10) (ci := 9) (ty := .long) (w1 := [oC a_t 9 [.ref a_g, .ref a_k, .ref a_t_arcBetween, .ref a_t_open, .ref a_t_sooner, .ref a_t_wanted, .int (t_total + 1), .long (if p2 < t_first then t_first else p2), .int t_graphAge, .int t_ranksAge], aJ E a_t_arcBetween 256 t_arcBetween, aI E a_t_open 16 t_open, aI E a_t_sooner 256 t_sooner, aI E a_t_wanted 16 t_wanted, oC a_g 2 [.int g_nodes, .int g_made, .int g_living, .int g_age, .ref a_g_oneEnd, .ref a_g_otherEnd, .ref a_g_weights, .ref a_g_alive, .ref a_g_joined]]) 0 7 iX9 k65 tyX9 tyX9_ok nmX9 dX9_settle_45 rfl rfl (by decide) rfl (by decide +kernel) rfl rfl (Nat.le_of_ble_eq_true rfl) rfl (fun H locs hw => ?_)
        cases hf
        exact hE _ _ _ _ (hw.sub [0, 5, 1, 2, 3, 4] rfl rfl) dX9_settle_48
    · replace hf := if_f h_3 hf
      cases hf
      exact hE _ _ _ _ (hw.sub [0, 5, 1, 2, 3, 4] rfl rfl) dX9_settle_20
def f_X9_refresh_L86 (F : Nat) (g_nodes : Int32) (k_given : Nat → Int32) (t_open_4 : Nat → Int32) (kk_108_9 : (Nat → Int32) → Option (Int32 × Int64 × Int32 × Int32 × (Nat → Int64) × (Nat → Int32) × (Nat → Int32) × (Nat → Int32))) : Nat → Int32 → (Nat → Int32) → Option (Int32 × Int64 × Int32 × Int32 × (Nat → Int64) × (Nat → Int32) × (Nat → Int32) × (Nat → Int32))
  | 0, _, _ => none
  | n + 1, v1_11, t_sooner_12 => (if g_nodes ≤ v1_11 then (kk_108_9 t_sooner_12) else (f_X9_findSooner F v1_11 g_nodes k_given t_open_4 t_sooner_12).bind (fun t_sooner_14 => (f_X9_refresh_L86 F g_nodes k_given t_open_4 kk_108_9 n (v1_11 + 1) t_sooner_14)))
def f_X9_refresh_L56 (F : Nat) (g_nodes : Int32) (g_joined : Nat → Int32) (k_given : Nat → Int32) (kk_84_16 : (Nat → Int32) → Option (Int32 × Int64 × Int32 × Int32 × (Nat → Int64) × (Nat → Int32) × (Nat → Int32) × (Nat → Int32))) : Nat → Int32 → (Nat → Int32) → Option (Int32 × Int64 × Int32 × Int32 × (Nat → Int64) × (Nat → Int32) × (Nat → Int32) × (Nat → Int32))
  | 0, _, _ => none
  | n + 1, v1_18, t_open_19 => (if g_nodes ≤ v1_18 then (kk_84_16 t_open_19) else (f_X9_openTo F v1_18 g_nodes g_joined k_given).bind (fun r_21 => wr 16 t_open_19 v1_18 r_21 (fun t_open_23 => (f_X9_refresh_L56 F g_nodes g_joined k_given kk_84_16 n (v1_18 + 1) t_open_23))))
def f_X9_refresh (F : Nat) (g_nodes : Int32) (g_made : Int32) (g_age : Int32) (g_oneEnd : Nat → Int32) (g_otherEnd : Nat → Int32) (g_alive : Nat → Int32) (g_joined : Nat → Int32) (k_age : Int32) (k_given : Nat → Int32) (t_arcBetween : Nat → Int64) (t_open : Nat → Int32) (t_sooner : Nat → Int32) (t_wanted : Nat → Int32) (t_total : Int32) (t_first : Int64) (t_graphAge : Int32) (t_ranksAge : Int32) : Option (Int32 × Int64 × Int32 × Int32 × (Nat → Int64) × (Nat → Int32) × (Nat → Int32) × (Nat → Int32)) :=
  (jn ((f_X9_findArcs F g_made g_oneEnd g_otherEnd g_alive t_arcBetween).bind (fun t_arcBetween_2 => (jn (fun (t_open_4 : Nat → Int32) => (jn (fun (t_sooner_5 : Nat → Int32) => bd3 (f_X9_settle F g_nodes t_arcBetween_2 t_open_4 t_sooner_5 18 0 (0 : Int64) 0 0 (0 : Int64) t_wanted) (fun t_total_6 t_first_7 t_wanted_8 => some (t_total_6, t_first_7, g_age, k_age, t_arcBetween_2, t_open_4, t_sooner_5, t_wanted_8))) (fun kk_108_9 => (f_X9_refresh_L86 F g_nodes k_given t_open_4 kk_108_9 F 0 t_sooner)))) (fun kk_84_16 => (f_X9_refresh_L56 F g_nodes g_joined k_given kk_84_16 F 0 t_open))))) (fun jj_28_0 => (if t_graphAge = g_age then (if t_ranksAge = k_age then some (t_total, t_first, t_graphAge, t_ranksAge, t_arcBetween, t_open, t_sooner, t_wanted) else (jj_28_0)) else (jj_28_0))))
set_option maxHeartbeats 4000000 in
set_option maxRecDepth 100000 in
theorem c_X9_refresh (l : Launch) (E : Ev) (F : Nat) (g_nodes : Int32) (g_made : Int32) (g_living : Int32) (g_age : Int32) (g_oneEnd : Nat → Int32) (a_g_oneEnd : Nat) (g_otherEnd : Nat → Int32) (a_g_otherEnd : Nat) (a_g_weights : Nat) (g_alive : Nat → Int32) (a_g_alive : Nat) (g_joined : Nat → Int32) (a_g_joined : Nat) (a_g : Nat) (k_age : Int32) (k_given : Nat → Int32) (a_k_given : Nat) (a_k : Nat) (t_arcBetween : Nat → Int64) (a_t_arcBetween : Nat) (t_open : Nat → Int32) (a_t_open : Nat) (t_sooner : Nat → Int32) (a_t_sooner : Nat) (t_wanted : Nat → Int32) (a_t_wanted : Nat) (t_total : Int32) (t_first : Int64) (t_graphAge : Int32) (t_ranksAge : Int32) (a_t : Nat) (u_t_total : Int32) (u_t_first : Int64) (u_t_graphAge : Int32) (u_t_ranksAge : Int32) (u_t_arcBetween : Nat → Int64) (u_t_open : Nat → Int32) (u_t_sooner : Nat → Int32) (u_t_wanted : Nat → Int32) (hf : f_X9_refresh F g_nodes g_made g_age g_oneEnd g_otherEnd g_alive g_joined k_age k_given t_arcBetween t_open t_sooner t_wanted t_total t_first t_graphAge t_ranksAge = some (u_t_total, u_t_first, u_t_graphAge, u_t_ranksAge, u_t_arcBetween, u_t_open, u_t_sooner, u_t_wanted)) :
    CtV l yX9_refresh wsX9_refresh (Rm 22) E [.ref a_t] [oC a_t 9 [.ref a_g, .ref a_k, .ref a_t_arcBetween, .ref a_t_open, .ref a_t_sooner, .ref a_t_wanted, .int t_total, .long t_first, .int t_graphAge, .int t_ranksAge], oC a_g 2 [.int g_nodes, .int g_made, .int g_living, .int g_age, .ref a_g_oneEnd, .ref a_g_otherEnd, .ref a_g_weights, .ref a_g_alive, .ref a_g_joined], aI E a_g_oneEnd 60 g_oneEnd, aI E a_g_otherEnd 60 g_otherEnd, aZ E a_g_alive 60 g_alive, aI E a_g_joined 16 g_joined, oC a_k 6 [.int k_age, .ref a_k_given], aI E a_k_given 256 k_given, aJ E a_t_arcBetween 256 t_arcBetween, aI E a_t_open 16 t_open, aI E a_t_sooner 256 t_sooner, aI E a_t_wanted 16 t_wanted] [oC a_t 9 [.ref a_g, .ref a_k, .ref a_t_arcBetween, .ref a_t_open, .ref a_t_sooner, .ref a_t_wanted, .int u_t_total, .long u_t_first, .int u_t_graphAge, .int u_t_ranksAge], oC a_g 2 [.int g_nodes, .int g_made, .int g_living, .int g_age, .ref a_g_oneEnd, .ref a_g_otherEnd, .ref a_g_weights, .ref a_g_alive, .ref a_g_joined], aI E a_g_oneEnd 60 g_oneEnd, aI E a_g_otherEnd 60 g_otherEnd, aZ E a_g_alive 60 g_alive, aI E a_g_joined 16 g_joined, oC a_k 6 [.int k_age, .ref a_k_given], aI E a_k_given 256 k_given, aJ E a_t_arcBetween 256 u_t_arcBetween, aI E a_t_open 16 u_t_open, aI E a_t_sooner 256 u_t_sooner, aI E a_t_wanted 16 u_t_wanted] := by
  refine ofV (cc := cX9_refresh) (maxL := 2) (own := RX9) rfl rfl (by decide) rfl rfl ?_
  intro p e s m below meth c A ls Q S hnm hN hw hA hl0 hE
  have hl : lv_has ls 2 [(0, .ref a_t)] := hl0 _ (lv_entry [.ref a_t] (n := 2) (Nat.le_of_ble_eq_true rfl))
  have iX2 : ∀ w ∈ wsX20, w ∈ wsX9_refresh := by decide +kernel
  have iX6 : ∀ w ∈ wsX60, w ∈ wsX9_refresh := by decide +kernel
  have iX9 : ∀ w ∈ wsX90, w ∈ wsX9_refresh := by decide +kernel
  have k15 := S.2.2.2.2 (.fieldLink RX9 15 "PairMatching$Stables" "open" "[I") (by decide +kernel)
  have k25 := S.2.2.2.2 (.fieldLink RX9 25 "PairMatching$Stables" "graphAge" "I") (by decide +kernel)
  have k29 := S.2.2.2.2 (.fieldLink RX9 29 "PairMatching$Stables" "ranksAge" "I") (by decide +kernel)
  have k32 := S.2.2.2.2 (.fieldLink RX9 32 "PairMatching$Stables" "graph" "LPairMatching$Graph;") (by decide +kernel)
  have k36 := S.2.2.2.2 (.fieldLink RX9 36 "PairMatching$Stables" "ranks" "LPairMatching$Ranks;") (by decide +kernel)
  have k62 := S.2.2.2.2 (.fieldLink RX9 62 "PairMatching$Stables" "total" "I") (by decide +kernel)
  have k65 := S.2.2.2.2 (.fieldLink RX9 65 "PairMatching$Stables" "first" "J") (by decide +kernel)
  have w40 : Cond.fieldLinkNest RX9 40 "PairMatching$Graph" "age" "I" "PairMatching" ∈ nestW := List.mem_of_getElem? (i := 17) rfl
  have w45 : Cond.fieldLinkNest RX9 45 "PairMatching$Ranks" "age" "I" "PairMatching" ∈ nestW := List.mem_of_getElem? (i := 37) rfl
  have w51 : Cond.fieldLinkNest RX9 51 "PairMatching$Graph" "nodes" "I" "PairMatching" ∈ nestW := List.mem_of_getElem? (i := 2) rfl
  unfold f_X9_refresh at hf
  refine lv_aload_n S.1 S.2.1 dX9_refresh_0 rfl (lv_at hl 0 rfl) ?_
  refine g_get S hN hw (C := RX9) (T := TX9) (N := 10) (ci := 9) (v := .int t_graphAge) 0 8 iX9 k25 dX9_refresh_1 rfl rfl (by decide) rfl ?_
  refine lv_aload_n S.1 S.2.1 dX9_refresh_4 rfl (lv_at hl 0 rfl) ?_
  refine g_get S hN hw (C := RX9) (T := TX9) (N := 10) (ci := 9) (v := .ref a_g) 0 0 iX9 k32 dX9_refresh_5 rfl rfl (by decide) rfl ?_
  refine g_getN S hN hw (C := RX2) (T := TX2) (N := 9) (ci := 2) (v := .int g_age) 1 3 iX2 w40 dX9_refresh_8 rfl rfl (by decide) rfl ?_
  obtain ⟨jj_28_0, ejj_28_0, hf⟩ := jn_s hf
  have hJ_jj_28_0 : ∀  (H : Heap) (locs : List Loc) (ls : Array Slot), Wo E A s [oC a_t 9 [.ref a_g, .ref a_k, .ref a_t_arcBetween, .ref a_t_open, .ref a_t_sooner, .ref a_t_wanted, .int t_total, .long t_first, .int t_graphAge, .int t_ranksAge], oC a_g 2 [.int g_nodes, .int g_made, .int g_living, .int g_age, .ref a_g_oneEnd, .ref a_g_otherEnd, .ref a_g_weights, .ref a_g_alive, .ref a_g_joined], aI E a_g_oneEnd 60 g_oneEnd, aI E a_g_otherEnd 60 g_otherEnd, aZ E a_g_alive 60 g_alive, aI E a_g_joined 16 g_joined, oC a_k 6 [.int k_age, .ref a_k_given], aI E a_k_given 256 k_given, aJ E a_t_arcBetween 256 t_arcBetween, aI E a_t_open 16 t_open, aI E a_t_sooner 256 t_sooner, aI E a_t_wanted 16 t_wanted] H locs → lv_has ls 2 [(0, .ref a_t)] → jj_28_0 = some (u_t_total, u_t_first, u_t_graphAge, u_t_ranksAge, u_t_arcBetween, u_t_open, u_t_sooner, u_t_wanted) → W p l e (Rm 22) s m (([.ref a_t] : List Value).toArray) below meth c H locs 0 0 Q (F0 m 28 ls []) := by
    intro H locs ls hw hl hf
    rw [ejj_28_0] at hf
    refine lv_aload_n S.1 S.2.1 dX9_refresh_28 rfl (lv_at hl 0 rfl) ?_
    refine lv_aload_n S.1 S.2.1 dX9_refresh_29 rfl (lv_at hl 0 rfl) ?_
    refine g_get S hN hw (C := RX9) (T := TX9) (N := 10) (ci := 9) (v := .ref a_g) 0 0 iX9 k32 dX9_refresh_30 rfl rfl (by decide) rfl ?_
    refine g_getN S hN hw (C := RX2) (T := TX2) (N := 9) (ci := 2) (v := .int g_age) 1 3 iX2 w40 dX9_refresh_33 rfl rfl (by decide) rfl ?_
    refine g_put S hN hw (C := RX9) (T := TX9) (N := 10) (ci := 9) (ty := .int) (w1 := [oC a_t 9 [.ref a_g, .ref a_k, .ref a_t_arcBetween, .ref a_t_open, .ref a_t_sooner, .ref a_t_wanted, .int t_total, .long t_first, .int g_age, .int t_ranksAge], oC a_g 2 [.int g_nodes, .int g_made, .int g_living, .int g_age, .ref a_g_oneEnd, .ref a_g_otherEnd, .ref a_g_weights, .ref a_g_alive, .ref a_g_joined], aI E a_g_oneEnd 60 g_oneEnd, aI E a_g_otherEnd 60 g_otherEnd, aZ E a_g_alive 60 g_alive, aI E a_g_joined 16 g_joined, oC a_k 6 [.int k_age, .ref a_k_given], aI E a_k_given 256 k_given, aJ E a_t_arcBetween 256 t_arcBetween, aI E a_t_open 16 t_open, aI E a_t_sooner 256 t_sooner, aI E a_t_wanted 16 t_wanted]) 0 8 iX9 k25 tyX9 tyX9_ok nmX9 dX9_refresh_36 rfl rfl (by decide) rfl (by decide +kernel) rfl rfl (Nat.le_of_ble_eq_true rfl) rfl (fun H locs hw => ?_)
    refine lv_aload_n S.1 S.2.1 dX9_refresh_39 rfl (lv_at hl 0 rfl) ?_
    refine lv_aload_n S.1 S.2.1 dX9_refresh_40 rfl (lv_at hl 0 rfl) ?_
    refine g_get S hN hw (C := RX9) (T := TX9) (N := 10) (ci := 9) (v := .ref a_k) 0 1 iX9 k36 dX9_refresh_41 rfl rfl (by decide) rfl ?_
    refine g_getN S hN hw (C := RX6) (T := TX6) (N := 2) (ci := 6) (v := .int k_age) 6 0 iX6 w45 dX9_refresh_44 rfl rfl (by decide) rfl ?_
    refine g_put S hN hw (C := RX9) (T := TX9) (N := 10) (ci := 9) (ty := .int) (w1 := [oC a_t 9 [.ref a_g, .ref a_k, .ref a_t_arcBetween, .ref a_t_open, .ref a_t_sooner, .ref a_t_wanted, .int t_total, .long t_first, .int g_age, .int k_age], oC a_g 2 [.int g_nodes, .int g_made, .int g_living, .int g_age, .ref a_g_oneEnd, .ref a_g_otherEnd, .ref a_g_weights, .ref a_g_alive, .ref a_g_joined], aI E a_g_oneEnd 60 g_oneEnd, aI E a_g_otherEnd 60 g_otherEnd, aZ E a_g_alive 60 g_alive, aI E a_g_joined 16 g_joined, oC a_k 6 [.int k_age, .ref a_k_given], aI E a_k_given 256 k_given, aJ E a_t_arcBetween 256 t_arcBetween, aI E a_t_open 16 t_open, aI E a_t_sooner 256 t_sooner, aI E a_t_wanted 16 t_wanted]) 0 9 iX9 k29 tyX9 tyX9_ok nmX9 dX9_refresh_47 rfl rfl (by decide) rfl (by decide +kernel) rfl rfl (Nat.le_of_ble_eq_true rfl) rfl (fun H locs hw => ?_)
    refine lv_aload_n S.1 S.2.1 dX9_refresh_50 rfl (lv_at hl 0 rfl) ?_
    obtain ⟨t_arcBetween_2, hc_2, hf⟩ := bd_s hf
    refine g_callv (wc := [oC a_t 9 [.ref a_g, .ref a_k, .ref a_t_arcBetween, .ref a_t_open, .ref a_t_sooner, .ref a_t_wanted, .int t_total, .long t_first, .int g_age, .int k_age], oC a_g 2 [.int g_nodes, .int g_made, .int g_living, .int g_age, .ref a_g_oneEnd, .ref a_g_otherEnd, .ref a_g_weights, .ref a_g_alive, .ref a_g_joined], aI E a_g_oneEnd 60 g_oneEnd, aI E a_g_otherEnd 60 g_otherEnd, aZ E a_g_alive 60 g_alive, aJ E a_t_arcBetween 256 t_arcBetween]) (wr := [aI E a_g_joined 16 g_joined, oC a_k 6 [.int k_age, .ref a_k_given], aI E a_k_given 256 k_given, aI E a_t_open 16 t_open, aI E a_t_sooner 256 t_sooner, aI E a_t_wanted 16 t_wanted]) (w1 := [oC a_t 9 [.ref a_g, .ref a_k, .ref a_t_arcBetween, .ref a_t_open, .ref a_t_sooner, .ref a_t_wanted, .int t_total, .long t_first, .int g_age, .int k_age], oC a_g 2 [.int g_nodes, .int g_made, .int g_living, .int g_age, .ref a_g_oneEnd, .ref a_g_otherEnd, .ref a_g_weights, .ref a_g_alive, .ref a_g_joined], aI E a_g_oneEnd 60 g_oneEnd, aI E a_g_otherEnd 60 g_otherEnd, aZ E a_g_alive 60 g_alive, aJ E a_t_arcBetween 256 t_arcBetween_2]) (va_runV (As := []) (rest := []) S (c_X9_findArcs l E F g_nodes g_made g_living g_age g_oneEnd a_g_oneEnd g_otherEnd a_g_otherEnd a_g_weights g_alive a_g_alive a_g_joined a_g a_k t_arcBetween a_t_arcBetween a_t_open a_t_sooner a_t_wanted t_total t_first g_age k_age a_t t_arcBetween_2 hc_2 _) (cwV 0 S.2.2.2.2 gX9_refresh_X9_findArcs rfl rfl rfl (by decide +kernel) (rm_le (by omega) (by decide))) (preV (q := (RX9, TX9, 10)) hN hw [0, 1, 2, 3, 4, 8] rfl rfl rfl rfl) rfl rfl hl.1 rfl (lv_room (Nat.le_of_ble_eq_true rfl)) dX9_refresh_51 ⟨Nat.le_refl _, Nat.le_refl _⟩) hw hA [0, 1, 2, 3, 4, 8] [5, 6, 7, 9, 10, 11] rfl rfl rfl (by decide) (fun H locs hw => ?_)
    have hw : Wo E A s [aI E a_g_joined 16 g_joined, oC a_k 6 [.int k_age, .ref a_k_given], aI E a_k_given 256 k_given, aI E a_t_open 16 t_open, aI E a_t_sooner 256 t_sooner, aI E a_t_wanted 16 t_wanted, oC a_t 9 [.ref a_g, .ref a_k, .ref a_t_arcBetween, .ref a_t_open, .ref a_t_sooner, .ref a_t_wanted, .int t_total, .long t_first, .int g_age, .int k_age], oC a_g 2 [.int g_nodes, .int g_made, .int g_living, .int g_age, .ref a_g_oneEnd, .ref a_g_otherEnd, .ref a_g_weights, .ref a_g_alive, .ref a_g_joined], aI E a_g_oneEnd 60 g_oneEnd, aI E a_g_otherEnd 60 g_otherEnd, aZ E a_g_alive 60 g_alive, aJ E a_t_arcBetween 256 t_arcBetween_2] H _ := hw
    refine lv_iconst (v := 0) S.1 S.2.1 dX9_refresh_54 (by decide) ?_
    refine lv_istore_n (lv' := [(1, .int 0), (0, .ref a_t)]) S.1 S.2.1 dX9_refresh_55 rfl hl (by decide) rfl (fun ls hl => ?_)
    obtain ⟨kk_84_16, ekk_84_16, hf⟩ := jn_s hf
    have hJ_kk_84_16 : ∀ (t_open_4 : Nat → Int32) (H : Heap) (locs : List Loc) (ls : Array Slot), Wo E A s [aI E a_g_joined 16 g_joined, oC a_k 6 [.int k_age, .ref a_k_given], aI E a_k_given 256 k_given, aI E a_t_open 16 t_open_4, aI E a_t_sooner 256 t_sooner, aI E a_t_wanted 16 t_wanted, oC a_t 9 [.ref a_g, .ref a_k, .ref a_t_arcBetween, .ref a_t_open, .ref a_t_sooner, .ref a_t_wanted, .int t_total, .long t_first, .int g_age, .int k_age], oC a_g 2 [.int g_nodes, .int g_made, .int g_living, .int g_age, .ref a_g_oneEnd, .ref a_g_otherEnd, .ref a_g_weights, .ref a_g_alive, .ref a_g_joined], aI E a_g_oneEnd 60 g_oneEnd, aI E a_g_otherEnd 60 g_otherEnd, aZ E a_g_alive 60 g_alive, aJ E a_t_arcBetween 256 t_arcBetween_2] H locs → lv_has ls 2 [(0, .ref a_t)] → kk_84_16 t_open_4 = some (u_t_total, u_t_first, u_t_graphAge, u_t_ranksAge, u_t_arcBetween, u_t_open, u_t_sooner, u_t_wanted) → W p l e (Rm 22) s m (([.ref a_t] : List Value).toArray) below meth c H locs 0 0 Q (F0 m 84 ls []) := by
      intro t_open_4 H locs ls hw hl hf
      rw [ekk_84_16] at hf
      refine lv_iconst (v := 0) S.1 S.2.1 dX9_refresh_84 (by decide) ?_
      refine lv_istore_n (lv' := [(1, .int 0), (0, .ref a_t)]) S.1 S.2.1 dX9_refresh_85 rfl hl (by decide) rfl (fun ls hl => ?_)
      obtain ⟨kk_108_9, ekk_108_9, hf⟩ := jn_s hf
      have hJ_kk_108_9 : ∀ (t_sooner_5 : Nat → Int32) (H : Heap) (locs : List Loc) (ls : Array Slot), Wo E A s [aI E a_g_joined 16 g_joined, oC a_k 6 [.int k_age, .ref a_k_given], aI E a_k_given 256 k_given, aI E a_t_open 16 t_open_4, aI E a_t_sooner 256 t_sooner_5, aI E a_t_wanted 16 t_wanted, oC a_t 9 [.ref a_g, .ref a_k, .ref a_t_arcBetween, .ref a_t_open, .ref a_t_sooner, .ref a_t_wanted, .int t_total, .long t_first, .int g_age, .int k_age], oC a_g 2 [.int g_nodes, .int g_made, .int g_living, .int g_age, .ref a_g_oneEnd, .ref a_g_otherEnd, .ref a_g_weights, .ref a_g_alive, .ref a_g_joined], aI E a_g_oneEnd 60 g_oneEnd, aI E a_g_otherEnd 60 g_otherEnd, aZ E a_g_alive 60 g_alive, aJ E a_t_arcBetween 256 t_arcBetween_2] H locs → lv_has ls 2 [(0, .ref a_t)] → kk_108_9 t_sooner_5 = some (u_t_total, u_t_first, u_t_graphAge, u_t_ranksAge, u_t_arcBetween, u_t_open, u_t_sooner, u_t_wanted) → W p l e (Rm 22) s m (([.ref a_t] : List Value).toArray) below meth c H locs 0 0 Q (F0 m 108 ls []) := by
        intro t_sooner_5 H locs ls hw hl hf
        rw [ekk_108_9] at hf
        refine lv_aload_n S.1 S.2.1 dX9_refresh_108 rfl (lv_at hl 0 rfl) ?_
        refine lv_iconst (v := 0) S.1 S.2.1 dX9_refresh_109 (by decide) ?_
        refine g_put S hN hw (C := RX9) (T := TX9) (N := 10) (ci := 9) (ty := .int) (w1 := [aI E a_g_joined 16 g_joined, oC a_k 6 [.int k_age, .ref a_k_given], aI E a_k_given 256 k_given, aI E a_t_open 16 t_open_4, aI E a_t_sooner 256 t_sooner_5, aI E a_t_wanted 16 t_wanted, oC a_t 9 [.ref a_g, .ref a_k, .ref a_t_arcBetween, .ref a_t_open, .ref a_t_sooner, .ref a_t_wanted, .int 0, .long t_first, .int g_age, .int k_age], oC a_g 2 [.int g_nodes, .int g_made, .int g_living, .int g_age, .ref a_g_oneEnd, .ref a_g_otherEnd, .ref a_g_weights, .ref a_g_alive, .ref a_g_joined], aI E a_g_oneEnd 60 g_oneEnd, aI E a_g_otherEnd 60 g_otherEnd, aZ E a_g_alive 60 g_alive, aJ E a_t_arcBetween 256 t_arcBetween_2]) 6 6 iX9 k62 tyX9 tyX9_ok nmX9 dX9_refresh_110 rfl rfl (by decide) rfl (by decide +kernel) rfl rfl (Nat.le_of_ble_eq_true rfl) rfl (fun H locs hw => ?_)
        refine lv_aload_n S.1 S.2.1 dX9_refresh_113 rfl (lv_at hl 0 rfl) ?_
        refine lv_lconst (v := 0) S.1 S.2.1 dX9_refresh_114 (by decide) ?_
        refine g_put S hN hw (C := RX9) (T := TX9) (N := 10) (ci := 9) (ty := .long) (w1 := [aI E a_g_joined 16 g_joined, oC a_k 6 [.int k_age, .ref a_k_given], aI E a_k_given 256 k_given, aI E a_t_open 16 t_open_4, aI E a_t_sooner 256 t_sooner_5, aI E a_t_wanted 16 t_wanted, oC a_t 9 [.ref a_g, .ref a_k, .ref a_t_arcBetween, .ref a_t_open, .ref a_t_sooner, .ref a_t_wanted, .int 0, .long (0 : Int64), .int g_age, .int k_age], oC a_g 2 [.int g_nodes, .int g_made, .int g_living, .int g_age, .ref a_g_oneEnd, .ref a_g_otherEnd, .ref a_g_weights, .ref a_g_alive, .ref a_g_joined], aI E a_g_oneEnd 60 g_oneEnd, aI E a_g_otherEnd 60 g_otherEnd, aZ E a_g_alive 60 g_alive, aJ E a_t_arcBetween 256 t_arcBetween_2]) 6 7 iX9 k65 tyX9 tyX9_ok nmX9 dX9_refresh_115 rfl rfl (by decide) rfl (by decide +kernel) rfl rfl (Nat.le_of_ble_eq_true rfl) rfl (fun H locs hw => ?_)
        refine lv_aload_n S.1 S.2.1 dX9_refresh_118 rfl (lv_at hl 0 rfl) ?_
        refine lv_iconst (v := 0) S.1 S.2.1 dX9_refresh_119 (by decide) ?_
        refine lv_lconst (v := 0) S.1 S.2.1 dX9_refresh_120 (by decide) ?_
        refine lv_iconst (v := 0) S.1 S.2.1 dX9_refresh_121 (by decide) ?_
        obtain ⟨t_total_6, t_first_7, t_wanted_8, hc_8, hf⟩ := bd3_s hf
        refine g_callv (wc := [oC a_t 9 [.ref a_g, .ref a_k, .ref a_t_arcBetween, .ref a_t_open, .ref a_t_sooner, .ref a_t_wanted, .int 0, .long (0 : Int64), .int g_age, .int k_age], oC a_g 2 [.int g_nodes, .int g_made, .int g_living, .int g_age, .ref a_g_oneEnd, .ref a_g_otherEnd, .ref a_g_weights, .ref a_g_alive, .ref a_g_joined], aJ E a_t_arcBetween 256 t_arcBetween_2, aI E a_t_open 16 t_open_4, aI E a_t_sooner 256 t_sooner_5, aI E a_t_wanted 16 t_wanted]) (wr := [aI E a_g_joined 16 g_joined, oC a_k 6 [.int k_age, .ref a_k_given], aI E a_k_given 256 k_given, aI E a_g_oneEnd 60 g_oneEnd, aI E a_g_otherEnd 60 g_otherEnd, aZ E a_g_alive 60 g_alive]) (w1 := [oC a_t 9 [.ref a_g, .ref a_k, .ref a_t_arcBetween, .ref a_t_open, .ref a_t_sooner, .ref a_t_wanted, .int t_total_6, .long t_first_7, .int g_age, .int k_age], oC a_g 2 [.int g_nodes, .int g_made, .int g_living, .int g_age, .ref a_g_oneEnd, .ref a_g_otherEnd, .ref a_g_weights, .ref a_g_alive, .ref a_g_joined], aJ E a_t_arcBetween 256 t_arcBetween_2, aI E a_t_open 16 t_open_4, aI E a_t_sooner 256 t_sooner_5, aI E a_t_wanted 16 t_wanted_8]) (va_runV (As := [.int 0, .long (0 : Int64), .int 0]) (rest := []) S (c_X9_settle l E F g_nodes g_made g_living g_age a_g_oneEnd a_g_otherEnd a_g_weights a_g_alive a_g_joined a_g a_k t_arcBetween_2 a_t_arcBetween t_open_4 a_t_open t_sooner_5 a_t_sooner a_t_wanted g_age k_age a_t 18 0 (0 : Int64) 0 0 (0 : Int64) t_wanted t_total_6 t_first_7 t_wanted_8 hc_8 _) (cwV 3 S.2.2.2.2 gX9_refresh_X9_settle rfl rfl rfl (by decide +kernel) (rm_le (by omega) (by decide))) (preV (q := (RX9, TX9, 10)) hN hw [6, 7, 11, 3, 4, 5] rfl rfl rfl rfl) rfl rfl hl.1 rfl (lv_room (Nat.le_of_ble_eq_true rfl)) dX9_refresh_122 ⟨Nat.le_refl _, Nat.le_refl _⟩) hw hA [6, 7, 11, 3, 4, 5] [0, 1, 2, 8, 9, 10] rfl rfl rfl (by decide) (fun H locs hw => ?_)
        have hw : Wo E A s [aI E a_g_joined 16 g_joined, oC a_k 6 [.int k_age, .ref a_k_given], aI E a_k_given 256 k_given, aI E a_g_oneEnd 60 g_oneEnd, aI E a_g_otherEnd 60 g_otherEnd, aZ E a_g_alive 60 g_alive, oC a_t 9 [.ref a_g, .ref a_k, .ref a_t_arcBetween, .ref a_t_open, .ref a_t_sooner, .ref a_t_wanted, .int t_total_6, .long t_first_7, .int g_age, .int k_age], oC a_g 2 [.int g_nodes, .int g_made, .int g_living, .int g_age, .ref a_g_oneEnd, .ref a_g_otherEnd, .ref a_g_weights, .ref a_g_alive, .ref a_g_joined], aJ E a_t_arcBetween 256 t_arcBetween_2, aI E a_t_open 16 t_open_4, aI E a_t_sooner 256 t_sooner_5, aI E a_t_wanted 16 t_wanted_8] H _ := hw
        cases hf
        exact hE _ _ _ _ (hw.sub [6, 7, 3, 4, 5, 0, 1, 2, 8, 9, 10, 11] rfl rfl) dX9_refresh_125
      have hL_86_15 : ∀ (n : Nat) (v1_11 : Int32) (t_sooner_12 : Nat → Int32) (H : Heap) (locs : List Loc) (ls : Array Slot), Wo E A s [aI E a_g_joined 16 g_joined, oC a_k 6 [.int k_age, .ref a_k_given], aI E a_k_given 256 k_given, aI E a_t_open 16 t_open_4, aI E a_t_sooner 256 t_sooner_12, aI E a_t_wanted 16 t_wanted, oC a_t 9 [.ref a_g, .ref a_k, .ref a_t_arcBetween, .ref a_t_open, .ref a_t_sooner, .ref a_t_wanted, .int t_total, .long t_first, .int g_age, .int k_age], oC a_g 2 [.int g_nodes, .int g_made, .int g_living, .int g_age, .ref a_g_oneEnd, .ref a_g_otherEnd, .ref a_g_weights, .ref a_g_alive, .ref a_g_joined], aI E a_g_oneEnd 60 g_oneEnd, aI E a_g_otherEnd 60 g_otherEnd, aZ E a_g_alive 60 g_alive, aJ E a_t_arcBetween 256 t_arcBetween_2] H locs → lv_has ls 2 [(0, .ref a_t), (1, .int v1_11)] → f_X9_refresh_L86 F g_nodes k_given t_open_4 kk_108_9 n v1_11 t_sooner_12 = some (u_t_total, u_t_first, u_t_graphAge, u_t_ranksAge, u_t_arcBetween, u_t_open, u_t_sooner, u_t_wanted) → W p l e (Rm 22) s m (([.ref a_t] : List Value).toArray) below meth c H locs 0 0 Q (F0 m 86 ls []) := by
        intro n
        induction n with
        | zero => intro v1_11 t_sooner_12 H locs ls hw hl hf; unfold f_X9_refresh_L86 at hf; cases hf
        | succ n ih =>
          intro v1_11 t_sooner_12 H locs ls hw hl hf
          unfold f_X9_refresh_L86 at hf
          refine lv_iload_n S.1 S.2.1 dX9_refresh_86 rfl (lv_at hl 1 rfl) ?_
          refine lv_aload_n S.1 S.2.1 dX9_refresh_87 rfl (lv_at hl 0 rfl) ?_
          refine g_get S hN hw (C := RX9) (T := TX9) (N := 10) (ci := 9) (v := .ref a_g) 6 0 iX9 k32 dX9_refresh_88 rfl rfl (by decide) rfl ?_
          refine g_getN S hN hw (C := RX2) (T := TX2) (N := 9) (ci := 2) (v := .int g_nodes) 7 0 iX2 w51 dX9_refresh_91 rfl rfl (by decide) rfl ?_
          refine lv_icmp_ge (tgt := 108) S.1 S.2.1 dX9_refresh_94 (by decide) (fun h_13 => ?_) (fun h_13 => ?_)
          · replace hf := if_t h_13 hf
            exact hJ_kk_108_9 t_sooner_12 _ _ _ hw (lv_sub hl [0] rfl) hf
          · replace hf := if_f h_13 hf
            refine lv_aload_n S.1 S.2.1 dX9_refresh_97 rfl (lv_at hl 0 rfl) ?_
            refine lv_iload_n S.1 S.2.1 dX9_refresh_98 rfl (lv_at hl 1 rfl) ?_
            obtain ⟨t_sooner_14, hc_14, hf⟩ := bd_s hf
            refine g_callv (wc := [oC a_t 9 [.ref a_g, .ref a_k, .ref a_t_arcBetween, .ref a_t_open, .ref a_t_sooner, .ref a_t_wanted, .int t_total, .long t_first, .int g_age, .int k_age], oC a_g 2 [.int g_nodes, .int g_made, .int g_living, .int g_age, .ref a_g_oneEnd, .ref a_g_otherEnd, .ref a_g_weights, .ref a_g_alive, .ref a_g_joined], oC a_k 6 [.int k_age, .ref a_k_given], aI E a_k_given 256 k_given, aI E a_t_open 16 t_open_4, aI E a_t_sooner 256 t_sooner_12]) (wr := [aI E a_g_joined 16 g_joined, aI E a_t_wanted 16 t_wanted, aI E a_g_oneEnd 60 g_oneEnd, aI E a_g_otherEnd 60 g_otherEnd, aZ E a_g_alive 60 g_alive, aJ E a_t_arcBetween 256 t_arcBetween_2]) (w1 := [oC a_t 9 [.ref a_g, .ref a_k, .ref a_t_arcBetween, .ref a_t_open, .ref a_t_sooner, .ref a_t_wanted, .int t_total, .long t_first, .int g_age, .int k_age], oC a_g 2 [.int g_nodes, .int g_made, .int g_living, .int g_age, .ref a_g_oneEnd, .ref a_g_otherEnd, .ref a_g_weights, .ref a_g_alive, .ref a_g_joined], oC a_k 6 [.int k_age, .ref a_k_given], aI E a_k_given 256 k_given, aI E a_t_open 16 t_open_4, aI E a_t_sooner 256 t_sooner_14]) (va_runV (As := [.int v1_11]) (rest := []) S (c_X9_findSooner l E F g_nodes g_made g_living g_age a_g_oneEnd a_g_otherEnd a_g_weights a_g_alive a_g_joined a_g k_age k_given a_k_given a_k a_t_arcBetween t_open_4 a_t_open t_sooner_12 a_t_sooner a_t_wanted t_total t_first g_age k_age a_t v1_11 t_sooner_14 hc_14 _) (cwV 1 S.2.2.2.2 gX9_refresh_X9_findSooner rfl rfl rfl (by decide +kernel) (rm_le (by omega) (by decide))) (preV (q := (RX9, TX9, 10)) hN hw [6, 7, 1, 2, 3, 4] rfl rfl rfl rfl) rfl rfl hl.1 rfl (lv_room (Nat.le_of_ble_eq_true rfl)) dX9_refresh_99 ⟨Nat.le_refl _, Nat.le_refl _⟩) hw hA [6, 7, 1, 2, 3, 4] [0, 5, 8, 9, 10, 11] rfl rfl rfl (by decide) (fun H locs hw => ?_)
            have hw : Wo E A s [aI E a_g_joined 16 g_joined, aI E a_t_wanted 16 t_wanted, aI E a_g_oneEnd 60 g_oneEnd, aI E a_g_otherEnd 60 g_otherEnd, aZ E a_g_alive 60 g_alive, aJ E a_t_arcBetween 256 t_arcBetween_2, oC a_t 9 [.ref a_g, .ref a_k, .ref a_t_arcBetween, .ref a_t_open, .ref a_t_sooner, .ref a_t_wanted, .int t_total, .long t_first, .int g_age, .int k_age], oC a_g 2 [.int g_nodes, .int g_made, .int g_living, .int g_age, .ref a_g_oneEnd, .ref a_g_otherEnd, .ref a_g_weights, .ref a_g_alive, .ref a_g_joined], oC a_k 6 [.int k_age, .ref a_k_given], aI E a_k_given 256 k_given, aI E a_t_open 16 t_open_4, aI E a_t_sooner 256 t_sooner_14] H _ := hw
            refine lv_iinc (v := (v1_11 + 1)) (lv' := [(1, .int (v1_11 + 1)), (0, .ref a_t)]) S.1 S.2.1 dX9_refresh_102 hl (k := 1) rfl rfl (by decide) rfl (fun ls hl => ?_)
            refine lv_goto (tgt := 86) S.1 S.2.1 dX9_refresh_105 (by decide) ?_
            exact ih (v1_11 + 1) t_sooner_14 _ _ _ (hw.sub [0, 8, 9, 10, 11, 1, 6, 7, 2, 3, 4, 5] rfl rfl) (lv_sub hl [1, 0] rfl) hf
      exact hL_86_15 F 0 t_sooner _ _ _ hw (lv_sub hl [1, 0] rfl) hf
    have hL_56_23 : ∀ (n : Nat) (v1_18 : Int32) (t_open_19 : Nat → Int32) (H : Heap) (locs : List Loc) (ls : Array Slot), Wo E A s [aI E a_g_joined 16 g_joined, oC a_k 6 [.int k_age, .ref a_k_given], aI E a_k_given 256 k_given, aI E a_t_open 16 t_open_19, aI E a_t_sooner 256 t_sooner, aI E a_t_wanted 16 t_wanted, oC a_t 9 [.ref a_g, .ref a_k, .ref a_t_arcBetween, .ref a_t_open, .ref a_t_sooner, .ref a_t_wanted, .int t_total, .long t_first, .int g_age, .int k_age], oC a_g 2 [.int g_nodes, .int g_made, .int g_living, .int g_age, .ref a_g_oneEnd, .ref a_g_otherEnd, .ref a_g_weights, .ref a_g_alive, .ref a_g_joined], aI E a_g_oneEnd 60 g_oneEnd, aI E a_g_otherEnd 60 g_otherEnd, aZ E a_g_alive 60 g_alive, aJ E a_t_arcBetween 256 t_arcBetween_2] H locs → lv_has ls 2 [(0, .ref a_t), (1, .int v1_18)] → f_X9_refresh_L56 F g_nodes g_joined k_given kk_84_16 n v1_18 t_open_19 = some (u_t_total, u_t_first, u_t_graphAge, u_t_ranksAge, u_t_arcBetween, u_t_open, u_t_sooner, u_t_wanted) → W p l e (Rm 22) s m (([.ref a_t] : List Value).toArray) below meth c H locs 0 0 Q (F0 m 56 ls []) := by
      intro n
      induction n with
      | zero => intro v1_18 t_open_19 H locs ls hw hl hf; unfold f_X9_refresh_L56 at hf; cases hf
      | succ n ih =>
        intro v1_18 t_open_19 H locs ls hw hl hf
        unfold f_X9_refresh_L56 at hf
        refine lv_iload_n S.1 S.2.1 dX9_refresh_56 rfl (lv_at hl 1 rfl) ?_
        refine lv_aload_n S.1 S.2.1 dX9_refresh_57 rfl (lv_at hl 0 rfl) ?_
        refine g_get S hN hw (C := RX9) (T := TX9) (N := 10) (ci := 9) (v := .ref a_g) 6 0 iX9 k32 dX9_refresh_58 rfl rfl (by decide) rfl ?_
        refine g_getN S hN hw (C := RX2) (T := TX2) (N := 9) (ci := 2) (v := .int g_nodes) 7 0 iX2 w51 dX9_refresh_61 rfl rfl (by decide) rfl ?_
        refine lv_icmp_ge (tgt := 84) S.1 S.2.1 dX9_refresh_64 (by decide) (fun h_20 => ?_) (fun h_20 => ?_)
        · replace hf := if_t h_20 hf
          exact hJ_kk_84_16 t_open_19 _ _ _ hw (lv_sub hl [0] rfl) hf
        · replace hf := if_f h_20 hf
          refine lv_aload_n S.1 S.2.1 dX9_refresh_67 rfl (lv_at hl 0 rfl) ?_
          refine g_get S hN hw (C := RX9) (T := TX9) (N := 10) (ci := 9) (v := .ref a_t_open) 6 3 iX9 k15 dX9_refresh_68 rfl rfl (by decide) rfl ?_
          refine lv_iload_n S.1 S.2.1 dX9_refresh_71 rfl (lv_at hl 1 rfl) ?_
          refine lv_aload_n S.1 S.2.1 dX9_refresh_72 rfl (lv_at hl 0 rfl) ?_
          refine lv_iload_n S.1 S.2.1 dX9_refresh_73 rfl (lv_at hl 1 rfl) ?_
          obtain ⟨r_21, hc_21, hf⟩ := bd_s hf
          refine g_calli (r := r_21) (wc := [oC a_t 9 [.ref a_g, .ref a_k, .ref a_t_arcBetween, .ref a_t_open, .ref a_t_sooner, .ref a_t_wanted, .int t_total, .long t_first, .int g_age, .int k_age], oC a_g 2 [.int g_nodes, .int g_made, .int g_living, .int g_age, .ref a_g_oneEnd, .ref a_g_otherEnd, .ref a_g_weights, .ref a_g_alive, .ref a_g_joined], aI E a_g_joined 16 g_joined, oC a_k 6 [.int k_age, .ref a_k_given], aI E a_k_given 256 k_given]) (wr := [aI E a_t_open 16 t_open_19, aI E a_t_sooner 256 t_sooner, aI E a_t_wanted 16 t_wanted, aI E a_g_oneEnd 60 g_oneEnd, aI E a_g_otherEnd 60 g_otherEnd, aZ E a_g_alive 60 g_alive, aJ E a_t_arcBetween 256 t_arcBetween_2]) (w1 := [oC a_t 9 [.ref a_g, .ref a_k, .ref a_t_arcBetween, .ref a_t_open, .ref a_t_sooner, .ref a_t_wanted, .int t_total, .long t_first, .int g_age, .int k_age], oC a_g 2 [.int g_nodes, .int g_made, .int g_living, .int g_age, .ref a_g_oneEnd, .ref a_g_otherEnd, .ref a_g_weights, .ref a_g_alive, .ref a_g_joined], aI E a_g_joined 16 g_joined, oC a_k 6 [.int k_age, .ref a_k_given], aI E a_k_given 256 k_given]) (va_runV (As := [.int v1_18]) (rest := [.int v1_18, .ref a_t_open]) S (c_X9_openTo l E F g_nodes g_made g_living g_age a_g_oneEnd a_g_otherEnd a_g_weights a_g_alive g_joined a_g_joined a_g k_age k_given a_k_given a_k a_t_arcBetween a_t_open a_t_sooner a_t_wanted t_total t_first g_age k_age a_t v1_18 r_21 hc_21 _) (cwV 1 S.2.2.2.2 gX9_refresh_X9_openTo rfl rfl rfl (by decide +kernel) (rm_le (by omega) (by decide))) (preV (q := (RX9, TX9, 10)) hN hw [6, 7, 0, 1, 2] rfl rfl rfl rfl) rfl rfl hl.1 rfl (lv_room (Nat.le_of_ble_eq_true rfl)) dX9_refresh_74 ⟨Nat.le_refl _, Nat.le_refl _⟩) hw hA [6, 7, 0, 1, 2] [3, 4, 5, 8, 9, 10, 11] rfl rfl rfl (by decide) (fun H locs hw => ?_)
          have hw : Wo E A s [aI E a_t_open 16 t_open_19, aI E a_t_sooner 256 t_sooner, aI E a_t_wanted 16 t_wanted, aI E a_g_oneEnd 60 g_oneEnd, aI E a_g_otherEnd 60 g_otherEnd, aZ E a_g_alive 60 g_alive, aJ E a_t_arcBetween 256 t_arcBetween_2, oC a_t 9 [.ref a_g, .ref a_k, .ref a_t_arcBetween, .ref a_t_open, .ref a_t_sooner, .ref a_t_wanted, .int t_total, .long t_first, .int g_age, .int k_age], oC a_g 2 [.int g_nodes, .int g_made, .int g_living, .int g_age, .ref a_g_oneEnd, .ref a_g_otherEnd, .ref a_g_weights, .ref a_g_alive, .ref a_g_joined], aI E a_g_joined 16 g_joined, oC a_k 6 [.int k_age, .ref a_k_given], aI E a_k_given 256 k_given] H _ := hw
          obtain ⟨hi_22, hf⟩ := wr_s hf
          refine g_iast (n := 16) (f := t_open_19) (w1 := [aI E a_t_open 16 (va_up t_open_19 (v1_18 : Int32).toNatClampNeg r_21), aI E a_t_sooner 256 t_sooner, aI E a_t_wanted 16 t_wanted, aI E a_g_oneEnd 60 g_oneEnd, aI E a_g_otherEnd 60 g_otherEnd, aZ E a_g_alive 60 g_alive, aJ E a_t_arcBetween 256 t_arcBetween_2, oC a_t 9 [.ref a_g, .ref a_k, .ref a_t_arcBetween, .ref a_t_open, .ref a_t_sooner, .ref a_t_wanted, .int t_total, .long t_first, .int g_age, .int k_age], oC a_g 2 [.int g_nodes, .int g_made, .int g_living, .int g_age, .ref a_g_oneEnd, .ref a_g_otherEnd, .ref a_g_weights, .ref a_g_alive, .ref a_g_joined], aI E a_g_joined 16 g_joined, oC a_k 6 [.int k_age, .ref a_k_given], aI E a_k_given 256 k_given]) S hN hw 0 hi_22 dX9_refresh_77 rfl rfl (fun H locs hw => ?_)
          generalize va_up t_open_19 (v1_18 : Int32).toNatClampNeg r_21 = t_open_23 at hf hw
          refine lv_iinc (v := (v1_18 + 1)) (lv' := [(1, .int (v1_18 + 1)), (0, .ref a_t)]) S.1 S.2.1 dX9_refresh_78 hl (k := 1) rfl rfl (by decide) rfl (fun ls hl => ?_)
          refine lv_goto (tgt := 56) S.1 S.2.1 dX9_refresh_81 (by decide) ?_
          exact ih (v1_18 + 1) t_open_23 _ _ _ (hw.sub [9, 10, 11, 0, 1, 2, 7, 8, 3, 4, 5, 6] rfl rfl) (lv_sub hl [1, 0] rfl) hf
    exact hL_56_23 F 0 t_open _ _ _ hw (lv_sub hl [1, 0] rfl) hf
  refine lv_icmp_ne (tgt := 28) S.1 S.2.1 dX9_refresh_11 (by decide) (fun h_25 => ?_) (fun h_25 => ?_)
  · replace hf := if_f h_25 hf
    exact hJ_jj_28_0 _ _ _ hw hl hf
  · replace hf := if_t h_25 hf
    refine lv_aload_n S.1 S.2.1 dX9_refresh_14 rfl (lv_at hl 0 rfl) ?_
    refine g_get S hN hw (C := RX9) (T := TX9) (N := 10) (ci := 9) (v := .int t_ranksAge) 0 9 iX9 k29 dX9_refresh_15 rfl rfl (by decide) rfl ?_
    refine lv_aload_n S.1 S.2.1 dX9_refresh_18 rfl (lv_at hl 0 rfl) ?_
    refine g_get S hN hw (C := RX9) (T := TX9) (N := 10) (ci := 9) (v := .ref a_k) 0 1 iX9 k36 dX9_refresh_19 rfl rfl (by decide) rfl ?_
    refine g_getN S hN hw (C := RX6) (T := TX6) (N := 2) (ci := 6) (v := .int k_age) 6 0 iX6 w45 dX9_refresh_22 rfl rfl (by decide) rfl ?_
    refine lv_icmp_eq (tgt := 125) S.1 S.2.1 dX9_refresh_25 (by decide) (fun h_26 => ?_) (fun h_26 => ?_)
    · replace hf := if_t h_26 hf
      cases hf
      exact hE _ _ _ _ hw dX9_refresh_125
    · replace hf := if_f h_26 hf
      exact hJ_jj_28_0 _ _ _ hw hl hf
def f_X10_refresh_L52 (kk_70_12 : (Nat → Int32) → Option (Int32 × Int32 × Int32 × (Nat → Int32) × (Nat → Int32) × (Nat → Int32) × (Nat → Int32) × (Nat → Int32) × (Nat → Int32))) : Nat → Int32 → (Nat → Int32) → Option (Int32 × Int32 × Int32 × (Nat → Int32) × (Nat → Int32) × (Nat → Int32) × (Nat → Int32) × (Nat → Int32) × (Nat → Int32))
  | 0, _, _ => none
  | n + 1, v1_14, w_known_15 => (if 4 < v1_14 then (kk_70_12 w_known_15) else wr 5 w_known_15 v1_14 0 (fun w_known_17 => (f_X10_refresh_L52 kk_70_12 n (v1_14 + 1) w_known_17)))
def f_X10_refresh (F : Nat) (g_nodes : Int32) (g_age : Int32) (g_joined : Nat → Int32) (r_slots : Nat → Int32) (r_slotOf : Nat → Int32) (r_sets : Nat → Int32) (r_later : Nat → Int32) (r_laters : Nat → Int32) (r_mayLeave : Int32) (r_amount : Int32) (w_known : Nat → Int32) (w_age : Int32) : Option (Int32 × Int32 × Int32 × (Nat → Int32) × (Nat → Int32) × (Nat → Int32) × (Nat → Int32) × (Nat → Int32) × (Nat → Int32)) :=
  (if w_age = g_age then some (w_age, r_mayLeave, r_amount, r_slots, r_slotOf, r_sets, r_later, r_laters, w_known) else bd7 (f_X7_build F (f_X2_allNodes g_nodes) 1 r_slots r_slotOf r_sets r_later r_laters g_joined 16) (fun r_mayLeave_4 r_amount_5 r_slots_6 r_slotOf_7 r_sets_8 r_later_9 r_laters_10 => (jn (fun (w_known_12 : Nat → Int32) => some (g_age, r_mayLeave_4, r_amount_5, r_slots_6, r_slotOf_7, r_sets_8, r_later_9, r_laters_10, w_known_12)) (fun kk_70_12 => (f_X10_refresh_L52 kk_70_12 F 0 w_known)))))
set_option maxHeartbeats 4000000 in
set_option maxRecDepth 100000 in
theorem c_X10_refresh (l : Launch) (E : Ev) (F : Nat) (g_nodes : Int32) (g_made : Int32) (g_living : Int32) (g_age : Int32) (a_g_oneEnd : Nat) (a_g_otherEnd : Nat) (a_g_weights : Nat) (a_g_alive : Nat) (g_joined : Nat → Int32) (a_g_joined : Nat) (a_g : Nat) (r_slots : Nat → Int32) (a_r_slots : Nat) (r_slotOf : Nat → Int32) (a_r_slotOf : Nat) (r_sets : Nat → Int32) (a_r_sets : Nat) (r_later : Nat → Int32) (a_r_later : Nat) (r_laters : Nat → Int32) (a_r_laters : Nat) (r_mayLeave : Int32) (r_amount : Int32) (a_r : Nat) (a_c_gain : Nat) (a_c_mark : Nat) (a_c_bestGain : Nat) (a_c_bestMark : Nat) (a_c : Nat) (w_known : Nat → Int32) (a_w_known : Nat) (a_w_found : Nat) (a_w_sets : Nat) (w_age : Int32) (a_w : Nat) (u_w_age : Int32) (u_r_mayLeave : Int32) (u_r_amount : Int32) (u_r_slots : Nat → Int32) (u_r_slotOf : Nat → Int32) (u_r_sets : Nat → Int32) (u_r_later : Nat → Int32) (u_r_laters : Nat → Int32) (u_w_known : Nat → Int32) (hf : f_X10_refresh F g_nodes g_age g_joined r_slots r_slotOf r_sets r_later r_laters r_mayLeave r_amount w_known w_age = some (u_w_age, u_r_mayLeave, u_r_amount, u_r_slots, u_r_slotOf, u_r_sets, u_r_later, u_r_laters, u_w_known)) :
    CtV l yX10_refresh wsX10_refresh (Rm 22) E [.ref a_w] [oC a_w 10 [.ref a_g, .ref a_c, .ref a_w_known, .ref a_w_found, .ref a_w_sets, .int w_age], oC a_g 2 [.int g_nodes, .int g_made, .int g_living, .int g_age, .ref a_g_oneEnd, .ref a_g_otherEnd, .ref a_g_weights, .ref a_g_alive, .ref a_g_joined], aI E a_g_joined 16 g_joined, oC a_c 0 [.ref a_r, .ref a_c_gain, .ref a_c_mark, .ref a_c_bestGain, .ref a_c_bestMark], oC a_r 7 [.ref a_r_slots, .ref a_r_slotOf, .ref a_r_sets, .ref a_r_later, .ref a_r_laters, .int r_mayLeave, .int r_amount], aI E a_r_slots 4096 r_slots, aI E a_r_slotOf 2584 r_slotOf, aI E a_r_sets 2584 r_sets, aI E a_r_later 256 r_later, aI E a_r_laters 16 r_laters, aZ E a_w_known 5 w_known] [oC a_w 10 [.ref a_g, .ref a_c, .ref a_w_known, .ref a_w_found, .ref a_w_sets, .int u_w_age], oC a_g 2 [.int g_nodes, .int g_made, .int g_living, .int g_age, .ref a_g_oneEnd, .ref a_g_otherEnd, .ref a_g_weights, .ref a_g_alive, .ref a_g_joined], aI E a_g_joined 16 g_joined, oC a_c 0 [.ref a_r, .ref a_c_gain, .ref a_c_mark, .ref a_c_bestGain, .ref a_c_bestMark], oC a_r 7 [.ref a_r_slots, .ref a_r_slotOf, .ref a_r_sets, .ref a_r_later, .ref a_r_laters, .int u_r_mayLeave, .int u_r_amount], aI E a_r_slots 4096 u_r_slots, aI E a_r_slotOf 2584 u_r_slotOf, aI E a_r_sets 2584 u_r_sets, aI E a_r_later 256 u_r_later, aI E a_r_laters 16 u_r_laters, aZ E a_w_known 5 u_w_known] := by
  refine ofV (cc := cX10_refresh) (maxL := 2) (own := RX10) rfl rfl (by decide) rfl rfl ?_
  intro p e s m below meth c A ls Q S hnm hN hw hA hl0 hE
  have hl : lv_has ls 2 [(0, .ref a_w)] := hl0 _ (lv_entry [.ref a_w] (n := 2) (Nat.le_of_ble_eq_true rfl))
  have iX0 : ∀ w ∈ wsX00, w ∈ wsX10_refresh := by decide +kernel
  have iX10 : ∀ w ∈ wsX100, w ∈ wsX10_refresh := by decide +kernel
  have iX2 : ∀ w ∈ wsX20, w ∈ wsX10_refresh := by decide +kernel
  have k12 := S.2.2.2.2 (.fieldLink RX10 12 "PairMatching$Ways" "chooser" "LPairMatching$Chooser;") (by decide +kernel)
  have k18 := S.2.2.2.2 (.fieldLink RX10 18 "PairMatching$Ways" "known" "[Z") (by decide +kernel)
  have k29 := S.2.2.2.2 (.fieldLink RX10 29 "PairMatching$Ways" "age" "I") (by decide +kernel)
  have k33 := S.2.2.2.2 (.fieldLink RX10 33 "PairMatching$Ways" "graph" "LPairMatching$Graph;") (by decide +kernel)
  have w37 : Cond.fieldLinkNest RX10 37 "PairMatching$Graph" "age" "I" "PairMatching" ∈ nestW := List.mem_of_getElem? (i := 12) rfl
  have w40 : Cond.fieldLinkNest RX10 40 "PairMatching$Chooser" "rests" "LPairMatching$Rests;" "PairMatching" ∈ nestW := List.mem_of_getElem? (i := 53) rfl
  have w48 : Cond.fieldLinkNest RX10 48 "PairMatching$Graph" "joined" "[I" "PairMatching" ∈ nestW := List.mem_of_getElem? (i := 32) rfl
  unfold f_X10_refresh at hf
  refine lv_aload_n S.1 S.2.1 dX10_refresh_0 rfl (lv_at hl 0 rfl) ?_
  refine g_get S hN hw (C := RX10) (T := TX10) (N := 6) (ci := 10) (v := .int w_age) 0 5 iX10 k29 dX10_refresh_1 rfl rfl (by decide) rfl ?_
  refine lv_aload_n S.1 S.2.1 dX10_refresh_4 rfl (lv_at hl 0 rfl) ?_
  refine g_get S hN hw (C := RX10) (T := TX10) (N := 6) (ci := 10) (v := .ref a_g) 0 0 iX10 k33 dX10_refresh_5 rfl rfl (by decide) rfl ?_
  refine g_getN S hN hw (C := RX2) (T := TX2) (N := 9) (ci := 2) (v := .int g_age) 1 3 iX2 w37 dX10_refresh_8 rfl rfl (by decide) rfl ?_
  refine lv_icmp_eq (tgt := 70) S.1 S.2.1 dX10_refresh_11 (by decide) (fun h_1 => ?_) (fun h_1 => ?_)
  · replace hf := if_t h_1 hf
    cases hf
    exact hE _ _ _ _ hw dX10_refresh_70
  · replace hf := if_f h_1 hf
    refine lv_aload_n S.1 S.2.1 dX10_refresh_14 rfl (lv_at hl 0 rfl) ?_
    refine lv_aload_n S.1 S.2.1 dX10_refresh_15 rfl (lv_at hl 0 rfl) ?_
    refine g_get S hN hw (C := RX10) (T := TX10) (N := 6) (ci := 10) (v := .ref a_g) 0 0 iX10 k33 dX10_refresh_16 rfl rfl (by decide) rfl ?_
    refine g_getN S hN hw (C := RX2) (T := TX2) (N := 9) (ci := 2) (v := .int g_age) 1 3 iX2 w37 dX10_refresh_19 rfl rfl (by decide) rfl ?_
    refine g_put S hN hw (C := RX10) (T := TX10) (N := 6) (ci := 10) (ty := .int) (w1 := [oC a_w 10 [.ref a_g, .ref a_c, .ref a_w_known, .ref a_w_found, .ref a_w_sets, .int g_age], oC a_g 2 [.int g_nodes, .int g_made, .int g_living, .int g_age, .ref a_g_oneEnd, .ref a_g_otherEnd, .ref a_g_weights, .ref a_g_alive, .ref a_g_joined], aI E a_g_joined 16 g_joined, oC a_c 0 [.ref a_r, .ref a_c_gain, .ref a_c_mark, .ref a_c_bestGain, .ref a_c_bestMark], oC a_r 7 [.ref a_r_slots, .ref a_r_slotOf, .ref a_r_sets, .ref a_r_later, .ref a_r_laters, .int r_mayLeave, .int r_amount], aI E a_r_slots 4096 r_slots, aI E a_r_slotOf 2584 r_slotOf, aI E a_r_sets 2584 r_sets, aI E a_r_later 256 r_later, aI E a_r_laters 16 r_laters, aZ E a_w_known 5 w_known]) 0 5 iX10 k29 tyX10 tyX10_ok nmX10 dX10_refresh_22 rfl rfl (by decide) rfl (by decide +kernel) rfl rfl (Nat.le_of_ble_eq_true rfl) rfl (fun H locs hw => ?_)
    refine lv_aload_n S.1 S.2.1 dX10_refresh_25 rfl (lv_at hl 0 rfl) ?_
    refine g_get S hN hw (C := RX10) (T := TX10) (N := 6) (ci := 10) (v := .ref a_c) 0 1 iX10 k12 dX10_refresh_26 rfl rfl (by decide) rfl ?_
    refine g_getN S hN hw (C := RX0) (T := TX0) (N := 5) (ci := 0) (v := .ref a_r) 3 0 iX0 w40 dX10_refresh_29 rfl rfl (by decide) rfl ?_
    refine lv_aload_n S.1 S.2.1 dX10_refresh_32 rfl (lv_at hl 0 rfl) ?_
    refine g_get S hN hw (C := RX10) (T := TX10) (N := 6) (ci := 10) (v := .ref a_g) 0 0 iX10 k33 dX10_refresh_33 rfl rfl (by decide) rfl ?_
    refine g_calli (r := (f_X2_allNodes g_nodes)) (wc := [oC a_g 2 [.int g_nodes, .int g_made, .int g_living, .int g_age, .ref a_g_oneEnd, .ref a_g_otherEnd, .ref a_g_weights, .ref a_g_alive, .ref a_g_joined]]) (wr := [oC a_w 10 [.ref a_g, .ref a_c, .ref a_w_known, .ref a_w_found, .ref a_w_sets, .int g_age], aI E a_g_joined 16 g_joined, oC a_c 0 [.ref a_r, .ref a_c_gain, .ref a_c_mark, .ref a_c_bestGain, .ref a_c_bestMark], oC a_r 7 [.ref a_r_slots, .ref a_r_slotOf, .ref a_r_sets, .ref a_r_later, .ref a_r_laters, .int r_mayLeave, .int r_amount], aI E a_r_slots 4096 r_slots, aI E a_r_slotOf 2584 r_slotOf, aI E a_r_sets 2584 r_sets, aI E a_r_later 256 r_later, aI E a_r_laters 16 r_laters, aZ E a_w_known 5 w_known]) (w1 := [oC a_g 2 [.int g_nodes, .int g_made, .int g_living, .int g_age, .ref a_g_oneEnd, .ref a_g_otherEnd, .ref a_g_weights, .ref a_g_alive, .ref a_g_joined]]) (va_runV (As := []) (rest := [.ref a_r]) S (c_X2_allNodes l E g_nodes g_made g_living g_age a_g_oneEnd a_g_otherEnd a_g_weights a_g_alive a_g_joined a_g (f_X2_allNodes g_nodes) rfl _) (cwV 0 S.2.2.2.2 gX10_refresh_X2_allNodes rfl rfl rfl (by decide +kernel) (rm_le (by omega) (by decide))) (preV (q := (RX2, TX2, 9)) hN hw [1] rfl rfl rfl rfl) rfl rfl hl.1 rfl (lv_room (Nat.le_of_ble_eq_true rfl)) dX10_refresh_36 ⟨Nat.le_refl _, Nat.le_refl _⟩) hw hA [1] [0, 2, 3, 4, 5, 6, 7, 8, 9, 10] rfl rfl rfl (by decide) (fun H locs hw => ?_)
    have hw : Wo E A s [oC a_w 10 [.ref a_g, .ref a_c, .ref a_w_known, .ref a_w_found, .ref a_w_sets, .int g_age], aI E a_g_joined 16 g_joined, oC a_c 0 [.ref a_r, .ref a_c_gain, .ref a_c_mark, .ref a_c_bestGain, .ref a_c_bestMark], oC a_r 7 [.ref a_r_slots, .ref a_r_slotOf, .ref a_r_sets, .ref a_r_later, .ref a_r_laters, .int r_mayLeave, .int r_amount], aI E a_r_slots 4096 r_slots, aI E a_r_slotOf 2584 r_slotOf, aI E a_r_sets 2584 r_sets, aI E a_r_later 256 r_later, aI E a_r_laters 16 r_laters, aZ E a_w_known 5 w_known, oC a_g 2 [.int g_nodes, .int g_made, .int g_living, .int g_age, .ref a_g_oneEnd, .ref a_g_otherEnd, .ref a_g_weights, .ref a_g_alive, .ref a_g_joined]] H _ := hw
    refine lv_aload_n S.1 S.2.1 dX10_refresh_39 rfl (lv_at hl 0 rfl) ?_
    refine g_get S hN hw (C := RX10) (T := TX10) (N := 6) (ci := 10) (v := .ref a_g) 0 0 iX10 k33 dX10_refresh_40 rfl rfl (by decide) rfl ?_
    refine g_getN S hN hw (C := RX2) (T := TX2) (N := 9) (ci := 2) (v := .ref a_g_joined) 10 8 iX2 w48 dX10_refresh_43 rfl rfl (by decide) rfl ?_
    refine lv_iconst (v := 1) S.1 S.2.1 dX10_refresh_46 (by decide) ?_
    obtain ⟨r_mayLeave_4, r_amount_5, r_slots_6, r_slotOf_7, r_sets_8, r_later_9, r_laters_10, hc_10, hf⟩ := bd7_s hf
    refine g_callv (wc := [oC a_r 7 [.ref a_r_slots, .ref a_r_slotOf, .ref a_r_sets, .ref a_r_later, .ref a_r_laters, .int r_mayLeave, .int r_amount], aI E a_r_slots 4096 r_slots, aI E a_r_slotOf 2584 r_slotOf, aI E a_r_sets 2584 r_sets, aI E a_r_later 256 r_later, aI E a_r_laters 16 r_laters, aI E a_g_joined 16 g_joined]) (wr := [oC a_w 10 [.ref a_g, .ref a_c, .ref a_w_known, .ref a_w_found, .ref a_w_sets, .int g_age], oC a_c 0 [.ref a_r, .ref a_c_gain, .ref a_c_mark, .ref a_c_bestGain, .ref a_c_bestMark], aZ E a_w_known 5 w_known, oC a_g 2 [.int g_nodes, .int g_made, .int g_living, .int g_age, .ref a_g_oneEnd, .ref a_g_otherEnd, .ref a_g_weights, .ref a_g_alive, .ref a_g_joined]]) (w1 := [oC a_r 7 [.ref a_r_slots, .ref a_r_slotOf, .ref a_r_sets, .ref a_r_later, .ref a_r_laters, .int r_mayLeave_4, .int r_amount_5], aI E a_r_slots 4096 r_slots_6, aI E a_r_slotOf 2584 r_slotOf_7, aI E a_r_sets 2584 r_sets_8, aI E a_r_later 256 r_later_9, aI E a_r_laters 16 r_laters_10, aI E a_g_joined 16 g_joined]) (va_runV (As := [.int (f_X2_allNodes g_nodes), .ref a_g_joined, .int 1]) (rest := []) S (c_X7_build l E F r_slots a_r_slots r_slotOf a_r_slotOf r_sets a_r_sets r_later a_r_later r_laters a_r_laters r_mayLeave r_amount a_r (f_X2_allNodes g_nodes) a_g_joined g_joined 16 1 r_mayLeave_4 r_amount_5 r_slots_6 r_slotOf_7 r_sets_8 r_later_9 r_laters_10 hc_10 _) (cwV 3 S.2.2.2.2 gX10_refresh_X7_build rfl rfl rfl (by decide +kernel) (rm_le (by omega) (by decide))) (preV (q := (RX7, TX7, 7)) hN hw [3, 4, 5, 6, 7, 8, 1] rfl rfl rfl rfl) rfl rfl hl.1 rfl (lv_room (Nat.le_of_ble_eq_true rfl)) dX10_refresh_47 ⟨Nat.le_refl _, Nat.le_refl _⟩) hw hA [3, 4, 5, 6, 7, 8, 1] [0, 2, 9, 10] rfl rfl rfl (by decide) (fun H locs hw => ?_)
    have hw : Wo E A s [oC a_w 10 [.ref a_g, .ref a_c, .ref a_w_known, .ref a_w_found, .ref a_w_sets, .int g_age], oC a_c 0 [.ref a_r, .ref a_c_gain, .ref a_c_mark, .ref a_c_bestGain, .ref a_c_bestMark], aZ E a_w_known 5 w_known, oC a_g 2 [.int g_nodes, .int g_made, .int g_living, .int g_age, .ref a_g_oneEnd, .ref a_g_otherEnd, .ref a_g_weights, .ref a_g_alive, .ref a_g_joined], oC a_r 7 [.ref a_r_slots, .ref a_r_slotOf, .ref a_r_sets, .ref a_r_later, .ref a_r_laters, .int r_mayLeave_4, .int r_amount_5], aI E a_r_slots 4096 r_slots_6, aI E a_r_slotOf 2584 r_slotOf_7, aI E a_r_sets 2584 r_sets_8, aI E a_r_later 256 r_later_9, aI E a_r_laters 16 r_laters_10, aI E a_g_joined 16 g_joined] H _ := hw
    refine lv_iconst (v := 0) S.1 S.2.1 dX10_refresh_50 (by decide) ?_
    refine lv_istore_n (lv' := [(1, .int 0), (0, .ref a_w)]) S.1 S.2.1 dX10_refresh_51 rfl hl (by decide) rfl (fun ls hl => ?_)
    obtain ⟨kk_70_12, ekk_70_12, hf⟩ := jn_s hf
    have hJ_kk_70_12 : ∀ (w_known_12 : Nat → Int32) (H : Heap) (locs : List Loc) (ls : Array Slot), Wo E A s [oC a_w 10 [.ref a_g, .ref a_c, .ref a_w_known, .ref a_w_found, .ref a_w_sets, .int g_age], oC a_c 0 [.ref a_r, .ref a_c_gain, .ref a_c_mark, .ref a_c_bestGain, .ref a_c_bestMark], aZ E a_w_known 5 w_known_12, oC a_g 2 [.int g_nodes, .int g_made, .int g_living, .int g_age, .ref a_g_oneEnd, .ref a_g_otherEnd, .ref a_g_weights, .ref a_g_alive, .ref a_g_joined], oC a_r 7 [.ref a_r_slots, .ref a_r_slotOf, .ref a_r_sets, .ref a_r_later, .ref a_r_laters, .int r_mayLeave_4, .int r_amount_5], aI E a_r_slots 4096 r_slots_6, aI E a_r_slotOf 2584 r_slotOf_7, aI E a_r_sets 2584 r_sets_8, aI E a_r_later 256 r_later_9, aI E a_r_laters 16 r_laters_10, aI E a_g_joined 16 g_joined] H locs → lv_has ls 2 [] → kk_70_12 w_known_12 = some (u_w_age, u_r_mayLeave, u_r_amount, u_r_slots, u_r_slotOf, u_r_sets, u_r_later, u_r_laters, u_w_known) → W p l e (Rm 22) s m (([.ref a_w] : List Value).toArray) below meth c H locs 0 0 Q (F0 m 70 ls []) := by
      intro w_known_12 H locs ls hw hl hf
      rw [ekk_70_12] at hf
      cases hf
      exact hE _ _ _ _ (hw.sub [0, 3, 10, 1, 4, 5, 6, 7, 8, 9, 2] rfl rfl) dX10_refresh_70
    have hL_52_17 : ∀ (n : Nat) (v1_14 : Int32) (w_known_15 : Nat → Int32) (H : Heap) (locs : List Loc) (ls : Array Slot), Wo E A s [oC a_w 10 [.ref a_g, .ref a_c, .ref a_w_known, .ref a_w_found, .ref a_w_sets, .int g_age], oC a_c 0 [.ref a_r, .ref a_c_gain, .ref a_c_mark, .ref a_c_bestGain, .ref a_c_bestMark], aZ E a_w_known 5 w_known_15, oC a_g 2 [.int g_nodes, .int g_made, .int g_living, .int g_age, .ref a_g_oneEnd, .ref a_g_otherEnd, .ref a_g_weights, .ref a_g_alive, .ref a_g_joined], oC a_r 7 [.ref a_r_slots, .ref a_r_slotOf, .ref a_r_sets, .ref a_r_later, .ref a_r_laters, .int r_mayLeave_4, .int r_amount_5], aI E a_r_slots 4096 r_slots_6, aI E a_r_slotOf 2584 r_slotOf_7, aI E a_r_sets 2584 r_sets_8, aI E a_r_later 256 r_later_9, aI E a_r_laters 16 r_laters_10, aI E a_g_joined 16 g_joined] H locs → lv_has ls 2 [(0, .ref a_w), (1, .int v1_14)] → f_X10_refresh_L52 kk_70_12 n v1_14 w_known_15 = some (u_w_age, u_r_mayLeave, u_r_amount, u_r_slots, u_r_slotOf, u_r_sets, u_r_later, u_r_laters, u_w_known) → W p l e (Rm 22) s m (([.ref a_w] : List Value).toArray) below meth c H locs 0 0 Q (F0 m 52 ls []) := by
      intro n
      induction n with
      | zero => intro v1_14 w_known_15 H locs ls hw hl hf; unfold f_X10_refresh_L52 at hf; cases hf
      | succ n ih =>
        intro v1_14 w_known_15 H locs ls hw hl hf
        unfold f_X10_refresh_L52 at hf
        refine lv_iload_n S.1 S.2.1 dX10_refresh_52 rfl (lv_at hl 1 rfl) ?_
        refine lv_iconst (v := 4) S.1 S.2.1 dX10_refresh_53 (by decide) ?_
        refine lv_icmp_gt (tgt := 70) S.1 S.2.1 dX10_refresh_54 (by decide) (fun h_16 => ?_) (fun h_16 => ?_)
        · replace hf := if_t h_16 hf
          exact hJ_kk_70_12 w_known_15 _ _ _ hw (lv_sub hl [] rfl) hf
        · replace hf := if_f h_16 hf
          refine lv_aload_n S.1 S.2.1 dX10_refresh_57 rfl (lv_at hl 0 rfl) ?_
          refine g_get S hN hw (C := RX10) (T := TX10) (N := 6) (ci := 10) (v := .ref a_w_known) 0 2 iX10 k18 dX10_refresh_58 rfl rfl (by decide) rfl ?_
          refine lv_iload_n S.1 S.2.1 dX10_refresh_61 rfl (lv_at hl 1 rfl) ?_
          refine lv_iconst (v := 0) S.1 S.2.1 dX10_refresh_62 (by decide) ?_
          obtain ⟨hi_16, hf⟩ := wr_s hf
          refine g_zast (n := 5) (f := w_known_15) (w1 := [oC a_w 10 [.ref a_g, .ref a_c, .ref a_w_known, .ref a_w_found, .ref a_w_sets, .int g_age], oC a_c 0 [.ref a_r, .ref a_c_gain, .ref a_c_mark, .ref a_c_bestGain, .ref a_c_bestMark], aZ E a_w_known 5 (va_up w_known_15 (v1_14 : Int32).toNatClampNeg 0), oC a_g 2 [.int g_nodes, .int g_made, .int g_living, .int g_age, .ref a_g_oneEnd, .ref a_g_otherEnd, .ref a_g_weights, .ref a_g_alive, .ref a_g_joined], oC a_r 7 [.ref a_r_slots, .ref a_r_slotOf, .ref a_r_sets, .ref a_r_later, .ref a_r_laters, .int r_mayLeave_4, .int r_amount_5], aI E a_r_slots 4096 r_slots_6, aI E a_r_slotOf 2584 r_slotOf_7, aI E a_r_sets 2584 r_sets_8, aI E a_r_later 256 r_later_9, aI E a_r_laters 16 r_laters_10, aI E a_g_joined 16 g_joined]) S hN hw 2 hi_16 dX10_refresh_63 rfl rfl (fun H locs hw => ?_)
          generalize va_up w_known_15 (v1_14 : Int32).toNatClampNeg 0 = w_known_17 at hf hw
          refine lv_iinc (v := (v1_14 + 1)) (lv' := [(1, .int (v1_14 + 1)), (0, .ref a_w)]) S.1 S.2.1 dX10_refresh_64 hl (k := 1) rfl rfl (by decide) rfl (fun ls hl => ?_)
          refine lv_goto (tgt := 52) S.1 S.2.1 dX10_refresh_67 (by decide) ?_
          exact ih (v1_14 + 1) w_known_17 _ _ _ hw (lv_sub hl [1, 0] rfl) hf
    exact hL_52_17 F 0 w_known _ _ _ hw (lv_sub hl [1, 0] rfl) hf
def f_X10_offerArcs_L9 (g_made : Int32) (g_oneEnd : Nat → Int32) (g_otherEnd : Nat → Int32) (g_weights : Nat → Int32) (g_alive : Nat → Int32) (p1 : Int32) (kk_82_5 : (Nat → Int32) → (Nat → Int64) → Option ((Nat → Int32) × (Nat → Int64))) : Nat → Int32 → (Nat → Int32) → (Nat → Int64) → Option ((Nat → Int32) × (Nat → Int64))
  | 0, _, _, _ => none
  | n + 1, v2_7, c_gain_8, c_mark_9 => (if g_made ≤ v2_7 then (kk_82_5 c_gain_8 c_mark_9) else rd 60 g_alive v2_7 (fun y_11 => (if y_11 = 0 then (f_X10_offerArcs_L9 g_made g_oneEnd g_otherEnd g_weights g_alive p1 kk_82_5 n (v2_7 + 1) c_gain_8 c_mark_9) else rd 60 g_weights v2_7 (fun y_13 => rd 60 g_oneEnd v2_7 (fun y_16 => rd 60 g_otherEnd v2_7 (fun y_17 => bd2 (f_X0_offer y_16 y_17 (f_X0_gainOf p1 y_13) (f_X11_markOf v2_7) c_gain_8 c_mark_9) (fun c_gain_20 c_mark_21 => (f_X10_offerArcs_L9 g_made g_oneEnd g_otherEnd g_weights g_alive p1 kk_82_5 n (v2_7 + 1) c_gain_20 c_mark_21))))))))
def f_X10_offerArcs (F : Nat) (p1 : Int32) (g_made : Int32) (g_oneEnd : Nat → Int32) (g_otherEnd : Nat → Int32) (g_weights : Nat → Int32) (g_alive : Nat → Int32) (c_gain : Nat → Int32) (c_mark : Nat → Int64) : Option ((Nat → Int32) × (Nat → Int64)) :=
  bd2 (f_X0_forgetOffers F c_gain c_mark) (fun c_gain_1 c_mark_2 => (jn (fun (c_gain_4 : Nat → Int32) (c_mark_5 : Nat → Int64) => some (c_gain_4, c_mark_5)) (fun kk_82_5 => (f_X10_offerArcs_L9 g_made g_oneEnd g_otherEnd g_weights g_alive p1 kk_82_5 F 0 c_gain_1 c_mark_2))))
set_option maxHeartbeats 4000000 in
set_option maxRecDepth 100000 in
theorem c_X10_offerArcs (l : Launch) (E : Ev) (F : Nat) (g_nodes : Int32) (g_made : Int32) (g_living : Int32) (g_age : Int32) (g_oneEnd : Nat → Int32) (a_g_oneEnd : Nat) (g_otherEnd : Nat → Int32) (a_g_otherEnd : Nat) (g_weights : Nat → Int32) (a_g_weights : Nat) (g_alive : Nat → Int32) (a_g_alive : Nat) (a_g_joined : Nat) (a_g : Nat) (a_r : Nat) (c_gain : Nat → Int32) (a_c_gain : Nat) (c_mark : Nat → Int64) (a_c_mark : Nat) (a_c_bestGain : Nat) (a_c_bestMark : Nat) (a_c : Nat) (a_w_known : Nat) (a_w_found : Nat) (a_w_sets : Nat) (w_age : Int32) (a_w : Nat) (p1 : Int32) (u_c_gain : Nat → Int32) (u_c_mark : Nat → Int64) (hf : f_X10_offerArcs F p1 g_made g_oneEnd g_otherEnd g_weights g_alive c_gain c_mark = some (u_c_gain, u_c_mark)) :
    CtV l yX10_offerArcs wsX10_offerArcs (Rm 2) E [.ref a_w, .int p1] [oC a_w 10 [.ref a_g, .ref a_c, .ref a_w_known, .ref a_w_found, .ref a_w_sets, .int w_age], oC a_g 2 [.int g_nodes, .int g_made, .int g_living, .int g_age, .ref a_g_oneEnd, .ref a_g_otherEnd, .ref a_g_weights, .ref a_g_alive, .ref a_g_joined], aI E a_g_oneEnd 60 g_oneEnd, aI E a_g_otherEnd 60 g_otherEnd, aI E a_g_weights 60 g_weights, aZ E a_g_alive 60 g_alive, oC a_c 0 [.ref a_r, .ref a_c_gain, .ref a_c_mark, .ref a_c_bestGain, .ref a_c_bestMark], aI E a_c_gain 256 c_gain, aJ E a_c_mark 256 c_mark] [oC a_w 10 [.ref a_g, .ref a_c, .ref a_w_known, .ref a_w_found, .ref a_w_sets, .int w_age], oC a_g 2 [.int g_nodes, .int g_made, .int g_living, .int g_age, .ref a_g_oneEnd, .ref a_g_otherEnd, .ref a_g_weights, .ref a_g_alive, .ref a_g_joined], aI E a_g_oneEnd 60 g_oneEnd, aI E a_g_otherEnd 60 g_otherEnd, aI E a_g_weights 60 g_weights, aZ E a_g_alive 60 g_alive, oC a_c 0 [.ref a_r, .ref a_c_gain, .ref a_c_mark, .ref a_c_bestGain, .ref a_c_bestMark], aI E a_c_gain 256 u_c_gain, aJ E a_c_mark 256 u_c_mark] := by
  refine ofV (cc := cX10_offerArcs) (maxL := 4) (own := RX10) rfl rfl (by decide) rfl rfl ?_
  intro p e s m below meth c A ls Q S hnm hN hw hA hl0 hE
  have hl : lv_has ls 4 [(0, .ref a_w), (1, .int p1)] := hl0 _ (lv_entry [.ref a_w, .int p1] (n := 4) (Nat.le_of_ble_eq_true rfl))
  have iX10 : ∀ w ∈ wsX100, w ∈ wsX10_offerArcs := by decide +kernel
  have iX2 : ∀ w ∈ wsX20, w ∈ wsX10_offerArcs := by decide +kernel
  have k12 := S.2.2.2.2 (.fieldLink RX10 12 "PairMatching$Ways" "chooser" "LPairMatching$Chooser;") (by decide +kernel)
  have k33 := S.2.2.2.2 (.fieldLink RX10 33 "PairMatching$Ways" "graph" "LPairMatching$Graph;") (by decide +kernel)
  have kIX11 := S.2.2.2.2 (.initialized RX11) (by decide +kernel)
  have kSX11_markOf := S.2.2.2.2 (.static yX11_markOf) (by decide +kernel)
  have w101 : Cond.methodLinkNest RX10 101 yX11_markOf "PairMatching" ∈ nestW := List.mem_of_getElem? (i := 62) rfl
  have w82 : Cond.fieldLinkNest RX10 82 "PairMatching$Graph" "made" "I" "PairMatching" ∈ nestW := List.mem_of_getElem? (i := 10) rfl
  have w85 : Cond.fieldLinkNest RX10 85 "PairMatching$Graph" "alive" "[Z" "PairMatching" ∈ nestW := List.mem_of_getElem? (i := 31) rfl
  have w88 : Cond.fieldLinkNest RX10 88 "PairMatching$Graph" "weights" "[I" "PairMatching" ∈ nestW := List.mem_of_getElem? (i := 27) rfl
  have w95 : Cond.fieldLinkNest RX10 95 "PairMatching$Graph" "oneEnd" "[I" "PairMatching" ∈ nestW := List.mem_of_getElem? (i := 21) rfl
  have w98 : Cond.fieldLinkNest RX10 98 "PairMatching$Graph" "otherEnd" "[I" "PairMatching" ∈ nestW := List.mem_of_getElem? (i := 25) rfl
  unfold f_X10_offerArcs at hf
  refine lv_aload_n S.1 S.2.1 dX10_offerArcs_0 rfl (lv_at hl 0 rfl) ?_
  refine g_get S hN hw (C := RX10) (T := TX10) (N := 6) (ci := 10) (v := .ref a_c) 0 1 iX10 k12 dX10_offerArcs_1 rfl rfl (by decide) rfl ?_
  obtain ⟨c_gain_1, c_mark_2, hc_2, hf⟩ := bd2_s hf
  refine g_callv (wc := [oC a_c 0 [.ref a_r, .ref a_c_gain, .ref a_c_mark, .ref a_c_bestGain, .ref a_c_bestMark], aI E a_c_gain 256 c_gain, aJ E a_c_mark 256 c_mark]) (wr := [oC a_w 10 [.ref a_g, .ref a_c, .ref a_w_known, .ref a_w_found, .ref a_w_sets, .int w_age], oC a_g 2 [.int g_nodes, .int g_made, .int g_living, .int g_age, .ref a_g_oneEnd, .ref a_g_otherEnd, .ref a_g_weights, .ref a_g_alive, .ref a_g_joined], aI E a_g_oneEnd 60 g_oneEnd, aI E a_g_otherEnd 60 g_otherEnd, aI E a_g_weights 60 g_weights, aZ E a_g_alive 60 g_alive]) (w1 := [oC a_c 0 [.ref a_r, .ref a_c_gain, .ref a_c_mark, .ref a_c_bestGain, .ref a_c_bestMark], aI E a_c_gain 256 c_gain_1, aJ E a_c_mark 256 c_mark_2]) (va_runV (As := []) (rest := []) S (c_X0_forgetOffers l E F a_r c_gain a_c_gain c_mark a_c_mark a_c_bestGain a_c_bestMark a_c c_gain_1 c_mark_2 hc_2 _) (cwV 0 S.2.2.2.2 gX10_offerArcs_X0_forgetOffers rfl rfl rfl (by decide +kernel) (rm_le (by omega) (by decide))) (preV (q := (RX0, TX0, 5)) hN hw [6, 7, 8] rfl rfl rfl rfl) rfl rfl hl.1 rfl (lv_room (Nat.le_of_ble_eq_true rfl)) dX10_offerArcs_4 ⟨Nat.le_refl _, Nat.le_refl _⟩) hw hA [6, 7, 8] [0, 1, 2, 3, 4, 5] rfl rfl rfl (by decide) (fun H locs hw => ?_)
  have hw : Wo E A s [oC a_w 10 [.ref a_g, .ref a_c, .ref a_w_known, .ref a_w_found, .ref a_w_sets, .int w_age], oC a_g 2 [.int g_nodes, .int g_made, .int g_living, .int g_age, .ref a_g_oneEnd, .ref a_g_otherEnd, .ref a_g_weights, .ref a_g_alive, .ref a_g_joined], aI E a_g_oneEnd 60 g_oneEnd, aI E a_g_otherEnd 60 g_otherEnd, aI E a_g_weights 60 g_weights, aZ E a_g_alive 60 g_alive, oC a_c 0 [.ref a_r, .ref a_c_gain, .ref a_c_mark, .ref a_c_bestGain, .ref a_c_bestMark], aI E a_c_gain 256 c_gain_1, aJ E a_c_mark 256 c_mark_2] H _ := hw
  refine lv_iconst (v := 0) S.1 S.2.1 dX10_offerArcs_7 (by decide) ?_
  refine lv_istore_n (lv' := [(2, .int 0), (0, .ref a_w), (1, .int p1)]) S.1 S.2.1 dX10_offerArcs_8 rfl hl (by decide) rfl (fun ls hl => ?_)
  obtain ⟨kk_82_5, ekk_82_5, hf⟩ := jn_s hf
  have hJ_kk_82_5 : ∀ (c_gain_4 : Nat → Int32) (c_mark_5 : Nat → Int64) (H : Heap) (locs : List Loc) (ls : Array Slot), Wo E A s [oC a_w 10 [.ref a_g, .ref a_c, .ref a_w_known, .ref a_w_found, .ref a_w_sets, .int w_age], oC a_g 2 [.int g_nodes, .int g_made, .int g_living, .int g_age, .ref a_g_oneEnd, .ref a_g_otherEnd, .ref a_g_weights, .ref a_g_alive, .ref a_g_joined], aI E a_g_oneEnd 60 g_oneEnd, aI E a_g_otherEnd 60 g_otherEnd, aI E a_g_weights 60 g_weights, aZ E a_g_alive 60 g_alive, oC a_c 0 [.ref a_r, .ref a_c_gain, .ref a_c_mark, .ref a_c_bestGain, .ref a_c_bestMark], aI E a_c_gain 256 c_gain_4, aJ E a_c_mark 256 c_mark_5] H locs → lv_has ls 4 [] → kk_82_5 c_gain_4 c_mark_5 = some (u_c_gain, u_c_mark) → W p l e (Rm 2) s m (([.ref a_w, .int p1] : List Value).toArray) below meth c H locs 0 0 Q (F0 m 82 ls []) := by
    intro c_gain_4 c_mark_5 H locs ls hw hl hf
    rw [ekk_82_5] at hf
    cases hf
    exact hE _ _ _ _ hw dX10_offerArcs_82
  have hL_9_22 : ∀ (n : Nat) (v2_7 : Int32) (c_gain_8 : Nat → Int32) (c_mark_9 : Nat → Int64) (H : Heap) (locs : List Loc) (ls : Array Slot), Wo E A s [oC a_w 10 [.ref a_g, .ref a_c, .ref a_w_known, .ref a_w_found, .ref a_w_sets, .int w_age], oC a_g 2 [.int g_nodes, .int g_made, .int g_living, .int g_age, .ref a_g_oneEnd, .ref a_g_otherEnd, .ref a_g_weights, .ref a_g_alive, .ref a_g_joined], aI E a_g_oneEnd 60 g_oneEnd, aI E a_g_otherEnd 60 g_otherEnd, aI E a_g_weights 60 g_weights, aZ E a_g_alive 60 g_alive, oC a_c 0 [.ref a_r, .ref a_c_gain, .ref a_c_mark, .ref a_c_bestGain, .ref a_c_bestMark], aI E a_c_gain 256 c_gain_8, aJ E a_c_mark 256 c_mark_9] H locs → lv_has ls 4 [(0, .ref a_w), (1, .int p1), (2, .int v2_7)] → f_X10_offerArcs_L9 g_made g_oneEnd g_otherEnd g_weights g_alive p1 kk_82_5 n v2_7 c_gain_8 c_mark_9 = some (u_c_gain, u_c_mark) → W p l e (Rm 2) s m (([.ref a_w, .int p1] : List Value).toArray) below meth c H locs 0 0 Q (F0 m 9 ls []) := by
    intro n
    induction n with
    | zero => intro v2_7 c_gain_8 c_mark_9 H locs ls hw hl hf; unfold f_X10_offerArcs_L9 at hf; cases hf
    | succ n ih =>
      intro v2_7 c_gain_8 c_mark_9 H locs ls hw hl hf
      unfold f_X10_offerArcs_L9 at hf
      refine lv_iload_n S.1 S.2.1 dX10_offerArcs_9 rfl (lv_at hl 2 rfl) ?_
      refine lv_aload_n S.1 S.2.1 dX10_offerArcs_10 rfl (lv_at hl 0 rfl) ?_
      refine g_get S hN hw (C := RX10) (T := TX10) (N := 6) (ci := 10) (v := .ref a_g) 0 0 iX10 k33 dX10_offerArcs_11 rfl rfl (by decide) rfl ?_
      refine g_getN S hN hw (C := RX2) (T := TX2) (N := 9) (ci := 2) (v := .int g_made) 1 1 iX2 w82 dX10_offerArcs_14 rfl rfl (by decide) rfl ?_
      refine lv_icmp_ge (tgt := 82) S.1 S.2.1 dX10_offerArcs_17 (by decide) (fun h_10 => ?_) (fun h_10 => ?_)
      · replace hf := if_t h_10 hf
        exact hJ_kk_82_5 c_gain_8 c_mark_9 _ _ _ hw (lv_sub hl [] rfl) hf
      · replace hf := if_f h_10 hf
        refine lv_aload_n S.1 S.2.1 dX10_offerArcs_20 rfl (lv_at hl 0 rfl) ?_
        refine g_get S hN hw (C := RX10) (T := TX10) (N := 6) (ci := 10) (v := .ref a_g) 0 0 iX10 k33 dX10_offerArcs_21 rfl rfl (by decide) rfl ?_
        refine g_getN S hN hw (C := RX2) (T := TX2) (N := 9) (ci := 2) (v := .ref a_g_alive) 1 7 iX2 w85 dX10_offerArcs_24 rfl rfl (by decide) rfl ?_
        refine lv_iload_n S.1 S.2.1 dX10_offerArcs_27 rfl (lv_at hl 2 rfl) ?_
        obtain ⟨hi_10, hf⟩ := rd_s hf
        refine g_zald (n := 60) (f := g_alive) S hN hw 5 hi_10 dX10_offerArcs_28 rfl ?_
        generalize g_alive (v2_7 : Int32).toNatClampNeg = y_11 at hf ⊢
        refine lv_if_eq (tgt := 76) S.1 S.2.1 dX10_offerArcs_29 (by decide) (fun h_12 => ?_) (fun h_12 => ?_)
        · replace hf := if_t h_12 hf
          refine lv_iinc (v := (v2_7 + 1)) (lv' := [(2, .int (v2_7 + 1)), (0, .ref a_w), (1, .int p1)]) S.1 S.2.1 dX10_offerArcs_76 hl (k := 2) rfl rfl (by decide) rfl (fun ls hl => ?_)
          refine lv_goto (tgt := 9) S.1 S.2.1 dX10_offerArcs_79 (by decide) ?_
          exact ih (v2_7 + 1) c_gain_8 c_mark_9 _ _ _ hw (lv_sub hl [1, 2, 0] rfl) hf
        · replace hf := if_f h_12 hf
          refine lv_iload_n S.1 S.2.1 dX10_offerArcs_32 rfl (lv_at hl 1 rfl) ?_
          refine lv_aload_n S.1 S.2.1 dX10_offerArcs_33 rfl (lv_at hl 0 rfl) ?_
          refine g_get S hN hw (C := RX10) (T := TX10) (N := 6) (ci := 10) (v := .ref a_g) 0 0 iX10 k33 dX10_offerArcs_34 rfl rfl (by decide) rfl ?_
          refine g_getN S hN hw (C := RX2) (T := TX2) (N := 9) (ci := 2) (v := .ref a_g_weights) 1 6 iX2 w88 dX10_offerArcs_37 rfl rfl (by decide) rfl ?_
          refine lv_iload_n S.1 S.2.1 dX10_offerArcs_40 rfl (lv_at hl 2 rfl) ?_
          obtain ⟨hi_12, hf⟩ := rd_s hf
          refine g_iald (n := 60) (f := g_weights) S hN hw 4 hi_12 dX10_offerArcs_41 rfl ?_
          generalize g_weights (v2_7 : Int32).toNatClampNeg = y_13 at hf ⊢
          refine g_calli (r := (f_X0_gainOf p1 y_13)) (wc := []) (wr := [oC a_w 10 [.ref a_g, .ref a_c, .ref a_w_known, .ref a_w_found, .ref a_w_sets, .int w_age], oC a_g 2 [.int g_nodes, .int g_made, .int g_living, .int g_age, .ref a_g_oneEnd, .ref a_g_otherEnd, .ref a_g_weights, .ref a_g_alive, .ref a_g_joined], aI E a_g_oneEnd 60 g_oneEnd, aI E a_g_otherEnd 60 g_otherEnd, aI E a_g_weights 60 g_weights, aZ E a_g_alive 60 g_alive, oC a_c 0 [.ref a_r, .ref a_c_gain, .ref a_c_mark, .ref a_c_bestGain, .ref a_c_bestMark], aI E a_c_gain 256 c_gain_8, aJ E a_c_mark 256 c_mark_9]) (w1 := []) (va_runS (As := [.int p1, .int y_13]) (rest := []) S (c_X0_gainOf l E p1 y_13 (f_X0_gainOf p1 y_13) rfl _) (va_cwS 2 S.2.2.2.2 gX10_offerArcs_X0_gainOf rfl rfl rfl (by decide +kernel) (rm_le (by omega) (by decide))) (preS hN hw [] rfl rfl) rfl rfl hl.1 rfl (lv_room (Nat.le_of_ble_eq_true rfl)) dX10_offerArcs_42 ⟨Nat.le_refl _, Nat.le_refl _⟩) hw hA [] [0, 1, 2, 3, 4, 5, 6, 7, 8] rfl rfl rfl (by decide) (fun H locs hw => ?_)
          have hw : Wo E A s [oC a_w 10 [.ref a_g, .ref a_c, .ref a_w_known, .ref a_w_found, .ref a_w_sets, .int w_age], oC a_g 2 [.int g_nodes, .int g_made, .int g_living, .int g_age, .ref a_g_oneEnd, .ref a_g_otherEnd, .ref a_g_weights, .ref a_g_alive, .ref a_g_joined], aI E a_g_oneEnd 60 g_oneEnd, aI E a_g_otherEnd 60 g_otherEnd, aI E a_g_weights 60 g_weights, aZ E a_g_alive 60 g_alive, oC a_c 0 [.ref a_r, .ref a_c_gain, .ref a_c_mark, .ref a_c_bestGain, .ref a_c_bestMark], aI E a_c_gain 256 c_gain_8, aJ E a_c_mark 256 c_mark_9] H _ := hw
          refine lv_istore_n (lv' := [(3, .int (f_X0_gainOf p1 y_13)), (0, .ref a_w), (1, .int p1), (2, .int v2_7)]) S.1 S.2.1 dX10_offerArcs_45 rfl hl (by decide) rfl (fun ls hl => ?_)
          refine lv_aload_n S.1 S.2.1 dX10_offerArcs_46 rfl (lv_at hl 1 rfl) ?_
          refine g_get S hN hw (C := RX10) (T := TX10) (N := 6) (ci := 10) (v := .ref a_c) 0 1 iX10 k12 dX10_offerArcs_47 rfl rfl (by decide) rfl ?_
          refine lv_aload_n S.1 S.2.1 dX10_offerArcs_50 rfl (lv_at hl 1 rfl) ?_
          refine g_get S hN hw (C := RX10) (T := TX10) (N := 6) (ci := 10) (v := .ref a_g) 0 0 iX10 k33 dX10_offerArcs_51 rfl rfl (by decide) rfl ?_
          refine g_getN S hN hw (C := RX2) (T := TX2) (N := 9) (ci := 2) (v := .ref a_g_oneEnd) 1 4 iX2 w95 dX10_offerArcs_54 rfl rfl (by decide) rfl ?_
          refine lv_iload_n S.1 S.2.1 dX10_offerArcs_57 rfl (lv_at hl 3 rfl) ?_
          obtain ⟨hi_15, hf⟩ := rd_s hf
          refine g_iald (n := 60) (f := g_oneEnd) S hN hw 2 hi_15 dX10_offerArcs_58 rfl ?_
          generalize g_oneEnd (v2_7 : Int32).toNatClampNeg = y_16 at hf ⊢
          refine lv_aload_n S.1 S.2.1 dX10_offerArcs_59 rfl (lv_at hl 1 rfl) ?_
          refine g_get S hN hw (C := RX10) (T := TX10) (N := 6) (ci := 10) (v := .ref a_g) 0 0 iX10 k33 dX10_offerArcs_60 rfl rfl (by decide) rfl ?_
          refine g_getN S hN hw (C := RX2) (T := TX2) (N := 9) (ci := 2) (v := .ref a_g_otherEnd) 1 5 iX2 w98 dX10_offerArcs_63 rfl rfl (by decide) rfl ?_
          refine lv_iload_n S.1 S.2.1 dX10_offerArcs_66 rfl (lv_at hl 3 rfl) ?_
          obtain ⟨hi_16, hf⟩ := rd_s hf
          refine g_iald (n := 60) (f := g_otherEnd) S hN hw 3 hi_16 dX10_offerArcs_67 rfl ?_
          generalize g_otherEnd (v2_7 : Int32).toNatClampNeg = y_17 at hf ⊢
          refine lv_iload_n S.1 S.2.1 dX10_offerArcs_68 rfl (lv_at hl 0 rfl) ?_
          refine lv_iload_n S.1 S.2.1 dX10_offerArcs_69 rfl (lv_at hl 3 rfl) ?_
          refine g_calll (r := (f_X11_markOf v2_7)) (wc := []) (wr := [oC a_w 10 [.ref a_g, .ref a_c, .ref a_w_known, .ref a_w_found, .ref a_w_sets, .int w_age], oC a_g 2 [.int g_nodes, .int g_made, .int g_living, .int g_age, .ref a_g_oneEnd, .ref a_g_otherEnd, .ref a_g_weights, .ref a_g_alive, .ref a_g_joined], aI E a_g_oneEnd 60 g_oneEnd, aI E a_g_otherEnd 60 g_otherEnd, aI E a_g_weights 60 g_weights, aZ E a_g_alive 60 g_alive, oC a_c 0 [.ref a_r, .ref a_c_gain, .ref a_c_mark, .ref a_c_bestGain, .ref a_c_bestMark], aI E a_c_gain 256 c_gain_8, aJ E a_c_mark 256 c_mark_9]) (w1 := []) (va_runSN (As := [.int v2_7]) (rest := [.int (f_X0_gainOf p1 y_13), .int y_17, .int y_16, .ref a_c]) S (c_X11_markOf l E v2_7 (f_X11_markOf v2_7) rfl _) ⟨(va_cnB 1 S.2.2.2.2 gX10_offerArcs_X11_markOf_n101 rfl rfl rfl (hN.2 _ w101) kIX11 (by decide +kernel) (rm_le (by omega) (by decide))), kSX11_markOf, trivial⟩ (preS hN hw [] rfl rfl) rfl rfl hl.1 rfl (lv_room (Nat.le_of_ble_eq_true rfl)) dX10_offerArcs_70 ⟨Nat.le_refl _, Nat.le_refl _⟩) hw hA [] [0, 1, 2, 3, 4, 5, 6, 7, 8] rfl rfl rfl (by decide) (fun H locs hw => ?_)
          have hw : Wo E A s [oC a_w 10 [.ref a_g, .ref a_c, .ref a_w_known, .ref a_w_found, .ref a_w_sets, .int w_age], oC a_g 2 [.int g_nodes, .int g_made, .int g_living, .int g_age, .ref a_g_oneEnd, .ref a_g_otherEnd, .ref a_g_weights, .ref a_g_alive, .ref a_g_joined], aI E a_g_oneEnd 60 g_oneEnd, aI E a_g_otherEnd 60 g_otherEnd, aI E a_g_weights 60 g_weights, aZ E a_g_alive 60 g_alive, oC a_c 0 [.ref a_r, .ref a_c_gain, .ref a_c_mark, .ref a_c_bestGain, .ref a_c_bestMark], aI E a_c_gain 256 c_gain_8, aJ E a_c_mark 256 c_mark_9] H _ := hw
          obtain ⟨c_gain_20, c_mark_21, hc_21, hf⟩ := bd2_s hf
          refine g_callv (wc := [oC a_c 0 [.ref a_r, .ref a_c_gain, .ref a_c_mark, .ref a_c_bestGain, .ref a_c_bestMark], aI E a_c_gain 256 c_gain_8, aJ E a_c_mark 256 c_mark_9]) (wr := [oC a_w 10 [.ref a_g, .ref a_c, .ref a_w_known, .ref a_w_found, .ref a_w_sets, .int w_age], oC a_g 2 [.int g_nodes, .int g_made, .int g_living, .int g_age, .ref a_g_oneEnd, .ref a_g_otherEnd, .ref a_g_weights, .ref a_g_alive, .ref a_g_joined], aI E a_g_oneEnd 60 g_oneEnd, aI E a_g_otherEnd 60 g_otherEnd, aI E a_g_weights 60 g_weights, aZ E a_g_alive 60 g_alive]) (w1 := [oC a_c 0 [.ref a_r, .ref a_c_gain, .ref a_c_mark, .ref a_c_bestGain, .ref a_c_bestMark], aI E a_c_gain 256 c_gain_20, aJ E a_c_mark 256 c_mark_21]) (va_runV (As := [.int y_16, .int y_17, .int (f_X0_gainOf p1 y_13), .long (f_X11_markOf v2_7)]) (rest := []) S (c_X0_offer l E a_r c_gain_8 a_c_gain c_mark_9 a_c_mark a_c_bestGain a_c_bestMark a_c y_16 y_17 (f_X0_gainOf p1 y_13) (f_X11_markOf v2_7) c_gain_20 c_mark_21 hc_21 _) (cwV 4 S.2.2.2.2 gX10_offerArcs_X0_offer rfl rfl rfl (by decide +kernel) (rm_le (by omega) (by decide))) (preV (q := (RX0, TX0, 5)) hN hw [6, 7, 8] rfl rfl rfl rfl) rfl rfl hl.1 rfl (lv_room (Nat.le_of_ble_eq_true rfl)) dX10_offerArcs_73 ⟨Nat.le_refl _, Nat.le_refl _⟩) hw hA [6, 7, 8] [0, 1, 2, 3, 4, 5] rfl rfl rfl (by decide) (fun H locs hw => ?_)
          have hw : Wo E A s [oC a_w 10 [.ref a_g, .ref a_c, .ref a_w_known, .ref a_w_found, .ref a_w_sets, .int w_age], oC a_g 2 [.int g_nodes, .int g_made, .int g_living, .int g_age, .ref a_g_oneEnd, .ref a_g_otherEnd, .ref a_g_weights, .ref a_g_alive, .ref a_g_joined], aI E a_g_oneEnd 60 g_oneEnd, aI E a_g_otherEnd 60 g_otherEnd, aI E a_g_weights 60 g_weights, aZ E a_g_alive 60 g_alive, oC a_c 0 [.ref a_r, .ref a_c_gain, .ref a_c_mark, .ref a_c_bestGain, .ref a_c_bestMark], aI E a_c_gain 256 c_gain_20, aJ E a_c_mark 256 c_mark_21] H _ := hw
          refine lv_iinc (v := (v2_7 + 1)) (lv' := [(2, .int (v2_7 + 1)), (3, .int (f_X0_gainOf p1 y_13)), (0, .ref a_w), (1, .int p1)]) S.1 S.2.1 dX10_offerArcs_76 hl (k := 3) rfl rfl (by decide) rfl (fun ls hl => ?_)
          refine lv_goto (tgt := 9) S.1 S.2.1 dX10_offerArcs_79 (by decide) ?_
          exact ih (v2_7 + 1) c_gain_20 c_mark_21 _ _ _ hw (lv_sub hl [2, 3, 0] rfl) hf
  exact hL_9_22 F 0 c_gain_1 c_mark_2 _ _ _ hw (lv_sub hl [1, 2, 0] rfl) hf
