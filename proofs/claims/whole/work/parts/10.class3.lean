def f_X5_number_L2 (q_amount : Int32) (p1 : Int32) (kk_32_1 : (Nat → Int32) → Option (Int32 × (Nat → Int32))) : Nat → Int32 → (Nat → Int32) → Option (Int32 × (Nat → Int32))
  | 0, _, _ => none
  | n + 1, v2_3, q_part_4 => (if 16 ≤ v2_3 then (kk_32_1 q_part_4) else (if (f_X11_has p1 v2_3) = 0 then (f_X5_number_L2 q_amount p1 kk_32_1 n (v2_3 + 1) q_part_4) else wr 16 q_part_4 v2_3 q_amount (fun q_part_9 => (f_X5_number_L2 q_amount p1 kk_32_1 n (v2_3 + 1) q_part_9))))
def f_X5_number (F : Nat) (p1 : Int32) (q_part : Nat → Int32) (q_amount : Int32) : Option (Int32 × (Nat → Int32)) :=
  (jn (fun (q_part_1 : Nat → Int32) => some ((q_amount + 1), q_part_1)) (fun kk_32_1 => (f_X5_number_L2 q_amount p1 kk_32_1 F 0 q_part)))
set_option maxHeartbeats 4000000 in
set_option maxRecDepth 100000 in
theorem c_X5_number (l : Launch) (E : Ev) (F : Nat) (q_part : Nat → Int32) (a_q_part : Nat) (q_amount : Int32) (q_odd : Int32) (q_twoSided : Int32) (a_q : Nat) (p1 : Int32) (u_q_amount : Int32) (u_q_part : Nat → Int32) (hf : f_X5_number F p1 q_part q_amount = some (u_q_amount, u_q_part)) :
    CtV l yX5_number wsX5_number (Rm 1) E [.ref a_q, .int p1] [oC a_q 5 [.ref a_q_part, .int q_amount, .int q_odd, .int q_twoSided], aI E a_q_part 16 q_part] [oC a_q 5 [.ref a_q_part, .int u_q_amount, .int q_odd, .int q_twoSided], aI E a_q_part 16 u_q_part] := by
  refine ofV (cc := cX5_number) (maxL := 3) (own := RX5) rfl rfl (by decide) rfl rfl ?_
  intro p e s m below meth c A ls Q S hnm hN hw hA hl0 hE
  have hl : lv_has ls 3 [(0, .ref a_q), (1, .int p1)] := hl0 _ (lv_entry [.ref a_q, .int p1] (n := 3) (Nat.le_of_ble_eq_true rfl))
  have iX5 : ∀ w ∈ wsX50, w ∈ wsX5_number := by decide +kernel
  have k15 := S.2.2.2.2 (.fieldLink RX5 15 "PairMatching$Parts" "amount" "I") (by decide +kernel)
  have k9 := S.2.2.2.2 (.fieldLink RX5 9 "PairMatching$Parts" "part" "[I") (by decide +kernel)
  have kIX11 := S.2.2.2.2 (.initialized RX11) (by decide +kernel)
  have kSX11_has := S.2.2.2.2 (.static yX11_has) (by decide +kernel)
  have w31 : Cond.methodLinkNest RX5 31 yX11_has "PairMatching" ∈ nestW := List.mem_of_getElem? (i := 78) rfl
  unfold f_X5_number at hf
  refine lv_iconst (v := 0) S.1 S.2.1 dX5_number_0 (by decide) ?_
  refine lv_istore_n (lv' := [(2, .int 0), (0, .ref a_q), (1, .int p1)]) S.1 S.2.1 dX5_number_1 rfl hl (by decide) rfl (fun ls hl => ?_)
  obtain ⟨kk_32_1, ekk_32_1, hf⟩ := jn_s hf
  have hJ_kk_32_1 : ∀ (q_part_1 : Nat → Int32) (H : Heap) (locs : List Loc) (ls : Array Slot), Wo E A s [oC a_q 5 [.ref a_q_part, .int q_amount, .int q_odd, .int q_twoSided], aI E a_q_part 16 q_part_1] H locs → lv_has ls 3 [(0, .ref a_q)] → kk_32_1 q_part_1 = some (u_q_amount, u_q_part) → W p l e (Rm 1) s m (([.ref a_q, .int p1] : List Value).toArray) below meth c H locs 0 0 Q (F0 m 32 ls []) := by
    intro q_part_1 H locs ls hw hl hf
    rw [ekk_32_1] at hf
    refine lv_aload_n S.1 S.2.1 dX5_number_32 rfl (lv_at hl 0 rfl) ?_
    refine lv_dup S.1 S.2.1 dX5_number_33 rfl ?_
    refine g_get S hN hw (C := RX5) (T := TX5) (N := 4) (ci := 5) (v := .int q_amount) 0 1 iX5 k15 dX5_number_34 rfl rfl (by decide) rfl ?_
    refine lv_iconst (v := 1) S.1 S.2.1 dX5_number_37 (by decide) ?_
    refine lv_iadd S.1 S.2.1 dX5_number_38 ?_
    refine g_put S hN hw (C := RX5) (T := TX5) (N := 4) (ci := 5) (ty := .int) (w1 := [oC a_q 5 [.ref a_q_part, .int (q_amount + 1), .int q_odd, .int q_twoSided], aI E a_q_part 16 q_part_1]) 0 1 iX5 k15 tyX5 tyX5_ok nmX5 dX5_number_39 rfl rfl (by decide) rfl (by decide +kernel) rfl rfl (Nat.le_of_ble_eq_true rfl) rfl (fun H locs hw => ?_)
    cases hf
    exact hE _ _ _ _ hw dX5_number_42
  have hL_2_9 : ∀ (n : Nat) (v2_3 : Int32) (q_part_4 : Nat → Int32) (H : Heap) (locs : List Loc) (ls : Array Slot), Wo E A s [oC a_q 5 [.ref a_q_part, .int q_amount, .int q_odd, .int q_twoSided], aI E a_q_part 16 q_part_4] H locs → lv_has ls 3 [(0, .ref a_q), (1, .int p1), (2, .int v2_3)] → f_X5_number_L2 q_amount p1 kk_32_1 n v2_3 q_part_4 = some (u_q_amount, u_q_part) → W p l e (Rm 1) s m (([.ref a_q, .int p1] : List Value).toArray) below meth c H locs 0 0 Q (F0 m 2 ls []) := by
    intro n
    induction n with
    | zero => intro v2_3 q_part_4 H locs ls hw hl hf; unfold f_X5_number_L2 at hf; cases hf
    | succ n ih =>
      intro v2_3 q_part_4 H locs ls hw hl hf
      unfold f_X5_number_L2 at hf
      refine lv_iload_n S.1 S.2.1 dX5_number_2 rfl (lv_at hl 2 rfl) ?_
      refine lv_bipush (v := 16) S.1 S.2.1 dX5_number_3 (by decide) ?_
      refine lv_icmp_ge (tgt := 32) S.1 S.2.1 dX5_number_5 (by decide) (fun h_5 => ?_) (fun h_5 => ?_)
      · replace hf := if_t h_5 hf
        exact hJ_kk_32_1 q_part_4 _ _ _ hw (lv_sub hl [0] rfl) hf
      · replace hf := if_f h_5 hf
        refine lv_iload_n S.1 S.2.1 dX5_number_8 rfl (lv_at hl 1 rfl) ?_
        refine lv_iload_n S.1 S.2.1 dX5_number_9 rfl (lv_at hl 2 rfl) ?_
        refine g_calli (r := (f_X11_has p1 v2_3)) (wc := []) (wr := [oC a_q 5 [.ref a_q_part, .int q_amount, .int q_odd, .int q_twoSided], aI E a_q_part 16 q_part_4]) (w1 := []) (va_runSN (As := [.int p1, .int v2_3]) (rest := []) S (c_X11_has l E p1 v2_3 (f_X11_has p1 v2_3) rfl _) ⟨(va_cnB 2 S.2.2.2.2 gX5_number_X11_has_n31 rfl rfl rfl (hN.2 _ w31) kIX11 (by decide +kernel) (rm_le (by omega) (by decide))), kSX11_has, trivial⟩ (preS hN hw [] rfl rfl) rfl rfl hl.1 rfl (lv_room (Nat.le_of_ble_eq_true rfl)) dX5_number_10 ⟨Nat.le_refl _, Nat.le_refl _⟩) hw hA [] [0, 1] rfl rfl rfl (by decide) (fun H locs hw => ?_)
        have hw : Wo E A s [oC a_q 5 [.ref a_q_part, .int q_amount, .int q_odd, .int q_twoSided], aI E a_q_part 16 q_part_4] H _ := hw
        refine lv_if_eq (tgt := 26) S.1 S.2.1 dX5_number_13 (by decide) (fun h_8 => ?_) (fun h_8 => ?_)
        · replace hf := if_t h_8 hf
          refine lv_iinc (v := (v2_3 + 1)) (lv' := [(2, .int (v2_3 + 1)), (0, .ref a_q), (1, .int p1)]) S.1 S.2.1 dX5_number_26 hl (k := 2) rfl rfl (by decide) rfl (fun ls hl => ?_)
          refine lv_goto (tgt := 2) S.1 S.2.1 dX5_number_29 (by decide) ?_
          exact ih (v2_3 + 1) q_part_4 _ _ _ hw (lv_sub hl [1, 2, 0] rfl) hf
        · replace hf := if_f h_8 hf
          refine lv_aload_n S.1 S.2.1 dX5_number_16 rfl (lv_at hl 0 rfl) ?_
          refine g_get S hN hw (C := RX5) (T := TX5) (N := 4) (ci := 5) (v := .ref a_q_part) 0 0 iX5 k9 dX5_number_17 rfl rfl (by decide) rfl ?_
          refine lv_iload_n S.1 S.2.1 dX5_number_20 rfl (lv_at hl 2 rfl) ?_
          refine lv_aload_n S.1 S.2.1 dX5_number_21 rfl (lv_at hl 0 rfl) ?_
          refine g_get S hN hw (C := RX5) (T := TX5) (N := 4) (ci := 5) (v := .int q_amount) 0 1 iX5 k15 dX5_number_22 rfl rfl (by decide) rfl ?_
          obtain ⟨hi_8, hf⟩ := wr_s hf
          refine g_iast (n := 16) (f := q_part_4) (w1 := [oC a_q 5 [.ref a_q_part, .int q_amount, .int q_odd, .int q_twoSided], aI E a_q_part 16 (va_up q_part_4 (v2_3 : Int32).toNatClampNeg q_amount)]) S hN hw 1 hi_8 dX5_number_25 rfl rfl (fun H locs hw => ?_)
          generalize va_up q_part_4 (v2_3 : Int32).toNatClampNeg q_amount = q_part_9 at hf hw
          refine lv_iinc (v := (v2_3 + 1)) (lv' := [(2, .int (v2_3 + 1)), (0, .ref a_q), (1, .int p1)]) S.1 S.2.1 dX5_number_26 hl (k := 2) rfl rfl (by decide) rfl (fun ls hl => ?_)
          refine lv_goto (tgt := 2) S.1 S.2.1 dX5_number_29 (by decide) ?_
          exact ih (v2_3 + 1) q_part_9 _ _ _ hw (lv_sub hl [1, 2, 0] rfl) hf
  exact hL_2_9 F 0 q_part _ _ _ hw (lv_sub hl [1, 2, 0] rfl) hf
def f_X5_split_L20 (F : Nat) (g_nodes : Int32) (g_joined : Nat → Int32) (p2 : Int32) (kk_85_4 : Int32 → Int32 → Int32 → (Nat → Int32) → Option (Int32 × Int32 × Int32 × (Nat → Int32))) : Nat → Int32 → Int32 → (Nat → Int32) → Int32 → Int32 → Int32 → Option (Int32 × Int32 × Int32 × (Nat → Int32))
  | 0, _, _, _, _, _, _ => none
  | n + 1, v3_6, v4_7, q_part_8, q_amount_9, q_odd_10, q_twoSided_11 => (if g_nodes ≤ v4_7 then (kk_85_4 q_amount_9 q_odd_10 q_twoSided_11 q_part_8) else (if (f_X11_has (p2 &&& (v3_6 ^^^ (-1))) v4_7) = 0 then (f_X5_split_L20 F g_nodes g_joined p2 kk_85_4 n v3_6 (v4_7 + 1) q_part_8 q_amount_9 q_odd_10 q_twoSided_11) else bd2 (f_X5_grow F p2 v4_7 q_twoSided_11 g_nodes g_joined) (fun r_16 q_twoSided_17 => ltt (q_odd_10 + ((f_J6_bitCount_0f7a4 r_16) - (f_J6_bitCount_0f7a4 r_16) / 2 * 2)) (fun x_21 => bd2 (f_X5_number F r_16 q_part_8 q_amount_9) (fun q_amount_22 q_part_23 => (f_X5_split_L20 F g_nodes g_joined p2 kk_85_4 n (v3_6 ||| r_16) (v4_7 + 1) q_part_23 q_amount_22 x_21 q_twoSided_17))))))
def f_X5_split (F : Nat) (p2 : Int32) (q_part : Nat → Int32) (g_nodes : Int32) (g_joined : Nat → Int32) : Option (Int32 × Int32 × Int32 × (Nat → Int32)) :=
  (jn (fun (q_amount_1 : Int32) (q_odd_2 : Int32) (q_twoSided_3 : Int32) (q_part_4 : Nat → Int32) => some (q_amount_1, q_odd_2, q_twoSided_3, q_part_4)) (fun kk_85_4 => (f_X5_split_L20 F g_nodes g_joined p2 kk_85_4 F 0 0 q_part 0 0 1)))
set_option maxHeartbeats 4000000 in
set_option maxRecDepth 100000 in
theorem c_X5_split (l : Launch) (E : Ev) (F : Nat) (q_part : Nat → Int32) (a_q_part : Nat) (q_amount : Int32) (q_odd : Int32) (q_twoSided : Int32) (a_q : Nat) (g_nodes : Int32) (g_made : Int32) (g_living : Int32) (g_age : Int32) (a_g_oneEnd : Nat) (a_g_otherEnd : Nat) (a_g_weights : Nat) (a_g_alive : Nat) (g_joined : Nat → Int32) (a_g_joined : Nat) (a_g : Nat) (p2 : Int32) (u_q_amount : Int32) (u_q_odd : Int32) (u_q_twoSided : Int32) (u_q_part : Nat → Int32) (hf : f_X5_split F p2 q_part g_nodes g_joined = some (u_q_amount, u_q_odd, u_q_twoSided, u_q_part)) :
    CtV l yX5_split wsX5_split (Rm 3) E [.ref a_q, .ref a_g, .int p2] [oC a_q 5 [.ref a_q_part, .int q_amount, .int q_odd, .int q_twoSided], aI E a_q_part 16 q_part, oC a_g 2 [.int g_nodes, .int g_made, .int g_living, .int g_age, .ref a_g_oneEnd, .ref a_g_otherEnd, .ref a_g_weights, .ref a_g_alive, .ref a_g_joined], aI E a_g_joined 16 g_joined] [oC a_q 5 [.ref a_q_part, .int u_q_amount, .int u_q_odd, .int u_q_twoSided], aI E a_q_part 16 u_q_part, oC a_g 2 [.int g_nodes, .int g_made, .int g_living, .int g_age, .ref a_g_oneEnd, .ref a_g_otherEnd, .ref a_g_weights, .ref a_g_alive, .ref a_g_joined], aI E a_g_joined 16 g_joined] := by
  refine ofV (cc := cX5_split) (maxL := 6) (own := RX5) rfl rfl (by decide) rfl rfl ?_
  intro p e s m below meth c A ls Q S hnm hN hw hA hl0 hE
  have hl : lv_has ls 6 [(0, .ref a_q), (1, .ref a_g), (2, .int p2)] := hl0 _ (lv_entry [.ref a_q, .ref a_g, .int p2] (n := 6) (Nat.le_of_ble_eq_true rfl))
  have iX2 : ∀ w ∈ wsX20, w ∈ wsX5_split := by decide +kernel
  have iX5 : ∀ w ∈ wsX50, w ∈ wsX5_split := by decide +kernel
  have k15 := S.2.2.2.2 (.fieldLink RX5 15 "PairMatching$Parts" "amount" "I") (by decide +kernel)
  have k19 := S.2.2.2.2 (.fieldLink RX5 19 "PairMatching$Parts" "odd" "I") (by decide +kernel)
  have k22 := S.2.2.2.2 (.fieldLink RX5 22 "PairMatching$Parts" "twoSided" "Z") (by decide +kernel)
  have kIX11 := S.2.2.2.2 (.initialized RX11) (by decide +kernel)
  have kSX11_has := S.2.2.2.2 (.static yX11_has) (by decide +kernel)
  have w26 : Cond.fieldLinkNest RX5 26 "PairMatching$Graph" "nodes" "I" "PairMatching" ∈ nestW := List.mem_of_getElem? (i := 3) rfl
  have w31 : Cond.methodLinkNest RX5 31 yX11_has "PairMatching" ∈ nestW := List.mem_of_getElem? (i := 78) rfl
  unfold f_X5_split at hf
  refine lv_aload_n S.1 S.2.1 dX5_split_0 rfl (lv_at hl 0 rfl) ?_
  refine lv_iconst (v := 0) S.1 S.2.1 dX5_split_1 (by decide) ?_
  refine g_put S hN hw (C := RX5) (T := TX5) (N := 4) (ci := 5) (ty := .int) (w1 := [oC a_q 5 [.ref a_q_part, .int 0, .int q_odd, .int q_twoSided], aI E a_q_part 16 q_part, oC a_g 2 [.int g_nodes, .int g_made, .int g_living, .int g_age, .ref a_g_oneEnd, .ref a_g_otherEnd, .ref a_g_weights, .ref a_g_alive, .ref a_g_joined], aI E a_g_joined 16 g_joined]) 0 1 iX5 k15 tyX5 tyX5_ok nmX5 dX5_split_2 rfl rfl (by decide) rfl (by decide +kernel) rfl rfl (Nat.le_of_ble_eq_true rfl) rfl (fun H locs hw => ?_)
  refine lv_aload_n S.1 S.2.1 dX5_split_5 rfl (lv_at hl 0 rfl) ?_
  refine lv_iconst (v := 0) S.1 S.2.1 dX5_split_6 (by decide) ?_
  refine g_put S hN hw (C := RX5) (T := TX5) (N := 4) (ci := 5) (ty := .int) (w1 := [oC a_q 5 [.ref a_q_part, .int 0, .int 0, .int q_twoSided], aI E a_q_part 16 q_part, oC a_g 2 [.int g_nodes, .int g_made, .int g_living, .int g_age, .ref a_g_oneEnd, .ref a_g_otherEnd, .ref a_g_weights, .ref a_g_alive, .ref a_g_joined], aI E a_g_joined 16 g_joined]) 0 2 iX5 k19 tyX5 tyX5_ok nmX5 dX5_split_7 rfl rfl (by decide) rfl (by decide +kernel) rfl rfl (Nat.le_of_ble_eq_true rfl) rfl (fun H locs hw => ?_)
  refine lv_aload_n S.1 S.2.1 dX5_split_10 rfl (lv_at hl 0 rfl) ?_
  refine lv_iconst (v := 1) S.1 S.2.1 dX5_split_11 (by decide) ?_
  refine g_put S hN hw (C := RX5) (T := TX5) (N := 4) (ci := 5) (ty := .boolean) (w1 := [oC a_q 5 [.ref a_q_part, .int 0, .int 0, .int 1], aI E a_q_part 16 q_part, oC a_g 2 [.int g_nodes, .int g_made, .int g_living, .int g_age, .ref a_g_oneEnd, .ref a_g_otherEnd, .ref a_g_weights, .ref a_g_alive, .ref a_g_joined], aI E a_g_joined 16 g_joined]) 0 3 iX5 k22 tyX5 tyX5_ok nmX5 dX5_split_12 rfl rfl (by decide) rfl (by decide +kernel) rfl rfl (Nat.le_of_ble_eq_true rfl) rfl (fun H locs hw => ?_)
  refine lv_iconst (v := 0) S.1 S.2.1 dX5_split_15 (by decide) ?_
  refine lv_istore_n (lv' := [(3, .int 0), (0, .ref a_q), (1, .ref a_g), (2, .int p2)]) S.1 S.2.1 dX5_split_16 rfl hl (by decide) rfl (fun ls hl => ?_)
  refine lv_iconst (v := 0) S.1 S.2.1 dX5_split_17 (by decide) ?_
  refine lv_istore (lv' := [(4, .int 0), (3, .int 0), (0, .ref a_q), (1, .ref a_g), (2, .int p2)]) S.1 S.2.1 dX5_split_18 hl (by decide) rfl (fun ls hl => ?_)
  obtain ⟨kk_85_4, ekk_85_4, hf⟩ := jn_s hf
  have hJ_kk_85_4 : ∀ (q_amount_1 : Int32) (q_odd_2 : Int32) (q_twoSided_3 : Int32) (q_part_4 : Nat → Int32) (H : Heap) (locs : List Loc) (ls : Array Slot), Wo E A s [oC a_q 5 [.ref a_q_part, .int q_amount_1, .int q_odd_2, .int q_twoSided_3], aI E a_q_part 16 q_part_4, oC a_g 2 [.int g_nodes, .int g_made, .int g_living, .int g_age, .ref a_g_oneEnd, .ref a_g_otherEnd, .ref a_g_weights, .ref a_g_alive, .ref a_g_joined], aI E a_g_joined 16 g_joined] H locs → lv_has ls 6 [] → kk_85_4 q_amount_1 q_odd_2 q_twoSided_3 q_part_4 = some (u_q_amount, u_q_odd, u_q_twoSided, u_q_part) → W p l e (Rm 3) s m (([.ref a_q, .ref a_g, .int p2] : List Value).toArray) below meth c H locs 0 0 Q (F0 m 85 ls []) := by
    intro q_amount_1 q_odd_2 q_twoSided_3 q_part_4 H locs ls hw hl hf
    rw [ekk_85_4] at hf
    cases hf
    exact hE _ _ _ _ hw dX5_split_85
  have hL_20_24 : ∀ (n : Nat) (v3_6 : Int32) (v4_7 : Int32) (q_part_8 : Nat → Int32) (q_amount_9 : Int32) (q_odd_10 : Int32) (q_twoSided_11 : Int32) (H : Heap) (locs : List Loc) (ls : Array Slot), Wo E A s [oC a_q 5 [.ref a_q_part, .int q_amount_9, .int q_odd_10, .int q_twoSided_11], aI E a_q_part 16 q_part_8, oC a_g 2 [.int g_nodes, .int g_made, .int g_living, .int g_age, .ref a_g_oneEnd, .ref a_g_otherEnd, .ref a_g_weights, .ref a_g_alive, .ref a_g_joined], aI E a_g_joined 16 g_joined] H locs → lv_has ls 6 [(0, .ref a_q), (1, .ref a_g), (2, .int p2), (3, .int v3_6), (4, .int v4_7)] → f_X5_split_L20 F g_nodes g_joined p2 kk_85_4 n v3_6 v4_7 q_part_8 q_amount_9 q_odd_10 q_twoSided_11 = some (u_q_amount, u_q_odd, u_q_twoSided, u_q_part) → W p l e (Rm 3) s m (([.ref a_q, .ref a_g, .int p2] : List Value).toArray) below meth c H locs 0 0 Q (F0 m 20 ls []) := by
    intro n
    induction n with
    | zero => intro v3_6 v4_7 q_part_8 q_amount_9 q_odd_10 q_twoSided_11 H locs ls hw hl hf; unfold f_X5_split_L20 at hf; cases hf
    | succ n ih =>
      intro v3_6 v4_7 q_part_8 q_amount_9 q_odd_10 q_twoSided_11 H locs ls hw hl hf
      unfold f_X5_split_L20 at hf
      refine lv_iload S.1 S.2.1 dX5_split_20 (lv_at hl 4 rfl) ?_
      refine lv_aload_n S.1 S.2.1 dX5_split_22 rfl (lv_at hl 1 rfl) ?_
      refine g_getN S hN hw (C := RX2) (T := TX2) (N := 9) (ci := 2) (v := .int g_nodes) 2 0 iX2 w26 dX5_split_23 rfl rfl (by decide) rfl ?_
      refine lv_icmp_ge (tgt := 85) S.1 S.2.1 dX5_split_26 (by decide) (fun h_12 => ?_) (fun h_12 => ?_)
      · replace hf := if_t h_12 hf
        exact hJ_kk_85_4 q_amount_9 q_odd_10 q_twoSided_11 q_part_8 _ _ _ hw (lv_sub hl [] rfl) hf
      · replace hf := if_f h_12 hf
        refine lv_iload_n S.1 S.2.1 dX5_split_29 rfl (lv_at hl 2 rfl) ?_
        refine lv_iload_n S.1 S.2.1 dX5_split_30 rfl (lv_at hl 3 rfl) ?_
        refine lv_iconst (v := (-1)) S.1 S.2.1 dX5_split_31 (by decide) ?_
        refine lv_ixor S.1 S.2.1 dX5_split_32 ?_
        refine lv_iand S.1 S.2.1 dX5_split_33 ?_
        refine lv_iload S.1 S.2.1 dX5_split_34 (lv_at hl 4 rfl) ?_
        refine g_calli (r := (f_X11_has (p2 &&& (v3_6 ^^^ (-1))) v4_7)) (wc := []) (wr := [oC a_q 5 [.ref a_q_part, .int q_amount_9, .int q_odd_10, .int q_twoSided_11], aI E a_q_part 16 q_part_8, oC a_g 2 [.int g_nodes, .int g_made, .int g_living, .int g_age, .ref a_g_oneEnd, .ref a_g_otherEnd, .ref a_g_weights, .ref a_g_alive, .ref a_g_joined], aI E a_g_joined 16 g_joined]) (w1 := []) (va_runSN (As := [.int (p2 &&& (v3_6 ^^^ (-1))), .int v4_7]) (rest := []) S (c_X11_has l E (p2 &&& (v3_6 ^^^ (-1))) v4_7 (f_X11_has (p2 &&& (v3_6 ^^^ (-1))) v4_7) rfl _) ⟨(va_cnB 2 S.2.2.2.2 gX5_split_X11_has_n31 rfl rfl rfl (hN.2 _ w31) kIX11 (by decide +kernel) (rm_le (by omega) (by decide))), kSX11_has, trivial⟩ (preS hN hw [] rfl rfl) rfl rfl hl.1 rfl (lv_room (Nat.le_of_ble_eq_true rfl)) dX5_split_36 ⟨Nat.le_refl _, Nat.le_refl _⟩) hw hA [] [0, 1, 2, 3] rfl rfl rfl (by decide) (fun H locs hw => ?_)
        have hw : Wo E A s [oC a_q 5 [.ref a_q_part, .int q_amount_9, .int q_odd_10, .int q_twoSided_11], aI E a_q_part 16 q_part_8, oC a_g 2 [.int g_nodes, .int g_made, .int g_living, .int g_age, .ref a_g_oneEnd, .ref a_g_otherEnd, .ref a_g_weights, .ref a_g_alive, .ref a_g_joined], aI E a_g_joined 16 g_joined] H _ := hw
        refine lv_if_eq (tgt := 79) S.1 S.2.1 dX5_split_39 (by decide) (fun h_15 => ?_) (fun h_15 => ?_)
        · replace hf := if_t h_15 hf
          refine lv_iinc (v := (v4_7 + 1)) (lv' := [(4, .int (v4_7 + 1)), (0, .ref a_q), (1, .ref a_g), (2, .int p2), (3, .int v3_6)]) S.1 S.2.1 dX5_split_79 hl (k := 4) rfl rfl (by decide) rfl (fun ls hl => ?_)
          refine lv_goto (tgt := 20) S.1 S.2.1 dX5_split_82 (by decide) ?_
          exact ih v3_6 (v4_7 + 1) q_part_8 q_amount_9 q_odd_10 q_twoSided_11 _ _ _ hw (lv_sub hl [1, 2, 3, 4, 0] rfl) hf
        · replace hf := if_f h_15 hf
          refine lv_aload_n S.1 S.2.1 dX5_split_42 rfl (lv_at hl 0 rfl) ?_
          refine lv_aload_n S.1 S.2.1 dX5_split_43 rfl (lv_at hl 1 rfl) ?_
          refine lv_iload_n S.1 S.2.1 dX5_split_44 rfl (lv_at hl 2 rfl) ?_
          refine lv_iload S.1 S.2.1 dX5_split_45 (lv_at hl 4 rfl) ?_
          obtain ⟨r_16, q_twoSided_17, hc_17, hf⟩ := bd2_s hf
          refine g_calli (r := r_16) (wc := [oC a_q 5 [.ref a_q_part, .int q_amount_9, .int q_odd_10, .int q_twoSided_11], oC a_g 2 [.int g_nodes, .int g_made, .int g_living, .int g_age, .ref a_g_oneEnd, .ref a_g_otherEnd, .ref a_g_weights, .ref a_g_alive, .ref a_g_joined], aI E a_g_joined 16 g_joined]) (wr := [aI E a_q_part 16 q_part_8]) (w1 := [oC a_q 5 [.ref a_q_part, .int q_amount_9, .int q_odd_10, .int q_twoSided_17], oC a_g 2 [.int g_nodes, .int g_made, .int g_living, .int g_age, .ref a_g_oneEnd, .ref a_g_otherEnd, .ref a_g_weights, .ref a_g_alive, .ref a_g_joined], aI E a_g_joined 16 g_joined]) (va_runV (As := [.ref a_g, .int p2, .int v4_7]) (rest := []) S (c_X5_grow l E F a_q_part q_amount_9 q_odd_10 q_twoSided_11 a_q g_nodes g_made g_living g_age a_g_oneEnd a_g_otherEnd a_g_weights a_g_alive g_joined a_g_joined a_g p2 v4_7 r_16 q_twoSided_17 hc_17 _) (cwV 3 S.2.2.2.2 gX5_split_X5_grow rfl rfl rfl (by decide +kernel) (rm_le (by omega) (by decide))) (preV (q := (RX5, TX5, 4)) hN hw [0, 2, 3] rfl rfl rfl rfl) rfl rfl hl.1 rfl (lv_room (Nat.le_of_ble_eq_true rfl)) dX5_split_47 ⟨Nat.le_refl _, Nat.le_refl _⟩) hw hA [0, 2, 3] [1] rfl rfl rfl (by decide) (fun H locs hw => ?_)
          have hw : Wo E A s [aI E a_q_part 16 q_part_8, oC a_q 5 [.ref a_q_part, .int q_amount_9, .int q_odd_10, .int q_twoSided_17], oC a_g 2 [.int g_nodes, .int g_made, .int g_living, .int g_age, .ref a_g_oneEnd, .ref a_g_otherEnd, .ref a_g_weights, .ref a_g_alive, .ref a_g_joined], aI E a_g_joined 16 g_joined] H _ := hw
          refine lv_istore (lv' := [(5, .int r_16), (0, .ref a_q), (1, .ref a_g), (2, .int p2), (3, .int v3_6), (4, .int v4_7)]) S.1 S.2.1 dX5_split_50 hl (by decide) rfl (fun ls hl => ?_)
          refine lv_iload_n S.1 S.2.1 dX5_split_52 rfl (lv_at hl 4 rfl) ?_
          refine lv_iload S.1 S.2.1 dX5_split_53 (lv_at hl 0 rfl) ?_
          refine lv_ior S.1 S.2.1 dX5_split_55 ?_
          refine lv_istore_n (lv' := [(3, .int (v3_6 ||| r_16)), (5, .int r_16), (0, .ref a_q), (1, .ref a_g), (2, .int p2), (4, .int v4_7)]) S.1 S.2.1 dX5_split_56 rfl hl (by decide) rfl (fun ls hl => ?_)
          refine lv_aload_n S.1 S.2.1 dX5_split_57 rfl (lv_at hl 2 rfl) ?_
          refine lv_dup S.1 S.2.1 dX5_split_58 rfl ?_
          refine g_get S hN hw (C := RX5) (T := TX5) (N := 4) (ci := 5) (v := .int q_odd_10) 1 2 iX5 k19 dX5_split_59 rfl rfl (by decide) rfl ?_
          refine lv_iload S.1 S.2.1 dX5_split_62 (lv_at hl 1 rfl) ?_
          refine g_calli (r := (f_J6_bitCount_0f7a4 r_16)) (wc := []) (wr := [aI E a_q_part 16 q_part_8, oC a_q 5 [.ref a_q_part, .int q_amount_9, .int q_odd_10, .int q_twoSided_17], oC a_g 2 [.int g_nodes, .int g_made, .int g_living, .int g_age, .ref a_g_oneEnd, .ref a_g_otherEnd, .ref a_g_weights, .ref a_g_alive, .ref a_g_joined], aI E a_g_joined 16 g_joined]) (w1 := []) (va_runS (As := [.int r_16]) (rest := [.int q_odd_10, .ref a_q]) S (c_J6_bitCount_0f7a4 l E r_16 (f_J6_bitCount_0f7a4 r_16) rfl _) (va_cwS 1 S.2.2.2.2 gX5_split_J6_bitCount_0f7a4 rfl rfl rfl (by decide +kernel) (rm_le (by omega) (by decide))) (preS hN hw [] rfl rfl) rfl rfl hl.1 rfl (lv_room (Nat.le_of_ble_eq_true rfl)) dX5_split_64 ⟨Nat.le_refl _, Nat.le_refl _⟩) hw hA [] [0, 1, 2, 3] rfl rfl rfl (by decide) (fun H locs hw => ?_)
          have hw : Wo E A s [aI E a_q_part 16 q_part_8, oC a_q 5 [.ref a_q_part, .int q_amount_9, .int q_odd_10, .int q_twoSided_17], oC a_g 2 [.int g_nodes, .int g_made, .int g_living, .int g_age, .ref a_g_oneEnd, .ref a_g_otherEnd, .ref a_g_weights, .ref a_g_alive, .ref a_g_joined], aI E a_g_joined 16 g_joined] H _ := hw
          refine lv_iconst (v := 2) S.1 S.2.1 dX5_split_67 (by decide) ?_
          refine lv_irem S.1 S.2.1 dX5_split_68 (by decide) ?_
          refine lv_iadd S.1 S.2.1 dX5_split_69 ?_
          obtain ⟨x_21, he_21, hf⟩ := ltt_s hf
          rw [← he_21]
          refine g_put S hN hw (C := RX5) (T := TX5) (N := 4) (ci := 5) (ty := .int) (w1 := [aI E a_q_part 16 q_part_8, oC a_q 5 [.ref a_q_part, .int q_amount_9, .int x_21, .int q_twoSided_17], oC a_g 2 [.int g_nodes, .int g_made, .int g_living, .int g_age, .ref a_g_oneEnd, .ref a_g_otherEnd, .ref a_g_weights, .ref a_g_alive, .ref a_g_joined], aI E a_g_joined 16 g_joined]) 1 2 iX5 k19 tyX5 tyX5_ok nmX5 dX5_split_70 rfl rfl (by decide) rfl (by decide +kernel) rfl rfl (Nat.le_of_ble_eq_true rfl) rfl (fun H locs hw => ?_)
          refine lv_aload_n S.1 S.2.1 dX5_split_73 rfl (lv_at hl 2 rfl) ?_
          refine lv_iload S.1 S.2.1 dX5_split_74 (lv_at hl 1 rfl) ?_
          obtain ⟨q_amount_22, q_part_23, hc_23, hf⟩ := bd2_s hf
          refine g_callv (wc := [oC a_q 5 [.ref a_q_part, .int q_amount_9, .int x_21, .int q_twoSided_17], aI E a_q_part 16 q_part_8]) (wr := [oC a_g 2 [.int g_nodes, .int g_made, .int g_living, .int g_age, .ref a_g_oneEnd, .ref a_g_otherEnd, .ref a_g_weights, .ref a_g_alive, .ref a_g_joined], aI E a_g_joined 16 g_joined]) (w1 := [oC a_q 5 [.ref a_q_part, .int q_amount_22, .int x_21, .int q_twoSided_17], aI E a_q_part 16 q_part_23]) (va_runV (As := [.int r_16]) (rest := []) S (c_X5_number l E F q_part_8 a_q_part q_amount_9 x_21 q_twoSided_17 a_q r_16 q_amount_22 q_part_23 hc_23 _) (cwV 1 S.2.2.2.2 gX5_split_X5_number rfl rfl rfl (by decide +kernel) (rm_le (by omega) (by decide))) (preV (q := (RX5, TX5, 4)) hN hw [1, 0] rfl rfl rfl rfl) rfl rfl hl.1 rfl (lv_room (Nat.le_of_ble_eq_true rfl)) dX5_split_76 ⟨Nat.le_refl _, Nat.le_refl _⟩) hw hA [1, 0] [2, 3] rfl rfl rfl (by decide) (fun H locs hw => ?_)
          have hw : Wo E A s [oC a_g 2 [.int g_nodes, .int g_made, .int g_living, .int g_age, .ref a_g_oneEnd, .ref a_g_otherEnd, .ref a_g_weights, .ref a_g_alive, .ref a_g_joined], aI E a_g_joined 16 g_joined, oC a_q 5 [.ref a_q_part, .int q_amount_22, .int x_21, .int q_twoSided_17], aI E a_q_part 16 q_part_23] H _ := hw
          refine lv_iinc (v := (v4_7 + 1)) (lv' := [(4, .int (v4_7 + 1)), (3, .int (v3_6 ||| r_16)), (5, .int r_16), (0, .ref a_q), (1, .ref a_g), (2, .int p2)]) S.1 S.2.1 dX5_split_79 hl (k := 5) rfl rfl (by decide) rfl (fun ls hl => ?_)
          refine lv_goto (tgt := 20) S.1 S.2.1 dX5_split_82 (by decide) ?_
          exact ih (v3_6 ||| r_16) (v4_7 + 1) q_part_23 q_amount_22 x_21 q_twoSided_17 _ _ _ (hw.sub [2, 3, 0, 1] rfl rfl) (lv_sub hl [3, 4, 5, 1, 0] rfl) hf
  exact hL_20_24 F 0 0 q_part 0 0 1 _ _ _ hw (lv_sub hl [2, 3, 4, 1, 0] rfl) hf
def f_X6_replace (p1 : Int32) (p2 : Int32) (p3 : Int32) (k_age : Int32) (k_given : Nat → Int32) : Option (Int32 × Int32 × (Nat → Int32)) :=
  rd 256 k_given (f_X11_cell p1 p2) (fun y_3 => wr 256 k_given (f_X11_cell p1 p2) p3 (fun k_given_6 => some (y_3, (k_age + 1), k_given_6)))
set_option maxHeartbeats 4000000 in
set_option maxRecDepth 100000 in
theorem c_X6_replace (l : Launch) (E : Ev) (k_age : Int32) (k_given : Nat → Int32) (a_k_given : Nat) (a_k : Nat) (p1 : Int32) (p2 : Int32) (p3 : Int32) (ro : Int32) (u_k_age : Int32) (u_k_given : Nat → Int32) (hf : f_X6_replace p1 p2 p3 k_age k_given = some (ro, u_k_age, u_k_given)) :
    CtI l yX6_replace wsX6_replace (Rm 1) E [.ref a_k, .int p1, .int p2, .int p3] [oC a_k 6 [.int k_age, .ref a_k_given], aI E a_k_given 256 k_given] ro [oC a_k 6 [.int u_k_age, .ref a_k_given], aI E a_k_given 256 u_k_given] := by
  refine ofI (cc := cX6_replace) (maxL := 5) (own := RX6) rfl rfl (by decide) rfl rfl ?_
  intro p e s m below meth c A ls Q S hnm hN hw hA hl0 hE
  have hl : lv_has ls 5 [(0, .ref a_k), (1, .int p1), (2, .int p2), (3, .int p3)] := hl0 _ (lv_entry [.ref a_k, .int p1, .int p2, .int p3] (n := 5) (Nat.le_of_ble_eq_true rfl))
  have iX6 : ∀ w ∈ wsX60, w ∈ wsX6_replace := by decide +kernel
  have k21 := S.2.2.2.2 (.fieldLink RX6 21 "PairMatching$Ranks" "age" "I") (by decide +kernel)
  have k9 := S.2.2.2.2 (.fieldLink RX6 9 "PairMatching$Ranks" "given" "[I") (by decide +kernel)
  have kIX11 := S.2.2.2.2 (.initialized RX11) (by decide +kernel)
  have kSX11_cell := S.2.2.2.2 (.static yX11_cell) (by decide +kernel)
  have w25 : Cond.methodLinkNest RX6 25 yX11_cell "PairMatching" ∈ nestW := List.mem_of_getElem? (i := 89) rfl
  unfold f_X6_replace at hf
  refine lv_aload_n S.1 S.2.1 dX6_replace_0 rfl (lv_at hl 0 rfl) ?_
  refine lv_dup S.1 S.2.1 dX6_replace_1 rfl ?_
  refine g_get S hN hw (C := RX6) (T := TX6) (N := 2) (ci := 6) (v := .int k_age) 0 0 iX6 k21 dX6_replace_2 rfl rfl (by decide) rfl ?_
  refine lv_iconst (v := 1) S.1 S.2.1 dX6_replace_5 (by decide) ?_
  refine lv_iadd S.1 S.2.1 dX6_replace_6 ?_
  refine g_put S hN hw (C := RX6) (T := TX6) (N := 2) (ci := 6) (ty := .int) (w1 := [oC a_k 6 [.int (k_age + 1), .ref a_k_given], aI E a_k_given 256 k_given]) 0 0 iX6 k21 tyX6 tyX6_ok nmX6 dX6_replace_7 rfl rfl (by decide) rfl (by decide +kernel) rfl rfl (Nat.le_of_ble_eq_true rfl) rfl (fun H locs hw => ?_)
  refine lv_aload_n S.1 S.2.1 dX6_replace_10 rfl (lv_at hl 0 rfl) ?_
  refine g_get S hN hw (C := RX6) (T := TX6) (N := 2) (ci := 6) (v := .ref a_k_given) 0 1 iX6 k9 dX6_replace_11 rfl rfl (by decide) rfl ?_
  refine lv_iload_n S.1 S.2.1 dX6_replace_14 rfl (lv_at hl 1 rfl) ?_
  refine lv_iload_n S.1 S.2.1 dX6_replace_15 rfl (lv_at hl 2 rfl) ?_
  refine g_calli (r := (f_X11_cell p1 p2)) (wc := []) (wr := [oC a_k 6 [.int (k_age + 1), .ref a_k_given], aI E a_k_given 256 k_given]) (w1 := []) (va_runSN (As := [.int p1, .int p2]) (rest := [.ref a_k_given]) S (c_X11_cell l E p1 p2 (f_X11_cell p1 p2) rfl _) ⟨(va_cnB 2 S.2.2.2.2 gX6_replace_X11_cell_n25 rfl rfl rfl (hN.2 _ w25) kIX11 (by decide +kernel) (rm_le (by omega) (by decide))), kSX11_cell, trivial⟩ (preS hN hw [] rfl rfl) rfl rfl hl.1 rfl (lv_room (Nat.le_of_ble_eq_true rfl)) dX6_replace_16 ⟨Nat.le_refl _, Nat.le_refl _⟩) hw hA [] [0, 1] rfl rfl rfl (by decide) (fun H locs hw => ?_)
  have hw : Wo E A s [oC a_k 6 [.int (k_age + 1), .ref a_k_given], aI E a_k_given 256 k_given] H _ := hw
  obtain ⟨hi_2, hf⟩ := rd_s hf
  refine g_iald (n := 256) (f := k_given) S hN hw 1 hi_2 dX6_replace_19 rfl ?_
  generalize k_given ((f_X11_cell p1 p2) : Int32).toNatClampNeg = y_3 at hf ⊢
  refine lv_istore (lv' := [(4, .int y_3), (0, .ref a_k), (1, .int p1), (2, .int p2), (3, .int p3)]) S.1 S.2.1 dX6_replace_20 hl (by decide) rfl (fun ls hl => ?_)
  refine lv_aload_n S.1 S.2.1 dX6_replace_22 rfl (lv_at hl 1 rfl) ?_
  refine g_get S hN hw (C := RX6) (T := TX6) (N := 2) (ci := 6) (v := .ref a_k_given) 0 1 iX6 k9 dX6_replace_23 rfl rfl (by decide) rfl ?_
  refine lv_iload_n S.1 S.2.1 dX6_replace_26 rfl (lv_at hl 2 rfl) ?_
  refine lv_iload_n S.1 S.2.1 dX6_replace_27 rfl (lv_at hl 3 rfl) ?_
  refine g_calli (r := (f_X11_cell p1 p2)) (wc := []) (wr := [oC a_k 6 [.int (k_age + 1), .ref a_k_given], aI E a_k_given 256 k_given]) (w1 := []) (va_runSN (As := [.int p1, .int p2]) (rest := [.ref a_k_given]) S (c_X11_cell l E p1 p2 (f_X11_cell p1 p2) rfl _) ⟨(va_cnB 2 S.2.2.2.2 gX6_replace_X11_cell_n25 rfl rfl rfl (hN.2 _ w25) kIX11 (by decide +kernel) (rm_le (by omega) (by decide))), kSX11_cell, trivial⟩ (preS hN hw [] rfl rfl) rfl rfl hl.1 rfl (lv_room (Nat.le_of_ble_eq_true rfl)) dX6_replace_28 ⟨Nat.le_refl _, Nat.le_refl _⟩) hw hA [] [0, 1] rfl rfl rfl (by decide) (fun H locs hw => ?_)
  have hw : Wo E A s [oC a_k 6 [.int (k_age + 1), .ref a_k_given], aI E a_k_given 256 k_given] H _ := hw
  refine lv_iload_n S.1 S.2.1 dX6_replace_31 rfl (lv_at hl 4 rfl) ?_
  obtain ⟨hi_5, hf⟩ := wr_s hf
  refine g_iast (n := 256) (f := k_given) (w1 := [oC a_k 6 [.int (k_age + 1), .ref a_k_given], aI E a_k_given 256 (va_up k_given ((f_X11_cell p1 p2) : Int32).toNatClampNeg p3)]) S hN hw 1 hi_5 dX6_replace_32 rfl rfl (fun H locs hw => ?_)
  generalize va_up k_given ((f_X11_cell p1 p2) : Int32).toNatClampNeg p3 = k_given_6 at hf hw
  refine lv_iload S.1 S.2.1 dX6_replace_33 (lv_at hl 0 rfl) ?_
  cases hf
  exact hE _ _ _ _ hw dX6_replace_35
def f_X6_removeAll (F : Nat) (k_age : Int32) (k_given : Nat → Int32) : Option (Int32 × (Nat → Int32)) :=
  (f_J7_fill_53178 F (-1) k_given 256).bind (fun p1_1 => some ((k_age + 1), p1_1))
set_option maxHeartbeats 4000000 in
set_option maxRecDepth 100000 in
theorem c_X6_removeAll (l : Launch) (E : Ev) (F : Nat) (k_age : Int32) (k_given : Nat → Int32) (a_k_given : Nat) (a_k : Nat) (u_k_age : Int32) (u_k_given : Nat → Int32) (hf : f_X6_removeAll F k_age k_given = some (u_k_age, u_k_given)) :
    CtV l yX6_removeAll wsX6_removeAll (Rm 1) E [.ref a_k] [oC a_k 6 [.int k_age, .ref a_k_given], aI E a_k_given 256 k_given] [oC a_k 6 [.int u_k_age, .ref a_k_given], aI E a_k_given 256 u_k_given] := by
  refine ofV (cc := cX6_removeAll) (maxL := 1) (own := RX6) rfl rfl (by decide) rfl rfl ?_
  intro p e s m below meth c A ls Q S hnm hN hw hA hl0 hE
  have hl : lv_has ls 1 [(0, .ref a_k)] := hl0 _ (lv_entry [.ref a_k] (n := 1) (Nat.le_of_ble_eq_true rfl))
  have iX6 : ∀ w ∈ wsX60, w ∈ wsX6_removeAll := by decide +kernel
  have k21 := S.2.2.2.2 (.fieldLink RX6 21 "PairMatching$Ranks" "age" "I") (by decide +kernel)
  have k9 := S.2.2.2.2 (.fieldLink RX6 9 "PairMatching$Ranks" "given" "[I") (by decide +kernel)
  unfold f_X6_removeAll at hf
  refine lv_aload_n S.1 S.2.1 dX6_removeAll_0 rfl (lv_at hl 0 rfl) ?_
  refine lv_dup S.1 S.2.1 dX6_removeAll_1 rfl ?_
  refine g_get S hN hw (C := RX6) (T := TX6) (N := 2) (ci := 6) (v := .int k_age) 0 0 iX6 k21 dX6_removeAll_2 rfl rfl (by decide) rfl ?_
  refine lv_iconst (v := 1) S.1 S.2.1 dX6_removeAll_5 (by decide) ?_
  refine lv_iadd S.1 S.2.1 dX6_removeAll_6 ?_
  refine g_put S hN hw (C := RX6) (T := TX6) (N := 2) (ci := 6) (ty := .int) (w1 := [oC a_k 6 [.int (k_age + 1), .ref a_k_given], aI E a_k_given 256 k_given]) 0 0 iX6 k21 tyX6 tyX6_ok nmX6 dX6_removeAll_7 rfl rfl (by decide) rfl (by decide +kernel) rfl rfl (Nat.le_of_ble_eq_true rfl) rfl (fun H locs hw => ?_)
  refine lv_aload_n S.1 S.2.1 dX6_removeAll_10 rfl (lv_at hl 0 rfl) ?_
  refine g_get S hN hw (C := RX6) (T := TX6) (N := 2) (ci := 6) (v := .ref a_k_given) 0 1 iX6 k9 dX6_removeAll_11 rfl rfl (by decide) rfl ?_
  refine lv_iconst (v := (-1)) S.1 S.2.1 dX6_removeAll_14 (by decide) ?_
  obtain ⟨p1_1, hc_1, hf⟩ := bd_s hf
  refine g_callv (wc := [aI E a_k_given 256 k_given]) (wr := [oC a_k 6 [.int (k_age + 1), .ref a_k_given]]) (w1 := [aI E a_k_given 256 p1_1]) (va_runS (As := [.ref a_k_given, .int (-1)]) (rest := []) S (c_J7_fill_53178 l E F a_k_given k_given 256 (-1) p1_1 hc_1 _) (va_cwS 2 S.2.2.2.2 gX6_removeAll_J7_fill_53178 rfl rfl rfl (by decide +kernel) (rm_le (by omega) (by decide))) (preS hN hw [1] rfl rfl) rfl rfl hl.1 rfl (lv_room (Nat.le_of_ble_eq_true rfl)) dX6_removeAll_15 ⟨Nat.le_refl _, Nat.le_refl _⟩) hw hA [1] [0] rfl rfl rfl (by decide) (fun H locs hw => ?_)
  have hw : Wo E A s [oC a_k 6 [.int (k_age + 1), .ref a_k_given], aI E a_k_given 256 p1_1] H _ := hw
  cases hf
  exact hE _ _ _ _ hw dX6_removeAll_18
def f_X8_at (F : Nat) (p2 : Int32) (s_sizeAndLeft : Nat → Int32) (r_slots : Nat → Int32) (r_slotOf : Nat → Int32) (r_sets : Nat → Int32) (r_amount : Int32) : Option (Int32) :=
  (f_X7_placeOf F p2 r_slots r_slotOf r_sets r_amount).bind (fun r_1 => (if r_1 = (-1) then some 0 else rd 2584 s_sizeAndLeft r_1 (fun y_4 => some y_4)))
set_option maxHeartbeats 4000000 in
set_option maxRecDepth 100000 in
theorem c_X8_at (l : Launch) (E : Ev) (F : Nat) (a_g : Nat) (a_qp : Nat) (a_qw : Nat) (s_sizeAndLeft : Nat → Int32) (a_s_sizeAndLeft : Nat) (s_lefts : Int32) (s_besides : Int32) (s_uncovered : Int32) (s_age : Int32) (a_s : Nat) (r_slots : Nat → Int32) (a_r_slots : Nat) (r_slotOf : Nat → Int32) (a_r_slotOf : Nat) (r_sets : Nat → Int32) (a_r_sets : Nat) (a_r_later : Nat) (a_r_laters : Nat) (r_mayLeave : Int32) (r_amount : Int32) (a_r : Nat) (p2 : Int32) (ro : Int32) (hf : f_X8_at F p2 s_sizeAndLeft r_slots r_slotOf r_sets r_amount = some ro) :
    CtI l yX8_at wsX8_at (Rm 1) E [.ref a_s, .ref a_r, .int p2] [oC a_s 8 [.ref a_g, .ref a_qp, .ref a_qw, .ref a_s_sizeAndLeft, .int s_lefts, .int s_besides, .int s_uncovered, .int s_age], aI E a_s_sizeAndLeft 2584 s_sizeAndLeft, oC a_r 7 [.ref a_r_slots, .ref a_r_slotOf, .ref a_r_sets, .ref a_r_later, .ref a_r_laters, .int r_mayLeave, .int r_amount], aI E a_r_slots 4096 r_slots, aI E a_r_slotOf 2584 r_slotOf, aI E a_r_sets 2584 r_sets] ro [oC a_s 8 [.ref a_g, .ref a_qp, .ref a_qw, .ref a_s_sizeAndLeft, .int s_lefts, .int s_besides, .int s_uncovered, .int s_age], aI E a_s_sizeAndLeft 2584 s_sizeAndLeft, oC a_r 7 [.ref a_r_slots, .ref a_r_slotOf, .ref a_r_sets, .ref a_r_later, .ref a_r_laters, .int r_mayLeave, .int r_amount], aI E a_r_slots 4096 r_slots, aI E a_r_slotOf 2584 r_slotOf, aI E a_r_sets 2584 r_sets] := by
  refine ofI (cc := cX8_at) (maxL := 4) (own := RX8) rfl rfl (by decide) rfl rfl ?_
  intro p e s m below meth c A ls Q S hnm hN hw hA hl0 hE
  have hl : lv_has ls 4 [(0, .ref a_s), (1, .ref a_r), (2, .int p2)] := hl0 _ (lv_entry [.ref a_s, .ref a_r, .int p2] (n := 4) (Nat.le_of_ble_eq_true rfl))
  have iX8 : ∀ w ∈ wsX80, w ∈ wsX8_at := by decide +kernel
  have k23 := S.2.2.2.2 (.fieldLink RX8 23 "PairMatching$Sorts" "sizeAndLeft" "[I") (by decide +kernel)
  unfold f_X8_at at hf
  refine lv_aload_n S.1 S.2.1 dX8_at_0 rfl (lv_at hl 1 rfl) ?_
  refine lv_iload_n S.1 S.2.1 dX8_at_1 rfl (lv_at hl 2 rfl) ?_
  obtain ⟨r_1, hc_1, hf⟩ := bd_s hf
  refine g_calli (r := r_1) (wc := [oC a_r 7 [.ref a_r_slots, .ref a_r_slotOf, .ref a_r_sets, .ref a_r_later, .ref a_r_laters, .int r_mayLeave, .int r_amount], aI E a_r_slots 4096 r_slots, aI E a_r_slotOf 2584 r_slotOf, aI E a_r_sets 2584 r_sets]) (wr := [oC a_s 8 [.ref a_g, .ref a_qp, .ref a_qw, .ref a_s_sizeAndLeft, .int s_lefts, .int s_besides, .int s_uncovered, .int s_age], aI E a_s_sizeAndLeft 2584 s_sizeAndLeft]) (w1 := [oC a_r 7 [.ref a_r_slots, .ref a_r_slotOf, .ref a_r_sets, .ref a_r_later, .ref a_r_laters, .int r_mayLeave, .int r_amount], aI E a_r_slots 4096 r_slots, aI E a_r_slotOf 2584 r_slotOf, aI E a_r_sets 2584 r_sets]) (va_runV (As := [.int p2]) (rest := []) S (c_X7_placeOf l E F r_slots a_r_slots r_slotOf a_r_slotOf r_sets a_r_sets a_r_later a_r_laters r_mayLeave r_amount a_r p2 r_1 hc_1 _) (cwV 1 S.2.2.2.2 gX8_at_X7_placeOf rfl rfl rfl (by decide +kernel) (rm_le (by omega) (by decide))) (preV (q := (RX7, TX7, 7)) hN hw [2, 3, 4, 5] rfl rfl rfl rfl) rfl rfl hl.1 rfl (lv_room (Nat.le_of_ble_eq_true rfl)) dX8_at_2 ⟨Nat.le_refl _, Nat.le_refl _⟩) hw hA [2, 3, 4, 5] [0, 1] rfl rfl rfl (by decide) (fun H locs hw => ?_)
  have hw : Wo E A s [oC a_s 8 [.ref a_g, .ref a_qp, .ref a_qw, .ref a_s_sizeAndLeft, .int s_lefts, .int s_besides, .int s_uncovered, .int s_age], aI E a_s_sizeAndLeft 2584 s_sizeAndLeft, oC a_r 7 [.ref a_r_slots, .ref a_r_slotOf, .ref a_r_sets, .ref a_r_later, .ref a_r_laters, .int r_mayLeave, .int r_amount], aI E a_r_slots 4096 r_slots, aI E a_r_slotOf 2584 r_slotOf, aI E a_r_sets 2584 r_sets] H _ := hw
  refine lv_istore_n (lv' := [(3, .int r_1), (0, .ref a_s), (1, .ref a_r), (2, .int p2)]) S.1 S.2.1 dX8_at_5 rfl hl (by decide) rfl (fun ls hl => ?_)
  refine lv_iload_n S.1 S.2.1 dX8_at_6 rfl (lv_at hl 0 rfl) ?_
  refine lv_iconst (v := (-1)) S.1 S.2.1 dX8_at_7 (by decide) ?_
  refine lv_icmp_ne (tgt := 15) S.1 S.2.1 dX8_at_8 (by decide) (fun h_3 => ?_) (fun h_3 => ?_)
  · replace hf := if_f h_3 hf
    refine lv_aload_n S.1 S.2.1 dX8_at_15 rfl (lv_at hl 1 rfl) ?_
    refine g_get S hN hw (C := RX8) (T := TX8) (N := 8) (ci := 8) (v := .ref a_s_sizeAndLeft) 0 3 iX8 k23 dX8_at_16 rfl rfl (by decide) rfl ?_
    refine lv_iload_n S.1 S.2.1 dX8_at_19 rfl (lv_at hl 0 rfl) ?_
    obtain ⟨hi_3, hf⟩ := rd_s hf
    refine g_iald (n := 2584) (f := s_sizeAndLeft) S hN hw 1 hi_3 dX8_at_20 rfl ?_
    generalize s_sizeAndLeft (r_1 : Int32).toNatClampNeg = y_4 at hf ⊢
    cases hf
    exact hE _ _ _ _ hw dX8_at_21
  · replace hf := if_t h_3 hf
    refine lv_iconst (v := 0) S.1 S.2.1 dX8_at_11 (by decide) ?_
    refine lv_goto (tgt := 21) S.1 S.2.1 dX8_at_12 (by decide) ?_
    cases hf
    exact hE _ _ _ _ hw dX8_at_21
def f_X8_better (p1 : Int32) (p2 : Int32) : Int32 :=
  (if (p1 / 65536) = (p2 / 65536) then (p1 ||| p2) else (if (p1 / 65536) ≤ (p2 / 65536) then p2 else p1))
set_option maxHeartbeats 4000000 in
set_option maxRecDepth 100000 in
theorem c_X8_better (l : Launch) (E : Ev) (p1 : Int32) (p2 : Int32) (ro : Int32) (hf : f_X8_better p1 p2 = ro) :
    CtI l yX8_better wsX8_better (Rm 0) E [.int p1, .int p2] [] ro [] := by
  refine ofI (cc := cX8_better) (maxL := 4) (own := RX8) rfl rfl (by decide) rfl rfl ?_
  intro p e s m below meth c A ls Q S hnm hN hw hA hl0 hE
  have hl : lv_has ls 4 [(0, .int p1), (1, .int p2)] := hl0 _ (lv_entry [.int p1, .int p2] (n := 4) (Nat.le_of_ble_eq_true rfl))
  have k77 := S.2.2.2.2 (.constant RX8 77 65536) (by decide +kernel)
  unfold f_X8_better at hf
  refine lv_iload_n S.1 S.2.1 dX8_better_0 rfl (lv_at hl 0 rfl) ?_
  refine lv_ldc (v := 65536) S.1 S.2.1 S.2.2.2.1 k77 dX8_better_1 ?_
  refine lv_idiv S.1 S.2.1 dX8_better_3 (by decide) ?_
  refine lv_istore_n (lv' := [(2, .int (p1 / 65536)), (0, .int p1), (1, .int p2)]) S.1 S.2.1 dX8_better_4 rfl hl (by decide) rfl (fun ls hl => ?_)
  refine lv_iload_n S.1 S.2.1 dX8_better_5 rfl (lv_at hl 2 rfl) ?_
  refine lv_ldc (v := 65536) S.1 S.2.1 S.2.2.2.1 k77 dX8_better_6 ?_
  refine lv_idiv S.1 S.2.1 dX8_better_8 (by decide) ?_
  refine lv_istore_n (lv' := [(3, .int (p2 / 65536)), (2, .int (p1 / 65536)), (0, .int p1), (1, .int p2)]) S.1 S.2.1 dX8_better_9 rfl hl (by decide) rfl (fun ls hl => ?_)
  refine lv_iload_n S.1 S.2.1 dX8_better_10 rfl (lv_at hl 1 rfl) ?_
  refine lv_iload_n S.1 S.2.1 dX8_better_11 rfl (lv_at hl 0 rfl) ?_
  refine lv_icmp_ne (tgt := 19) S.1 S.2.1 dX8_better_12 (by decide) (fun h_1 => ?_) (fun h_1 => ?_)
  · replace hf := if_f h_1 hf
    refine lv_iload_n S.1 S.2.1 dX8_better_19 rfl (lv_at hl 1 rfl) ?_
    refine lv_iload_n S.1 S.2.1 dX8_better_20 rfl (lv_at hl 0 rfl) ?_
    refine lv_icmp_le (tgt := 28) S.1 S.2.1 dX8_better_21 (by decide) (fun h_2 => ?_) (fun h_2 => ?_)
    · replace hf := if_t h_2 hf
      refine lv_iload_n S.1 S.2.1 dX8_better_28 rfl (lv_at hl 3 rfl) ?_
      cases hf
      exact hE _ _ _ _ hw dX8_better_29
    · replace hf := if_f h_2 hf
      refine lv_iload_n S.1 S.2.1 dX8_better_24 rfl (lv_at hl 2 rfl) ?_
      refine lv_goto (tgt := 29) S.1 S.2.1 dX8_better_25 (by decide) ?_
      cases hf
      exact hE _ _ _ _ hw dX8_better_29
  · replace hf := if_t h_1 hf
    refine lv_iload_n S.1 S.2.1 dX8_better_15 rfl (lv_at hl 2 rfl) ?_
    refine lv_iload_n S.1 S.2.1 dX8_better_16 rfl (lv_at hl 3 rfl) ?_
    refine lv_ior S.1 S.2.1 dX8_better_17 ?_
    cases hf
    exact hE _ _ _ _ hw dX8_better_18
def f_X8_leftsOf_L28 (F : Nat) (s_sizeAndLeft : Nat → Int32) (r_slots : Nat → Int32) (r_slotOf : Nat → Int32) (r_sets : Nat → Int32) (r_later : Nat → Int32) (r_laters : Nat → Int32) (r_amount : Int32) (p2 : Int32) (kk_92_5 : Int32 → Option (Int32)) : Nat → Int32 → Int32 → Option (Int32)
  | 0, _, _ => none
  | n + 1, v5_7, v6_8 => rd 16 r_laters (f_X11_leastNode p2) (fun y_9 => (if y_9 ≤ v6_8 then (kk_92_5 v5_7) else rd 256 r_later (f_X11_cell (f_X11_leastNode p2) v6_8) (fun y_13 => (if (f_X11_has (p2 &&& (p2 - 1)) y_13) = 0 then (f_X8_leftsOf_L28 F s_sizeAndLeft r_slots r_slotOf r_sets r_later r_laters r_amount p2 kk_92_5 n v5_7 (v6_8 + 1)) else (f_X8_at F ((p2 &&& (p2 - 1)) &&& (((1 : Int32) <<< (y_13 &&& 31)) ^^^ (-1))) s_sizeAndLeft r_slots r_slotOf r_sets r_amount).bind (fun r_17 => (f_X8_leftsOf_L28 F s_sizeAndLeft r_slots r_slotOf r_sets r_later r_laters r_amount p2 kk_92_5 n (f_X8_better v5_7 (r_17 + 65536)) (v6_8 + 1)))))))
def f_X8_leftsOf (F : Nat) (p2 : Int32) (s_sizeAndLeft : Nat → Int32) (r_slots : Nat → Int32) (r_slotOf : Nat → Int32) (r_sets : Nat → Int32) (r_later : Nat → Int32) (r_laters : Nat → Int32) (r_amount : Int32) : Option (Int32) :=
  (f_X8_at F (p2 &&& (p2 - 1)) s_sizeAndLeft r_slots r_slotOf r_sets r_amount).bind (fun r_3 => (jn (fun (v5_5 : Int32) => some v5_5) (fun kk_92_5 => (f_X8_leftsOf_L28 F s_sizeAndLeft r_slots r_slotOf r_sets r_later r_laters r_amount p2 kk_92_5 F (r_3 ||| ((1 : Int32) <<< ((f_X11_leastNode p2) &&& 31))) 0))))
set_option maxHeartbeats 4000000 in
set_option maxRecDepth 100000 in
theorem c_X8_leftsOf (l : Launch) (E : Ev) (F : Nat) (a_g : Nat) (a_qp : Nat) (a_qw : Nat) (s_sizeAndLeft : Nat → Int32) (a_s_sizeAndLeft : Nat) (s_lefts : Int32) (s_besides : Int32) (s_uncovered : Int32) (s_age : Int32) (a_s : Nat) (r_slots : Nat → Int32) (a_r_slots : Nat) (r_slotOf : Nat → Int32) (a_r_slotOf : Nat) (r_sets : Nat → Int32) (a_r_sets : Nat) (r_later : Nat → Int32) (a_r_later : Nat) (r_laters : Nat → Int32) (a_r_laters : Nat) (r_mayLeave : Int32) (r_amount : Int32) (a_r : Nat) (p2 : Int32) (ro : Int32) (hf : f_X8_leftsOf F p2 s_sizeAndLeft r_slots r_slotOf r_sets r_later r_laters r_amount = some ro) :
    CtI l yX8_leftsOf wsX8_leftsOf (Rm 2) E [.ref a_s, .ref a_r, .int p2] [oC a_s 8 [.ref a_g, .ref a_qp, .ref a_qw, .ref a_s_sizeAndLeft, .int s_lefts, .int s_besides, .int s_uncovered, .int s_age], aI E a_s_sizeAndLeft 2584 s_sizeAndLeft, oC a_r 7 [.ref a_r_slots, .ref a_r_slotOf, .ref a_r_sets, .ref a_r_later, .ref a_r_laters, .int r_mayLeave, .int r_amount], aI E a_r_slots 4096 r_slots, aI E a_r_slotOf 2584 r_slotOf, aI E a_r_sets 2584 r_sets, aI E a_r_later 256 r_later, aI E a_r_laters 16 r_laters] ro [oC a_s 8 [.ref a_g, .ref a_qp, .ref a_qw, .ref a_s_sizeAndLeft, .int s_lefts, .int s_besides, .int s_uncovered, .int s_age], aI E a_s_sizeAndLeft 2584 s_sizeAndLeft, oC a_r 7 [.ref a_r_slots, .ref a_r_slotOf, .ref a_r_sets, .ref a_r_later, .ref a_r_laters, .int r_mayLeave, .int r_amount], aI E a_r_slots 4096 r_slots, aI E a_r_slotOf 2584 r_slotOf, aI E a_r_sets 2584 r_sets, aI E a_r_later 256 r_later, aI E a_r_laters 16 r_laters] := by
  refine ofI (cc := cX8_leftsOf) (maxL := 8) (own := RX8) rfl rfl (by decide) rfl rfl ?_
  intro p e s m below meth c A ls Q S hnm hN hw hA hl0 hE
  have hl : lv_has ls 8 [(0, .ref a_s), (1, .ref a_r), (2, .int p2)] := hl0 _ (lv_entry [.ref a_s, .ref a_r, .int p2] (n := 8) (Nat.le_of_ble_eq_true rfl))
  have iX7 : ∀ w ∈ wsX70, w ∈ wsX8_leftsOf := by decide +kernel
  have k77 := S.2.2.2.2 (.constant RX8 77 65536) (by decide +kernel)
  have kIX11 := S.2.2.2.2 (.initialized RX11) (by decide +kernel)
  have kSX11_cell := S.2.2.2.2 (.static yX11_cell) (by decide +kernel)
  have kSX11_has := S.2.2.2.2 (.static yX11_has) (by decide +kernel)
  have kSX11_leastNode := S.2.2.2.2 (.static yX11_leastNode) (by decide +kernel)
  have w59 : Cond.methodLinkNest RX8 59 yX11_has "PairMatching" ∈ nestW := List.mem_of_getElem? (i := 77) rfl
  have w81 : Cond.methodLinkNest RX8 81 yX11_leastNode "PairMatching" ∈ nestW := List.mem_of_getElem? (i := 75) rfl
  have w88 : Cond.fieldLinkNest RX8 88 "PairMatching$Rests" "laters" "[I" "PairMatching" ∈ nestW := List.mem_of_getElem? (i := 47) rfl
  have w91 : Cond.fieldLinkNest RX8 91 "PairMatching$Rests" "later" "[I" "PairMatching" ∈ nestW := List.mem_of_getElem? (i := 44) rfl
  have w94 : Cond.methodLinkNest RX8 94 yX11_cell "PairMatching" ∈ nestW := List.mem_of_getElem? (i := 76) rfl
  unfold f_X8_leftsOf at hf
  refine lv_iload_n S.1 S.2.1 dX8_leftsOf_0 rfl (lv_at hl 2 rfl) ?_
  refine g_calli (r := (f_X11_leastNode p2)) (wc := []) (wr := [oC a_s 8 [.ref a_g, .ref a_qp, .ref a_qw, .ref a_s_sizeAndLeft, .int s_lefts, .int s_besides, .int s_uncovered, .int s_age], aI E a_s_sizeAndLeft 2584 s_sizeAndLeft, oC a_r 7 [.ref a_r_slots, .ref a_r_slotOf, .ref a_r_sets, .ref a_r_later, .ref a_r_laters, .int r_mayLeave, .int r_amount], aI E a_r_slots 4096 r_slots, aI E a_r_slotOf 2584 r_slotOf, aI E a_r_sets 2584 r_sets, aI E a_r_later 256 r_later, aI E a_r_laters 16 r_laters]) (w1 := []) (va_runSN (As := [.int p2]) (rest := []) S (c_X11_leastNode l E p2 (f_X11_leastNode p2) rfl _) ⟨(va_cnB 1 S.2.2.2.2 gX8_leftsOf_X11_leastNode_n81 rfl rfl rfl (hN.2 _ w81) kIX11 (by decide +kernel) (rm_le (by omega) (by decide))), kSX11_leastNode, trivial⟩ (preS hN hw [] rfl rfl) rfl rfl hl.1 rfl (lv_room (Nat.le_of_ble_eq_true rfl)) dX8_leftsOf_1 ⟨Nat.le_refl _, Nat.le_refl _⟩) hw hA [] [0, 1, 2, 3, 4, 5, 6, 7] rfl rfl rfl (by decide) (fun H locs hw => ?_)
  have hw : Wo E A s [oC a_s 8 [.ref a_g, .ref a_qp, .ref a_qw, .ref a_s_sizeAndLeft, .int s_lefts, .int s_besides, .int s_uncovered, .int s_age], aI E a_s_sizeAndLeft 2584 s_sizeAndLeft, oC a_r 7 [.ref a_r_slots, .ref a_r_slotOf, .ref a_r_sets, .ref a_r_later, .ref a_r_laters, .int r_mayLeave, .int r_amount], aI E a_r_slots 4096 r_slots, aI E a_r_slotOf 2584 r_slotOf, aI E a_r_sets 2584 r_sets, aI E a_r_later 256 r_later, aI E a_r_laters 16 r_laters] H _ := hw
  refine lv_istore_n (lv' := [(3, .int (f_X11_leastNode p2)), (0, .ref a_s), (1, .ref a_r), (2, .int p2)]) S.1 S.2.1 dX8_leftsOf_4 rfl hl (by decide) rfl (fun ls hl => ?_)
  refine lv_iload_n S.1 S.2.1 dX8_leftsOf_5 rfl (lv_at hl 3 rfl) ?_
  refine lv_iload_n S.1 S.2.1 dX8_leftsOf_6 rfl (lv_at hl 3 rfl) ?_
  refine lv_iconst (v := 1) S.1 S.2.1 dX8_leftsOf_7 (by decide) ?_
  refine lv_isub S.1 S.2.1 dX8_leftsOf_8 ?_
  refine lv_iand S.1 S.2.1 dX8_leftsOf_9 ?_
  refine lv_istore (lv' := [(4, .int (p2 &&& (p2 - 1))), (3, .int (f_X11_leastNode p2)), (0, .ref a_s), (1, .ref a_r), (2, .int p2)]) S.1 S.2.1 dX8_leftsOf_10 hl (by decide) rfl (fun ls hl => ?_)
  refine lv_aload_n S.1 S.2.1 dX8_leftsOf_12 rfl (lv_at hl 2 rfl) ?_
  refine lv_aload_n S.1 S.2.1 dX8_leftsOf_13 rfl (lv_at hl 3 rfl) ?_
  refine lv_iload S.1 S.2.1 dX8_leftsOf_14 (lv_at hl 0 rfl) ?_
  obtain ⟨r_3, hc_3, hf⟩ := bd_s hf
  refine g_calli (r := r_3) (wc := [oC a_s 8 [.ref a_g, .ref a_qp, .ref a_qw, .ref a_s_sizeAndLeft, .int s_lefts, .int s_besides, .int s_uncovered, .int s_age], aI E a_s_sizeAndLeft 2584 s_sizeAndLeft, oC a_r 7 [.ref a_r_slots, .ref a_r_slotOf, .ref a_r_sets, .ref a_r_later, .ref a_r_laters, .int r_mayLeave, .int r_amount], aI E a_r_slots 4096 r_slots, aI E a_r_slotOf 2584 r_slotOf, aI E a_r_sets 2584 r_sets]) (wr := [aI E a_r_later 256 r_later, aI E a_r_laters 16 r_laters]) (w1 := [oC a_s 8 [.ref a_g, .ref a_qp, .ref a_qw, .ref a_s_sizeAndLeft, .int s_lefts, .int s_besides, .int s_uncovered, .int s_age], aI E a_s_sizeAndLeft 2584 s_sizeAndLeft, oC a_r 7 [.ref a_r_slots, .ref a_r_slotOf, .ref a_r_sets, .ref a_r_later, .ref a_r_laters, .int r_mayLeave, .int r_amount], aI E a_r_slots 4096 r_slots, aI E a_r_slotOf 2584 r_slotOf, aI E a_r_sets 2584 r_sets]) (va_runV (As := [.ref a_r, .int (p2 &&& (p2 - 1))]) (rest := []) S (c_X8_at l E F a_g a_qp a_qw s_sizeAndLeft a_s_sizeAndLeft s_lefts s_besides s_uncovered s_age a_s r_slots a_r_slots r_slotOf a_r_slotOf r_sets a_r_sets a_r_later a_r_laters r_mayLeave r_amount a_r (p2 &&& (p2 - 1)) r_3 hc_3 _) (cwV 2 S.2.2.2.2 gX8_leftsOf_X8_at rfl rfl rfl (by decide +kernel) (rm_le (by omega) (by decide))) (preV (q := (RX8, TX8, 8)) hN hw [0, 1, 2, 3, 4, 5] rfl rfl rfl rfl) rfl rfl hl.1 rfl (lv_room (Nat.le_of_ble_eq_true rfl)) dX8_leftsOf_16 ⟨Nat.le_refl _, Nat.le_refl _⟩) hw hA [0, 1, 2, 3, 4, 5] [6, 7] rfl rfl rfl (by decide) (fun H locs hw => ?_)
  have hw : Wo E A s [aI E a_r_later 256 r_later, aI E a_r_laters 16 r_laters, oC a_s 8 [.ref a_g, .ref a_qp, .ref a_qw, .ref a_s_sizeAndLeft, .int s_lefts, .int s_besides, .int s_uncovered, .int s_age], aI E a_s_sizeAndLeft 2584 s_sizeAndLeft, oC a_r 7 [.ref a_r_slots, .ref a_r_slotOf, .ref a_r_sets, .ref a_r_later, .ref a_r_laters, .int r_mayLeave, .int r_amount], aI E a_r_slots 4096 r_slots, aI E a_r_slotOf 2584 r_slotOf, aI E a_r_sets 2584 r_sets] H _ := hw
  refine lv_iconst (v := 1) S.1 S.2.1 dX8_leftsOf_19 (by decide) ?_
  refine lv_iload_n S.1 S.2.1 dX8_leftsOf_20 rfl (lv_at hl 1 rfl) ?_
  refine lv_ishl S.1 S.2.1 dX8_leftsOf_21 ?_
  refine lv_ior S.1 S.2.1 dX8_leftsOf_22 ?_
  refine lv_istore (lv' := [(5, .int (r_3 ||| ((1 : Int32) <<< ((f_X11_leastNode p2) &&& 31)))), (4, .int (p2 &&& (p2 - 1))), (3, .int (f_X11_leastNode p2)), (0, .ref a_s), (1, .ref a_r), (2, .int p2)]) S.1 S.2.1 dX8_leftsOf_23 hl (by decide) rfl (fun ls hl => ?_)
  refine lv_iconst (v := 0) S.1 S.2.1 dX8_leftsOf_25 (by decide) ?_
  refine lv_istore (lv' := [(6, .int 0), (5, .int (r_3 ||| ((1 : Int32) <<< ((f_X11_leastNode p2) &&& 31)))), (4, .int (p2 &&& (p2 - 1))), (3, .int (f_X11_leastNode p2)), (0, .ref a_s), (1, .ref a_r), (2, .int p2)]) S.1 S.2.1 dX8_leftsOf_26 hl (by decide) rfl (fun ls hl => ?_)
  obtain ⟨kk_92_5, ekk_92_5, hf⟩ := jn_s hf
  have hJ_kk_92_5 : ∀ (v5_5 : Int32) (H : Heap) (locs : List Loc) (ls : Array Slot), Wo E A s [aI E a_r_later 256 r_later, aI E a_r_laters 16 r_laters, oC a_s 8 [.ref a_g, .ref a_qp, .ref a_qw, .ref a_s_sizeAndLeft, .int s_lefts, .int s_besides, .int s_uncovered, .int s_age], aI E a_s_sizeAndLeft 2584 s_sizeAndLeft, oC a_r 7 [.ref a_r_slots, .ref a_r_slotOf, .ref a_r_sets, .ref a_r_later, .ref a_r_laters, .int r_mayLeave, .int r_amount], aI E a_r_slots 4096 r_slots, aI E a_r_slotOf 2584 r_slotOf, aI E a_r_sets 2584 r_sets] H locs → lv_has ls 8 [(5, .int v5_5)] → kk_92_5 v5_5 = some ro → W p l e (Rm 2) s m (([.ref a_s, .ref a_r, .int p2] : List Value).toArray) below meth c H locs 0 0 Q (F0 m 92 ls []) := by
    intro v5_5 H locs ls hw hl hf
    rw [ekk_92_5] at hf
    refine lv_iload S.1 S.2.1 dX8_leftsOf_92 (lv_at hl 0 rfl) ?_
    cases hf
    exact hE _ _ _ _ (hw.sub [2, 3, 4, 5, 6, 7, 0, 1] rfl rfl) dX8_leftsOf_94
  have hL_28_20 : ∀ (n : Nat) (v5_7 : Int32) (v6_8 : Int32) (H : Heap) (locs : List Loc) (ls : Array Slot), Wo E A s [aI E a_r_later 256 r_later, aI E a_r_laters 16 r_laters, oC a_s 8 [.ref a_g, .ref a_qp, .ref a_qw, .ref a_s_sizeAndLeft, .int s_lefts, .int s_besides, .int s_uncovered, .int s_age], aI E a_s_sizeAndLeft 2584 s_sizeAndLeft, oC a_r 7 [.ref a_r_slots, .ref a_r_slotOf, .ref a_r_sets, .ref a_r_later, .ref a_r_laters, .int r_mayLeave, .int r_amount], aI E a_r_slots 4096 r_slots, aI E a_r_slotOf 2584 r_slotOf, aI E a_r_sets 2584 r_sets] H locs → lv_has ls 8 [(0, .ref a_s), (1, .ref a_r), (3, .int (f_X11_leastNode p2)), (4, .int (p2 &&& (p2 - 1))), (5, .int v5_7), (6, .int v6_8)] → f_X8_leftsOf_L28 F s_sizeAndLeft r_slots r_slotOf r_sets r_later r_laters r_amount p2 kk_92_5 n v5_7 v6_8 = some ro → W p l e (Rm 2) s m (([.ref a_s, .ref a_r, .int p2] : List Value).toArray) below meth c H locs 0 0 Q (F0 m 28 ls []) := by
    intro n
    induction n with
    | zero => intro v5_7 v6_8 H locs ls hw hl hf; unfold f_X8_leftsOf_L28 at hf; cases hf
    | succ n ih =>
      intro v5_7 v6_8 H locs ls hw hl hf
      unfold f_X8_leftsOf_L28 at hf
      refine lv_iload S.1 S.2.1 dX8_leftsOf_28 (lv_at hl 5 rfl) ?_
      refine lv_aload_n S.1 S.2.1 dX8_leftsOf_30 rfl (lv_at hl 1 rfl) ?_
      refine g_getN S hN hw (C := RX7) (T := TX7) (N := 7) (ci := 7) (v := .ref a_r_laters) 4 4 iX7 w88 dX8_leftsOf_31 rfl rfl (by decide) rfl ?_
      refine lv_iload_n S.1 S.2.1 dX8_leftsOf_34 rfl (lv_at hl 2 rfl) ?_
      obtain ⟨hi_8, hf⟩ := rd_s hf
      refine g_iald (n := 16) (f := r_laters) S hN hw 1 hi_8 dX8_leftsOf_35 rfl ?_
      generalize r_laters ((f_X11_leastNode p2) : Int32).toNatClampNeg = y_9 at hf ⊢
      refine lv_icmp_ge (tgt := 92) S.1 S.2.1 dX8_leftsOf_36 (by decide) (fun h_10 => ?_) (fun h_10 => ?_)
      · replace hf := if_t h_10 hf
        exact hJ_kk_92_5 v5_7 _ _ _ hw (lv_sub hl [4] rfl) hf
      · replace hf := if_f h_10 hf
        refine lv_aload_n S.1 S.2.1 dX8_leftsOf_39 rfl (lv_at hl 1 rfl) ?_
        refine g_getN S hN hw (C := RX7) (T := TX7) (N := 7) (ci := 7) (v := .ref a_r_later) 4 3 iX7 w91 dX8_leftsOf_40 rfl rfl (by decide) rfl ?_
        refine lv_iload_n S.1 S.2.1 dX8_leftsOf_43 rfl (lv_at hl 2 rfl) ?_
        refine lv_iload S.1 S.2.1 dX8_leftsOf_44 (lv_at hl 5 rfl) ?_
        refine g_calli (r := (f_X11_cell (f_X11_leastNode p2) v6_8)) (wc := []) (wr := [aI E a_r_later 256 r_later, aI E a_r_laters 16 r_laters, oC a_s 8 [.ref a_g, .ref a_qp, .ref a_qw, .ref a_s_sizeAndLeft, .int s_lefts, .int s_besides, .int s_uncovered, .int s_age], aI E a_s_sizeAndLeft 2584 s_sizeAndLeft, oC a_r 7 [.ref a_r_slots, .ref a_r_slotOf, .ref a_r_sets, .ref a_r_later, .ref a_r_laters, .int r_mayLeave, .int r_amount], aI E a_r_slots 4096 r_slots, aI E a_r_slotOf 2584 r_slotOf, aI E a_r_sets 2584 r_sets]) (w1 := []) (va_runSN (As := [.int (f_X11_leastNode p2), .int v6_8]) (rest := [.ref a_r_later]) S (c_X11_cell l E (f_X11_leastNode p2) v6_8 (f_X11_cell (f_X11_leastNode p2) v6_8) rfl _) ⟨(va_cnB 2 S.2.2.2.2 gX8_leftsOf_X11_cell_n94 rfl rfl rfl (hN.2 _ w94) kIX11 (by decide +kernel) (rm_le (by omega) (by decide))), kSX11_cell, trivial⟩ (preS hN hw [] rfl rfl) rfl rfl hl.1 rfl (lv_room (Nat.le_of_ble_eq_true rfl)) dX8_leftsOf_46 ⟨Nat.le_refl _, Nat.le_refl _⟩) hw hA [] [0, 1, 2, 3, 4, 5, 6, 7] rfl rfl rfl (by decide) (fun H locs hw => ?_)
        have hw : Wo E A s [aI E a_r_later 256 r_later, aI E a_r_laters 16 r_laters, oC a_s 8 [.ref a_g, .ref a_qp, .ref a_qw, .ref a_s_sizeAndLeft, .int s_lefts, .int s_besides, .int s_uncovered, .int s_age], aI E a_s_sizeAndLeft 2584 s_sizeAndLeft, oC a_r 7 [.ref a_r_slots, .ref a_r_slotOf, .ref a_r_sets, .ref a_r_later, .ref a_r_laters, .int r_mayLeave, .int r_amount], aI E a_r_slots 4096 r_slots, aI E a_r_slotOf 2584 r_slotOf, aI E a_r_sets 2584 r_sets] H _ := hw
        obtain ⟨hi_12, hf⟩ := rd_s hf
        refine g_iald (n := 256) (f := r_later) S hN hw 0 hi_12 dX8_leftsOf_49 rfl ?_
        generalize r_later ((f_X11_cell (f_X11_leastNode p2) v6_8) : Int32).toNatClampNeg = y_13 at hf ⊢
        refine lv_istore (lv' := [(7, .int y_13), (0, .ref a_s), (1, .ref a_r), (3, .int (f_X11_leastNode p2)), (4, .int (p2 &&& (p2 - 1))), (5, .int v5_7), (6, .int v6_8)]) S.1 S.2.1 dX8_leftsOf_50 hl (by decide) rfl (fun ls hl => ?_)
        refine lv_iload S.1 S.2.1 dX8_leftsOf_52 (lv_at hl 4 rfl) ?_
        refine lv_iload S.1 S.2.1 dX8_leftsOf_54 (lv_at hl 0 rfl) ?_
        refine g_calli (r := (f_X11_has (p2 &&& (p2 - 1)) y_13)) (wc := []) (wr := [aI E a_r_later 256 r_later, aI E a_r_laters 16 r_laters, oC a_s 8 [.ref a_g, .ref a_qp, .ref a_qw, .ref a_s_sizeAndLeft, .int s_lefts, .int s_besides, .int s_uncovered, .int s_age], aI E a_s_sizeAndLeft 2584 s_sizeAndLeft, oC a_r 7 [.ref a_r_slots, .ref a_r_slotOf, .ref a_r_sets, .ref a_r_later, .ref a_r_laters, .int r_mayLeave, .int r_amount], aI E a_r_slots 4096 r_slots, aI E a_r_slotOf 2584 r_slotOf, aI E a_r_sets 2584 r_sets]) (w1 := []) (va_runSN (As := [.int (p2 &&& (p2 - 1)), .int y_13]) (rest := []) S (c_X11_has l E (p2 &&& (p2 - 1)) y_13 (f_X11_has (p2 &&& (p2 - 1)) y_13) rfl _) ⟨(va_cnB 2 S.2.2.2.2 gX8_leftsOf_X11_has_n59 rfl rfl rfl (hN.2 _ w59) kIX11 (by decide +kernel) (rm_le (by omega) (by decide))), kSX11_has, trivial⟩ (preS hN hw [] rfl rfl) rfl rfl hl.1 rfl (lv_room (Nat.le_of_ble_eq_true rfl)) dX8_leftsOf_56 ⟨Nat.le_refl _, Nat.le_refl _⟩) hw hA [] [0, 1, 2, 3, 4, 5, 6, 7] rfl rfl rfl (by decide) (fun H locs hw => ?_)
        have hw : Wo E A s [aI E a_r_later 256 r_later, aI E a_r_laters 16 r_laters, oC a_s 8 [.ref a_g, .ref a_qp, .ref a_qw, .ref a_s_sizeAndLeft, .int s_lefts, .int s_besides, .int s_uncovered, .int s_age], aI E a_s_sizeAndLeft 2584 s_sizeAndLeft, oC a_r 7 [.ref a_r_slots, .ref a_r_slotOf, .ref a_r_sets, .ref a_r_later, .ref a_r_laters, .int r_mayLeave, .int r_amount], aI E a_r_slots 4096 r_slots, aI E a_r_slotOf 2584 r_slotOf, aI E a_r_sets 2584 r_sets] H _ := hw
        refine lv_if_eq (tgt := 86) S.1 S.2.1 dX8_leftsOf_59 (by decide) (fun h_16 => ?_) (fun h_16 => ?_)
        · replace hf := if_t h_16 hf
          refine lv_iinc (v := (v6_8 + 1)) (lv' := [(6, .int (v6_8 + 1)), (7, .int y_13), (0, .ref a_s), (1, .ref a_r), (3, .int (f_X11_leastNode p2)), (4, .int (p2 &&& (p2 - 1))), (5, .int v5_7)]) S.1 S.2.1 dX8_leftsOf_86 hl (k := 6) rfl rfl (by decide) rfl (fun ls hl => ?_)
          refine lv_goto (tgt := 28) S.1 S.2.1 dX8_leftsOf_89 (by decide) ?_
          exact ih v5_7 (v6_8 + 1) _ _ _ hw (lv_sub hl [2, 3, 4, 5, 6, 0] rfl) hf
        · replace hf := if_f h_16 hf
          refine lv_iload S.1 S.2.1 dX8_leftsOf_62 (lv_at hl 5 rfl) ?_
          refine lv_aload_n S.1 S.2.1 dX8_leftsOf_64 rfl (lv_at hl 1 rfl) ?_
          refine lv_aload_n S.1 S.2.1 dX8_leftsOf_65 rfl (lv_at hl 2 rfl) ?_
          refine lv_iload S.1 S.2.1 dX8_leftsOf_66 (lv_at hl 4 rfl) ?_
          refine lv_iconst (v := 1) S.1 S.2.1 dX8_leftsOf_68 (by decide) ?_
          refine lv_iload S.1 S.2.1 dX8_leftsOf_69 (lv_at hl 0 rfl) ?_
          refine lv_ishl S.1 S.2.1 dX8_leftsOf_71 ?_
          refine lv_iconst (v := (-1)) S.1 S.2.1 dX8_leftsOf_72 (by decide) ?_
          refine lv_ixor S.1 S.2.1 dX8_leftsOf_73 ?_
          refine lv_iand S.1 S.2.1 dX8_leftsOf_74 ?_
          obtain ⟨r_17, hc_17, hf⟩ := bd_s hf
          refine g_calli (r := r_17) (wc := [oC a_s 8 [.ref a_g, .ref a_qp, .ref a_qw, .ref a_s_sizeAndLeft, .int s_lefts, .int s_besides, .int s_uncovered, .int s_age], aI E a_s_sizeAndLeft 2584 s_sizeAndLeft, oC a_r 7 [.ref a_r_slots, .ref a_r_slotOf, .ref a_r_sets, .ref a_r_later, .ref a_r_laters, .int r_mayLeave, .int r_amount], aI E a_r_slots 4096 r_slots, aI E a_r_slotOf 2584 r_slotOf, aI E a_r_sets 2584 r_sets]) (wr := [aI E a_r_later 256 r_later, aI E a_r_laters 16 r_laters]) (w1 := [oC a_s 8 [.ref a_g, .ref a_qp, .ref a_qw, .ref a_s_sizeAndLeft, .int s_lefts, .int s_besides, .int s_uncovered, .int s_age], aI E a_s_sizeAndLeft 2584 s_sizeAndLeft, oC a_r 7 [.ref a_r_slots, .ref a_r_slotOf, .ref a_r_sets, .ref a_r_later, .ref a_r_laters, .int r_mayLeave, .int r_amount], aI E a_r_slots 4096 r_slots, aI E a_r_slotOf 2584 r_slotOf, aI E a_r_sets 2584 r_sets]) (va_runV (As := [.ref a_r, .int ((p2 &&& (p2 - 1)) &&& (((1 : Int32) <<< (y_13 &&& 31)) ^^^ (-1)))]) (rest := [.int v5_7]) S (c_X8_at l E F a_g a_qp a_qw s_sizeAndLeft a_s_sizeAndLeft s_lefts s_besides s_uncovered s_age a_s r_slots a_r_slots r_slotOf a_r_slotOf r_sets a_r_sets a_r_later a_r_laters r_mayLeave r_amount a_r ((p2 &&& (p2 - 1)) &&& (((1 : Int32) <<< (y_13 &&& 31)) ^^^ (-1))) r_17 hc_17 _) (cwV 2 S.2.2.2.2 gX8_leftsOf_X8_at rfl rfl rfl (by decide +kernel) (rm_le (by omega) (by decide))) (preV (q := (RX8, TX8, 8)) hN hw [2, 3, 4, 5, 6, 7] rfl rfl rfl rfl) rfl rfl hl.1 rfl (lv_room (Nat.le_of_ble_eq_true rfl)) dX8_leftsOf_75 ⟨Nat.le_refl _, Nat.le_refl _⟩) hw hA [2, 3, 4, 5, 6, 7] [0, 1] rfl rfl rfl (by decide) (fun H locs hw => ?_)
          have hw : Wo E A s [aI E a_r_later 256 r_later, aI E a_r_laters 16 r_laters, oC a_s 8 [.ref a_g, .ref a_qp, .ref a_qw, .ref a_s_sizeAndLeft, .int s_lefts, .int s_besides, .int s_uncovered, .int s_age], aI E a_s_sizeAndLeft 2584 s_sizeAndLeft, oC a_r 7 [.ref a_r_slots, .ref a_r_slotOf, .ref a_r_sets, .ref a_r_later, .ref a_r_laters, .int r_mayLeave, .int r_amount], aI E a_r_slots 4096 r_slots, aI E a_r_slotOf 2584 r_slotOf, aI E a_r_sets 2584 r_sets] H _ := hw
          refine lv_ldc (v := 65536) S.1 S.2.1 S.2.2.2.1 k77 dX8_leftsOf_78 ?_
          refine lv_iadd S.1 S.2.1 dX8_leftsOf_80 ?_
          refine g_calli (r := (f_X8_better v5_7 (r_17 + 65536))) (wc := []) (wr := [aI E a_r_later 256 r_later, aI E a_r_laters 16 r_laters, oC a_s 8 [.ref a_g, .ref a_qp, .ref a_qw, .ref a_s_sizeAndLeft, .int s_lefts, .int s_besides, .int s_uncovered, .int s_age], aI E a_s_sizeAndLeft 2584 s_sizeAndLeft, oC a_r 7 [.ref a_r_slots, .ref a_r_slotOf, .ref a_r_sets, .ref a_r_later, .ref a_r_laters, .int r_mayLeave, .int r_amount], aI E a_r_slots 4096 r_slots, aI E a_r_slotOf 2584 r_slotOf, aI E a_r_sets 2584 r_sets]) (w1 := []) (va_runS (As := [.int v5_7, .int (r_17 + 65536)]) (rest := []) S (c_X8_better l E v5_7 (r_17 + 65536) (f_X8_better v5_7 (r_17 + 65536)) rfl _) (va_cwS 2 S.2.2.2.2 gX8_leftsOf_X8_better rfl rfl rfl (by decide +kernel) (rm_le (by omega) (by decide))) (preS hN hw [] rfl rfl) rfl rfl hl.1 rfl (lv_room (Nat.le_of_ble_eq_true rfl)) dX8_leftsOf_81 ⟨Nat.le_refl _, Nat.le_refl _⟩) hw hA [] [0, 1, 2, 3, 4, 5, 6, 7] rfl rfl rfl (by decide) (fun H locs hw => ?_)
          have hw : Wo E A s [aI E a_r_later 256 r_later, aI E a_r_laters 16 r_laters, oC a_s 8 [.ref a_g, .ref a_qp, .ref a_qw, .ref a_s_sizeAndLeft, .int s_lefts, .int s_besides, .int s_uncovered, .int s_age], aI E a_s_sizeAndLeft 2584 s_sizeAndLeft, oC a_r 7 [.ref a_r_slots, .ref a_r_slotOf, .ref a_r_sets, .ref a_r_later, .ref a_r_laters, .int r_mayLeave, .int r_amount], aI E a_r_slots 4096 r_slots, aI E a_r_slotOf 2584 r_slotOf, aI E a_r_sets 2584 r_sets] H _ := hw
          refine lv_istore (lv' := [(5, .int (f_X8_better v5_7 (r_17 + 65536))), (7, .int y_13), (0, .ref a_s), (1, .ref a_r), (3, .int (f_X11_leastNode p2)), (4, .int (p2 &&& (p2 - 1))), (6, .int v6_8)]) S.1 S.2.1 dX8_leftsOf_84 hl (by decide) rfl (fun ls hl => ?_)
          refine lv_iinc (v := (v6_8 + 1)) (lv' := [(6, .int (v6_8 + 1)), (5, .int (f_X8_better v5_7 (r_17 + 65536))), (7, .int y_13), (0, .ref a_s), (1, .ref a_r), (3, .int (f_X11_leastNode p2)), (4, .int (p2 &&& (p2 - 1)))]) S.1 S.2.1 dX8_leftsOf_86 hl (k := 6) rfl rfl (by decide) rfl (fun ls hl => ?_)
          refine lv_goto (tgt := 28) S.1 S.2.1 dX8_leftsOf_89 (by decide) ?_
          exact ih (f_X8_better v5_7 (r_17 + 65536)) (v6_8 + 1) _ _ _ hw (lv_sub hl [3, 4, 5, 6, 1, 0] rfl) hf
  exact hL_28_20 F (r_3 ||| ((1 : Int32) <<< ((f_X11_leastNode p2) &&& 31))) 0 _ _ _ hw (lv_sub hl [4, 5, 3, 2, 1, 0] rfl) hf
def f_X8_findLefts_L2 (F : Nat) (r_slots : Nat → Int32) (r_slotOf : Nat → Int32) (r_sets : Nat → Int32) (r_later : Nat → Int32) (r_laters : Nat → Int32) (r_amount : Int32) (kk_46_5 : (Nat → Int32) → Option (Int32 × Int32 × (Nat → Int32))) : Nat → Int32 → (Nat → Int32) → Option (Int32 × Int32 × (Nat → Int32))
  | 0, _, _ => none
  | n + 1, v2_7, s_sizeAndLeft_8 => (if r_amount ≤ v2_7 then (kk_46_5 s_sizeAndLeft_8) else rd 2584 r_sets v2_7 (fun y_10 => (if y_10 = 0 then wr 2584 s_sizeAndLeft_8 v2_7 0 (fun s_sizeAndLeft_16 => (f_X8_findLefts_L2 F r_slots r_slotOf r_sets r_later r_laters r_amount kk_46_5 n (v2_7 + 1) s_sizeAndLeft_16)) else rd 2584 r_sets v2_7 (fun y_12 => (f_X8_leftsOf F y_12 s_sizeAndLeft_8 r_slots r_slotOf r_sets r_later r_laters r_amount).bind (fun r_13 => wr 2584 s_sizeAndLeft_8 v2_7 r_13 (fun s_sizeAndLeft_15 => (f_X8_findLefts_L2 F r_slots r_slotOf r_sets r_later r_laters r_amount kk_46_5 n (v2_7 + 1) s_sizeAndLeft_15)))))))
def f_X8_findLefts (F : Nat) (g_nodes : Int32) (s_sizeAndLeft : Nat → Int32) (r_slots : Nat → Int32) (r_slotOf : Nat → Int32) (r_sets : Nat → Int32) (r_later : Nat → Int32) (r_laters : Nat → Int32) (r_amount : Int32) : Option (Int32 × Int32 × (Nat → Int32)) :=
  (jn (fun (s_sizeAndLeft_1 : Nat → Int32) => (jn (fun (z_2 : Int32) => some ((z_2 &&& 65535), (g_nodes - (2 * (z_2 / 65536))), s_sizeAndLeft_1)) (fun jj_68_2 => (if r_amount ≤ 0 then (jj_68_2 0) else rd 2584 s_sizeAndLeft_1 (r_amount - 1) (fun y_5 => (jj_68_2 y_5)))))) (fun kk_46_5 => (f_X8_findLefts_L2 F r_slots r_slotOf r_sets r_later r_laters r_amount kk_46_5 F 0 s_sizeAndLeft)))
set_option maxHeartbeats 4000000 in
set_option maxRecDepth 100000 in
theorem c_X8_findLefts (l : Launch) (E : Ev) (F : Nat) (g_nodes : Int32) (g_made : Int32) (g_living : Int32) (g_age : Int32) (a_g_oneEnd : Nat) (a_g_otherEnd : Nat) (a_g_weights : Nat) (a_g_alive : Nat) (a_g_joined : Nat) (a_g : Nat) (a_qp : Nat) (a_qw : Nat) (s_sizeAndLeft : Nat → Int32) (a_s_sizeAndLeft : Nat) (s_lefts : Int32) (s_besides : Int32) (s_uncovered : Int32) (s_age : Int32) (a_s : Nat) (r_slots : Nat → Int32) (a_r_slots : Nat) (r_slotOf : Nat → Int32) (a_r_slotOf : Nat) (r_sets : Nat → Int32) (a_r_sets : Nat) (r_later : Nat → Int32) (a_r_later : Nat) (r_laters : Nat → Int32) (a_r_laters : Nat) (r_mayLeave : Int32) (r_amount : Int32) (a_r : Nat) (u_s_lefts : Int32) (u_s_uncovered : Int32) (u_s_sizeAndLeft : Nat → Int32) (hf : f_X8_findLefts F g_nodes s_sizeAndLeft r_slots r_slotOf r_sets r_later r_laters r_amount = some (u_s_lefts, u_s_uncovered, u_s_sizeAndLeft)) :
    CtV l yX8_findLefts wsX8_findLefts (Rm 3) E [.ref a_s, .ref a_r] [oC a_s 8 [.ref a_g, .ref a_qp, .ref a_qw, .ref a_s_sizeAndLeft, .int s_lefts, .int s_besides, .int s_uncovered, .int s_age], oC a_g 2 [.int g_nodes, .int g_made, .int g_living, .int g_age, .ref a_g_oneEnd, .ref a_g_otherEnd, .ref a_g_weights, .ref a_g_alive, .ref a_g_joined], aI E a_s_sizeAndLeft 2584 s_sizeAndLeft, oC a_r 7 [.ref a_r_slots, .ref a_r_slotOf, .ref a_r_sets, .ref a_r_later, .ref a_r_laters, .int r_mayLeave, .int r_amount], aI E a_r_slots 4096 r_slots, aI E a_r_slotOf 2584 r_slotOf, aI E a_r_sets 2584 r_sets, aI E a_r_later 256 r_later, aI E a_r_laters 16 r_laters] [oC a_s 8 [.ref a_g, .ref a_qp, .ref a_qw, .ref a_s_sizeAndLeft, .int u_s_lefts, .int s_besides, .int u_s_uncovered, .int s_age], oC a_g 2 [.int g_nodes, .int g_made, .int g_living, .int g_age, .ref a_g_oneEnd, .ref a_g_otherEnd, .ref a_g_weights, .ref a_g_alive, .ref a_g_joined], aI E a_s_sizeAndLeft 2584 u_s_sizeAndLeft, oC a_r 7 [.ref a_r_slots, .ref a_r_slotOf, .ref a_r_sets, .ref a_r_later, .ref a_r_laters, .int r_mayLeave, .int r_amount], aI E a_r_slots 4096 r_slots, aI E a_r_slotOf 2584 r_slotOf, aI E a_r_sets 2584 r_sets, aI E a_r_later 256 r_later, aI E a_r_laters 16 r_laters] := by
  refine ofV (cc := cX8_findLefts) (maxL := 3) (own := RX8) rfl rfl (by decide) rfl rfl ?_
  intro p e s m below meth c A ls Q S hnm hN hw hA hl0 hE
  have hl : lv_has ls 3 [(0, .ref a_s), (1, .ref a_r)] := hl0 _ (lv_entry [.ref a_s, .ref a_r] (n := 3) (Nat.le_of_ble_eq_true rfl))
  have iX2 : ∀ w ∈ wsX20, w ∈ wsX8_findLefts := by decide +kernel
  have iX7 : ∀ w ∈ wsX70, w ∈ wsX8_findLefts := by decide +kernel
  have iX8 : ∀ w ∈ wsX80, w ∈ wsX8_findLefts := by decide +kernel
  have k23 := S.2.2.2.2 (.fieldLink RX8 23 "PairMatching$Sorts" "sizeAndLeft" "[I") (by decide +kernel)
  have k31 := S.2.2.2.2 (.fieldLink RX8 31 "PairMatching$Sorts" "graph" "LPairMatching$Graph;") (by decide +kernel)
  have k56 := S.2.2.2.2 (.fieldLink RX8 56 "PairMatching$Sorts" "lefts" "I") (by decide +kernel)
  have k73 := S.2.2.2.2 (.constant RX8 73 65535) (by decide +kernel)
  have k77 := S.2.2.2.2 (.constant RX8 77 65536) (by decide +kernel)
  have k78 := S.2.2.2.2 (.fieldLink RX8 78 "PairMatching$Sorts" "uncovered" "I") (by decide +kernel)
  have w63 : Cond.fieldLinkNest RX8 63 "PairMatching$Rests" "amount" "I" "PairMatching" ∈ nestW := List.mem_of_getElem? (i := 51) rfl
  have w66 : Cond.fieldLinkNest RX8 66 "PairMatching$Rests" "sets" "[I" "PairMatching" ∈ nestW := List.mem_of_getElem? (i := 41) rfl
  have w74 : Cond.fieldLinkNest RX8 74 "PairMatching$Graph" "nodes" "I" "PairMatching" ∈ nestW := List.mem_of_getElem? (i := 4) rfl
  unfold f_X8_findLefts at hf
  refine lv_iconst (v := 0) S.1 S.2.1 dX8_findLefts_0 (by decide) ?_
  refine lv_istore_n (lv' := [(2, .int 0), (0, .ref a_s), (1, .ref a_r)]) S.1 S.2.1 dX8_findLefts_1 rfl hl (by decide) rfl (fun ls hl => ?_)
  obtain ⟨kk_46_5, ekk_46_5, hf⟩ := jn_s hf
  have hJ_kk_46_5 : ∀ (s_sizeAndLeft_1 : Nat → Int32) (H : Heap) (locs : List Loc) (ls : Array Slot), Wo E A s [oC a_s 8 [.ref a_g, .ref a_qp, .ref a_qw, .ref a_s_sizeAndLeft, .int s_lefts, .int s_besides, .int s_uncovered, .int s_age], oC a_g 2 [.int g_nodes, .int g_made, .int g_living, .int g_age, .ref a_g_oneEnd, .ref a_g_otherEnd, .ref a_g_weights, .ref a_g_alive, .ref a_g_joined], aI E a_s_sizeAndLeft 2584 s_sizeAndLeft_1, oC a_r 7 [.ref a_r_slots, .ref a_r_slotOf, .ref a_r_sets, .ref a_r_later, .ref a_r_laters, .int r_mayLeave, .int r_amount], aI E a_r_slots 4096 r_slots, aI E a_r_slotOf 2584 r_slotOf, aI E a_r_sets 2584 r_sets, aI E a_r_later 256 r_later, aI E a_r_laters 16 r_laters] H locs → lv_has ls 3 [(0, .ref a_s), (1, .ref a_r)] → kk_46_5 s_sizeAndLeft_1 = some (u_s_lefts, u_s_uncovered, u_s_sizeAndLeft) → W p l e (Rm 3) s m (([.ref a_s, .ref a_r] : List Value).toArray) below meth c H locs 0 0 Q (F0 m 46 ls []) := by
    intro s_sizeAndLeft_1 H locs ls hw hl hf
    rw [ekk_46_5] at hf
    refine lv_aload_n S.1 S.2.1 dX8_findLefts_46 rfl (lv_at hl 1 rfl) ?_
    refine g_getN S hN hw (C := RX7) (T := TX7) (N := 7) (ci := 7) (v := .int r_amount) 3 6 iX7 w63 dX8_findLefts_47 rfl rfl (by decide) rfl ?_
    obtain ⟨jj_68_2, ejj_68_2, hf⟩ := jn_s hf
    have hJ_jj_68_2 : ∀ (z_2 : Int32) (H : Heap) (locs : List Loc) (ls : Array Slot), Wo E A s [oC a_s 8 [.ref a_g, .ref a_qp, .ref a_qw, .ref a_s_sizeAndLeft, .int s_lefts, .int s_besides, .int s_uncovered, .int s_age], oC a_g 2 [.int g_nodes, .int g_made, .int g_living, .int g_age, .ref a_g_oneEnd, .ref a_g_otherEnd, .ref a_g_weights, .ref a_g_alive, .ref a_g_joined], aI E a_s_sizeAndLeft 2584 s_sizeAndLeft_1, oC a_r 7 [.ref a_r_slots, .ref a_r_slotOf, .ref a_r_sets, .ref a_r_later, .ref a_r_laters, .int r_mayLeave, .int r_amount], aI E a_r_slots 4096 r_slots, aI E a_r_slotOf 2584 r_slotOf, aI E a_r_sets 2584 r_sets, aI E a_r_later 256 r_later, aI E a_r_laters 16 r_laters] H locs → lv_has ls 3 [(0, .ref a_s)] → jj_68_2 z_2 = some (u_s_lefts, u_s_uncovered, u_s_sizeAndLeft) → W p l e (Rm 3) s m (([.ref a_s, .ref a_r] : List Value).toArray) below meth c H locs 0 0 Q (F0 m 68 ls [.int z_2]) := by
      intro z_2 H locs ls hw hl hf
      rw [ejj_68_2] at hf
      refine lv_istore_n (lv' := [(2, .int z_2), (0, .ref a_s)]) S.1 S.2.1 dX8_findLefts_68 rfl hl (by decide) rfl (fun ls hl => ?_)
      refine lv_aload_n S.1 S.2.1 dX8_findLefts_69 rfl (lv_at hl 1 rfl) ?_
      refine lv_iload_n S.1 S.2.1 dX8_findLefts_70 rfl (lv_at hl 0 rfl) ?_
      refine lv_ldc (v := 65535) S.1 S.2.1 S.2.2.2.1 k73 dX8_findLefts_71 ?_
      refine lv_iand S.1 S.2.1 dX8_findLefts_73 ?_
      refine g_put S hN hw (C := RX8) (T := TX8) (N := 8) (ci := 8) (ty := .int) (w1 := [oC a_s 8 [.ref a_g, .ref a_qp, .ref a_qw, .ref a_s_sizeAndLeft, .int (z_2 &&& 65535), .int s_besides, .int s_uncovered, .int s_age], oC a_g 2 [.int g_nodes, .int g_made, .int g_living, .int g_age, .ref a_g_oneEnd, .ref a_g_otherEnd, .ref a_g_weights, .ref a_g_alive, .ref a_g_joined], aI E a_s_sizeAndLeft 2584 s_sizeAndLeft_1, oC a_r 7 [.ref a_r_slots, .ref a_r_slotOf, .ref a_r_sets, .ref a_r_later, .ref a_r_laters, .int r_mayLeave, .int r_amount], aI E a_r_slots 4096 r_slots, aI E a_r_slotOf 2584 r_slotOf, aI E a_r_sets 2584 r_sets, aI E a_r_later 256 r_later, aI E a_r_laters 16 r_laters]) 0 4 iX8 k56 tyX8 tyX8_ok nmX8 dX8_findLefts_74 rfl rfl (by decide) rfl (by decide +kernel) rfl rfl (Nat.le_of_ble_eq_true rfl) rfl (fun H locs hw => ?_)
      refine lv_aload_n S.1 S.2.1 dX8_findLefts_77 rfl (lv_at hl 1 rfl) ?_
      refine lv_aload_n S.1 S.2.1 dX8_findLefts_78 rfl (lv_at hl 1 rfl) ?_
      refine g_get S hN hw (C := RX8) (T := TX8) (N := 8) (ci := 8) (v := .ref a_g) 0 0 iX8 k31 dX8_findLefts_79 rfl rfl (by decide) rfl ?_
      refine g_getN S hN hw (C := RX2) (T := TX2) (N := 9) (ci := 2) (v := .int g_nodes) 1 0 iX2 w74 dX8_findLefts_82 rfl rfl (by decide) rfl ?_
      refine lv_iconst (v := 2) S.1 S.2.1 dX8_findLefts_85 (by decide) ?_
      refine lv_iload_n S.1 S.2.1 dX8_findLefts_86 rfl (lv_at hl 0 rfl) ?_
      refine lv_ldc (v := 65536) S.1 S.2.1 S.2.2.2.1 k77 dX8_findLefts_87 ?_
      refine lv_idiv S.1 S.2.1 dX8_findLefts_89 (by decide) ?_
      refine lv_imul S.1 S.2.1 dX8_findLefts_90 ?_
      refine lv_isub S.1 S.2.1 dX8_findLefts_91 ?_
      refine g_put S hN hw (C := RX8) (T := TX8) (N := 8) (ci := 8) (ty := .int) (w1 := [oC a_s 8 [.ref a_g, .ref a_qp, .ref a_qw, .ref a_s_sizeAndLeft, .int (z_2 &&& 65535), .int s_besides, .int (g_nodes - (2 * (z_2 / 65536))), .int s_age], oC a_g 2 [.int g_nodes, .int g_made, .int g_living, .int g_age, .ref a_g_oneEnd, .ref a_g_otherEnd, .ref a_g_weights, .ref a_g_alive, .ref a_g_joined], aI E a_s_sizeAndLeft 2584 s_sizeAndLeft_1, oC a_r 7 [.ref a_r_slots, .ref a_r_slotOf, .ref a_r_sets, .ref a_r_later, .ref a_r_laters, .int r_mayLeave, .int r_amount], aI E a_r_slots 4096 r_slots, aI E a_r_slotOf 2584 r_slotOf, aI E a_r_sets 2584 r_sets, aI E a_r_later 256 r_later, aI E a_r_laters 16 r_laters]) 0 6 iX8 k78 tyX8 tyX8_ok nmX8 dX8_findLefts_92 rfl rfl (by decide) rfl (by decide +kernel) rfl rfl (Nat.le_of_ble_eq_true rfl) rfl (fun H locs hw => ?_)
      cases hf
      exact hE _ _ _ _ hw dX8_findLefts_95
    refine lv_if_le (tgt := 67) S.1 S.2.1 dX8_findLefts_50 (by decide) (fun h_4 => ?_) (fun h_4 => ?_)
    · replace hf := if_t h_4 hf
      refine lv_iconst (v := 0) S.1 S.2.1 dX8_findLefts_67 (by decide) ?_
      exact hJ_jj_68_2 0 _ _ _ hw (lv_sub hl [0] rfl) hf
    · replace hf := if_f h_4 hf
      refine lv_aload_n S.1 S.2.1 dX8_findLefts_53 rfl (lv_at hl 0 rfl) ?_
      refine g_get S hN hw (C := RX8) (T := TX8) (N := 8) (ci := 8) (v := .ref a_s_sizeAndLeft) 0 3 iX8 k23 dX8_findLefts_54 rfl rfl (by decide) rfl ?_
      refine lv_aload_n S.1 S.2.1 dX8_findLefts_57 rfl (lv_at hl 1 rfl) ?_
      refine g_getN S hN hw (C := RX7) (T := TX7) (N := 7) (ci := 7) (v := .int r_amount) 3 6 iX7 w63 dX8_findLefts_58 rfl rfl (by decide) rfl ?_
      refine lv_iconst (v := 1) S.1 S.2.1 dX8_findLefts_61 (by decide) ?_
      refine lv_isub S.1 S.2.1 dX8_findLefts_62 ?_
      obtain ⟨hi_4, hf⟩ := rd_s hf
      refine g_iald (n := 2584) (f := s_sizeAndLeft_1) S hN hw 2 hi_4 dX8_findLefts_63 rfl ?_
      generalize s_sizeAndLeft_1 ((r_amount - 1) : Int32).toNatClampNeg = y_5 at hf ⊢
      refine lv_goto (tgt := 68) S.1 S.2.1 dX8_findLefts_64 (by decide) ?_
      exact hJ_jj_68_2 y_5 _ _ _ hw (lv_sub hl [0] rfl) hf
  have hL_2_16 : ∀ (n : Nat) (v2_7 : Int32) (s_sizeAndLeft_8 : Nat → Int32) (H : Heap) (locs : List Loc) (ls : Array Slot), Wo E A s [oC a_s 8 [.ref a_g, .ref a_qp, .ref a_qw, .ref a_s_sizeAndLeft, .int s_lefts, .int s_besides, .int s_uncovered, .int s_age], oC a_g 2 [.int g_nodes, .int g_made, .int g_living, .int g_age, .ref a_g_oneEnd, .ref a_g_otherEnd, .ref a_g_weights, .ref a_g_alive, .ref a_g_joined], aI E a_s_sizeAndLeft 2584 s_sizeAndLeft_8, oC a_r 7 [.ref a_r_slots, .ref a_r_slotOf, .ref a_r_sets, .ref a_r_later, .ref a_r_laters, .int r_mayLeave, .int r_amount], aI E a_r_slots 4096 r_slots, aI E a_r_slotOf 2584 r_slotOf, aI E a_r_sets 2584 r_sets, aI E a_r_later 256 r_later, aI E a_r_laters 16 r_laters] H locs → lv_has ls 3 [(0, .ref a_s), (1, .ref a_r), (2, .int v2_7)] → f_X8_findLefts_L2 F r_slots r_slotOf r_sets r_later r_laters r_amount kk_46_5 n v2_7 s_sizeAndLeft_8 = some (u_s_lefts, u_s_uncovered, u_s_sizeAndLeft) → W p l e (Rm 3) s m (([.ref a_s, .ref a_r] : List Value).toArray) below meth c H locs 0 0 Q (F0 m 2 ls []) := by
    intro n
    induction n with
    | zero => intro v2_7 s_sizeAndLeft_8 H locs ls hw hl hf; unfold f_X8_findLefts_L2 at hf; cases hf
    | succ n ih =>
      intro v2_7 s_sizeAndLeft_8 H locs ls hw hl hf
      unfold f_X8_findLefts_L2 at hf
      refine lv_iload_n S.1 S.2.1 dX8_findLefts_2 rfl (lv_at hl 2 rfl) ?_
      refine lv_aload_n S.1 S.2.1 dX8_findLefts_3 rfl (lv_at hl 1 rfl) ?_
      refine g_getN S hN hw (C := RX7) (T := TX7) (N := 7) (ci := 7) (v := .int r_amount) 3 6 iX7 w63 dX8_findLefts_4 rfl rfl (by decide) rfl ?_
      refine lv_icmp_ge (tgt := 46) S.1 S.2.1 dX8_findLefts_7 (by decide) (fun h_9 => ?_) (fun h_9 => ?_)
      · replace hf := if_t h_9 hf
        exact hJ_kk_46_5 s_sizeAndLeft_8 _ _ _ hw (lv_sub hl [0, 1] rfl) hf
      · replace hf := if_f h_9 hf
        refine lv_aload_n S.1 S.2.1 dX8_findLefts_10 rfl (lv_at hl 0 rfl) ?_
        refine g_get S hN hw (C := RX8) (T := TX8) (N := 8) (ci := 8) (v := .ref a_s_sizeAndLeft) 0 3 iX8 k23 dX8_findLefts_11 rfl rfl (by decide) rfl ?_
        refine lv_iload_n S.1 S.2.1 dX8_findLefts_14 rfl (lv_at hl 2 rfl) ?_
        refine lv_aload_n S.1 S.2.1 dX8_findLefts_15 rfl (lv_at hl 1 rfl) ?_
        refine g_getN S hN hw (C := RX7) (T := TX7) (N := 7) (ci := 7) (v := .ref a_r_sets) 3 2 iX7 w66 dX8_findLefts_16 rfl rfl (by decide) rfl ?_
        refine lv_iload_n S.1 S.2.1 dX8_findLefts_19 rfl (lv_at hl 2 rfl) ?_
        obtain ⟨hi_9, hf⟩ := rd_s hf
        refine g_iald (n := 2584) (f := r_sets) S hN hw 6 hi_9 dX8_findLefts_20 rfl ?_
        generalize r_sets (v2_7 : Int32).toNatClampNeg = y_10 at hf ⊢
        refine lv_if_ne (tgt := 28) S.1 S.2.1 dX8_findLefts_21 (by decide) (fun h_11 => ?_) (fun h_11 => ?_)
        · replace hf := if_f h_11 hf
          refine lv_aload_n S.1 S.2.1 dX8_findLefts_28 rfl (lv_at hl 0 rfl) ?_
          refine lv_aload_n S.1 S.2.1 dX8_findLefts_29 rfl (lv_at hl 1 rfl) ?_
          refine lv_aload_n S.1 S.2.1 dX8_findLefts_30 rfl (lv_at hl 1 rfl) ?_
          refine g_getN S hN hw (C := RX7) (T := TX7) (N := 7) (ci := 7) (v := .ref a_r_sets) 3 2 iX7 w66 dX8_findLefts_31 rfl rfl (by decide) rfl ?_
          refine lv_iload_n S.1 S.2.1 dX8_findLefts_34 rfl (lv_at hl 2 rfl) ?_
          obtain ⟨hi_11, hf⟩ := rd_s hf
          refine g_iald (n := 2584) (f := r_sets) S hN hw 6 hi_11 dX8_findLefts_35 rfl ?_
          generalize r_sets (v2_7 : Int32).toNatClampNeg = y_12 at hf ⊢
          obtain ⟨r_13, hc_13, hf⟩ := bd_s hf
          refine g_calli (r := r_13) (wc := [oC a_s 8 [.ref a_g, .ref a_qp, .ref a_qw, .ref a_s_sizeAndLeft, .int s_lefts, .int s_besides, .int s_uncovered, .int s_age], aI E a_s_sizeAndLeft 2584 s_sizeAndLeft_8, oC a_r 7 [.ref a_r_slots, .ref a_r_slotOf, .ref a_r_sets, .ref a_r_later, .ref a_r_laters, .int r_mayLeave, .int r_amount], aI E a_r_slots 4096 r_slots, aI E a_r_slotOf 2584 r_slotOf, aI E a_r_sets 2584 r_sets, aI E a_r_later 256 r_later, aI E a_r_laters 16 r_laters]) (wr := [oC a_g 2 [.int g_nodes, .int g_made, .int g_living, .int g_age, .ref a_g_oneEnd, .ref a_g_otherEnd, .ref a_g_weights, .ref a_g_alive, .ref a_g_joined]]) (w1 := [oC a_s 8 [.ref a_g, .ref a_qp, .ref a_qw, .ref a_s_sizeAndLeft, .int s_lefts, .int s_besides, .int s_uncovered, .int s_age], aI E a_s_sizeAndLeft 2584 s_sizeAndLeft_8, oC a_r 7 [.ref a_r_slots, .ref a_r_slotOf, .ref a_r_sets, .ref a_r_later, .ref a_r_laters, .int r_mayLeave, .int r_amount], aI E a_r_slots 4096 r_slots, aI E a_r_slotOf 2584 r_slotOf, aI E a_r_sets 2584 r_sets, aI E a_r_later 256 r_later, aI E a_r_laters 16 r_laters]) (va_runV (As := [.ref a_r, .int y_12]) (rest := [.int v2_7, .ref a_s_sizeAndLeft]) S (c_X8_leftsOf l E F a_g a_qp a_qw s_sizeAndLeft_8 a_s_sizeAndLeft s_lefts s_besides s_uncovered s_age a_s r_slots a_r_slots r_slotOf a_r_slotOf r_sets a_r_sets r_later a_r_later r_laters a_r_laters r_mayLeave r_amount a_r y_12 r_13 hc_13 _) (cwV 2 S.2.2.2.2 gX8_findLefts_X8_leftsOf rfl rfl rfl (by decide +kernel) (rm_le (by omega) (by decide))) (preV (q := (RX8, TX8, 8)) hN hw [0, 2, 3, 4, 5, 6, 7, 8] rfl rfl rfl rfl) rfl rfl hl.1 rfl (lv_room (Nat.le_of_ble_eq_true rfl)) dX8_findLefts_36 ⟨Nat.le_refl _, Nat.le_refl _⟩) hw hA [0, 2, 3, 4, 5, 6, 7, 8] [1] rfl rfl rfl (by decide) (fun H locs hw => ?_)
          have hw : Wo E A s [oC a_g 2 [.int g_nodes, .int g_made, .int g_living, .int g_age, .ref a_g_oneEnd, .ref a_g_otherEnd, .ref a_g_weights, .ref a_g_alive, .ref a_g_joined], oC a_s 8 [.ref a_g, .ref a_qp, .ref a_qw, .ref a_s_sizeAndLeft, .int s_lefts, .int s_besides, .int s_uncovered, .int s_age], aI E a_s_sizeAndLeft 2584 s_sizeAndLeft_8, oC a_r 7 [.ref a_r_slots, .ref a_r_slotOf, .ref a_r_sets, .ref a_r_later, .ref a_r_laters, .int r_mayLeave, .int r_amount], aI E a_r_slots 4096 r_slots, aI E a_r_slotOf 2584 r_slotOf, aI E a_r_sets 2584 r_sets, aI E a_r_later 256 r_later, aI E a_r_laters 16 r_laters] H _ := hw
          obtain ⟨hi_14, hf⟩ := wr_s hf
          refine g_iast (n := 2584) (f := s_sizeAndLeft_8) (w1 := [oC a_g 2 [.int g_nodes, .int g_made, .int g_living, .int g_age, .ref a_g_oneEnd, .ref a_g_otherEnd, .ref a_g_weights, .ref a_g_alive, .ref a_g_joined], oC a_s 8 [.ref a_g, .ref a_qp, .ref a_qw, .ref a_s_sizeAndLeft, .int s_lefts, .int s_besides, .int s_uncovered, .int s_age], aI E a_s_sizeAndLeft 2584 (va_up s_sizeAndLeft_8 (v2_7 : Int32).toNatClampNeg r_13), oC a_r 7 [.ref a_r_slots, .ref a_r_slotOf, .ref a_r_sets, .ref a_r_later, .ref a_r_laters, .int r_mayLeave, .int r_amount], aI E a_r_slots 4096 r_slots, aI E a_r_slotOf 2584 r_slotOf, aI E a_r_sets 2584 r_sets, aI E a_r_later 256 r_later, aI E a_r_laters 16 r_laters]) S hN hw 2 hi_14 dX8_findLefts_39 rfl rfl (fun H locs hw => ?_)
          generalize va_up s_sizeAndLeft_8 (v2_7 : Int32).toNatClampNeg r_13 = s_sizeAndLeft_15 at hf hw
          refine lv_iinc (v := (v2_7 + 1)) (lv' := [(2, .int (v2_7 + 1)), (0, .ref a_s), (1, .ref a_r)]) S.1 S.2.1 dX8_findLefts_40 hl (k := 2) rfl rfl (by decide) rfl (fun ls hl => ?_)
          refine lv_goto (tgt := 2) S.1 S.2.1 dX8_findLefts_43 (by decide) ?_
          exact ih (v2_7 + 1) s_sizeAndLeft_15 _ _ _ (hw.sub [1, 0, 2, 3, 4, 5, 6, 7, 8] rfl rfl) (lv_sub hl [1, 2, 0] rfl) hf
        · replace hf := if_t h_11 hf
          refine lv_iconst (v := 0) S.1 S.2.1 dX8_findLefts_24 (by decide) ?_
          refine lv_goto (tgt := 39) S.1 S.2.1 dX8_findLefts_25 (by decide) ?_
          obtain ⟨hi_15, hf⟩ := wr_s hf
          refine g_iast (n := 2584) (f := s_sizeAndLeft_8) (w1 := [oC a_s 8 [.ref a_g, .ref a_qp, .ref a_qw, .ref a_s_sizeAndLeft, .int s_lefts, .int s_besides, .int s_uncovered, .int s_age], oC a_g 2 [.int g_nodes, .int g_made, .int g_living, .int g_age, .ref a_g_oneEnd, .ref a_g_otherEnd, .ref a_g_weights, .ref a_g_alive, .ref a_g_joined], aI E a_s_sizeAndLeft 2584 (va_up s_sizeAndLeft_8 (v2_7 : Int32).toNatClampNeg 0), oC a_r 7 [.ref a_r_slots, .ref a_r_slotOf, .ref a_r_sets, .ref a_r_later, .ref a_r_laters, .int r_mayLeave, .int r_amount], aI E a_r_slots 4096 r_slots, aI E a_r_slotOf 2584 r_slotOf, aI E a_r_sets 2584 r_sets, aI E a_r_later 256 r_later, aI E a_r_laters 16 r_laters]) S hN hw 2 hi_15 dX8_findLefts_39 rfl rfl (fun H locs hw => ?_)
          generalize va_up s_sizeAndLeft_8 (v2_7 : Int32).toNatClampNeg 0 = s_sizeAndLeft_16 at hf hw
          refine lv_iinc (v := (v2_7 + 1)) (lv' := [(2, .int (v2_7 + 1)), (0, .ref a_s), (1, .ref a_r)]) S.1 S.2.1 dX8_findLefts_40 hl (k := 2) rfl rfl (by decide) rfl (fun ls hl => ?_)
          refine lv_goto (tgt := 2) S.1 S.2.1 dX8_findLefts_43 (by decide) ?_
          exact ih (v2_7 + 1) s_sizeAndLeft_16 _ _ _ hw (lv_sub hl [1, 2, 0] rfl) hf
  exact hL_2_16 F 0 s_sizeAndLeft _ _ _ hw (lv_sub hl [1, 2, 0] rfl) hf
def f_X8_findBesides_L7 (g_nodes : Int32) (g_joined : Nat → Int32) (s_lefts : Int32) (kk_64_1 : Int32 → Option (Int32)) : Nat → Int32 → Int32 → Option (Int32)
  | 0, _, _ => none
  | n + 1, v1_3, s_besides_4 => (if g_nodes ≤ v1_3 then (kk_64_1 s_besides_4) else (if (f_X11_has s_lefts v1_3) = 0 then rd 16 g_joined v1_3 (fun y_9 => (if (y_9 &&& s_lefts) = 0 then (f_X8_findBesides_L7 g_nodes g_joined s_lefts kk_64_1 n (v1_3 + 1) s_besides_4) else (f_X8_findBesides_L7 g_nodes g_joined s_lefts kk_64_1 n (v1_3 + 1) (s_besides_4 ||| ((1 : Int32) <<< (v1_3 &&& 31)))))) else (f_X8_findBesides_L7 g_nodes g_joined s_lefts kk_64_1 n (v1_3 + 1) s_besides_4)))
def f_X8_findBesides (F : Nat) (g_nodes : Int32) (g_joined : Nat → Int32) (s_lefts : Int32) : Option (Int32) :=
  (jn (fun (s_besides_1 : Int32) => some s_besides_1) (fun kk_64_1 => (f_X8_findBesides_L7 g_nodes g_joined s_lefts kk_64_1 F 0 0)))
set_option maxHeartbeats 4000000 in
set_option maxRecDepth 100000 in
theorem c_X8_findBesides (l : Launch) (E : Ev) (F : Nat) (g_nodes : Int32) (g_made : Int32) (g_living : Int32) (g_age : Int32) (a_g_oneEnd : Nat) (a_g_otherEnd : Nat) (a_g_weights : Nat) (a_g_alive : Nat) (g_joined : Nat → Int32) (a_g_joined : Nat) (a_g : Nat) (a_qp : Nat) (a_qw : Nat) (a_s_sizeAndLeft : Nat) (s_lefts : Int32) (s_besides : Int32) (s_uncovered : Int32) (s_age : Int32) (a_s : Nat) (u_s_besides : Int32) (hf : f_X8_findBesides F g_nodes g_joined s_lefts = some u_s_besides) :
    CtV l yX8_findBesides wsX8_findBesides (Rm 1) E [.ref a_s] [oC a_s 8 [.ref a_g, .ref a_qp, .ref a_qw, .ref a_s_sizeAndLeft, .int s_lefts, .int s_besides, .int s_uncovered, .int s_age], oC a_g 2 [.int g_nodes, .int g_made, .int g_living, .int g_age, .ref a_g_oneEnd, .ref a_g_otherEnd, .ref a_g_weights, .ref a_g_alive, .ref a_g_joined], aI E a_g_joined 16 g_joined] [oC a_s 8 [.ref a_g, .ref a_qp, .ref a_qw, .ref a_s_sizeAndLeft, .int s_lefts, .int u_s_besides, .int s_uncovered, .int s_age], oC a_g 2 [.int g_nodes, .int g_made, .int g_living, .int g_age, .ref a_g_oneEnd, .ref a_g_otherEnd, .ref a_g_weights, .ref a_g_alive, .ref a_g_joined], aI E a_g_joined 16 g_joined] := by
  refine ofV (cc := cX8_findBesides) (maxL := 2) (own := RX8) rfl rfl (by decide) rfl rfl ?_
  intro p e s m below meth c A ls Q S hnm hN hw hA hl0 hE
  have hl : lv_has ls 2 [(0, .ref a_s)] := hl0 _ (lv_entry [.ref a_s] (n := 2) (Nat.le_of_ble_eq_true rfl))
  have iX2 : ∀ w ∈ wsX20, w ∈ wsX8_findBesides := by decide +kernel
  have iX8 : ∀ w ∈ wsX80, w ∈ wsX8_findBesides := by decide +kernel
  have k31 := S.2.2.2.2 (.fieldLink RX8 31 "PairMatching$Sorts" "graph" "LPairMatching$Graph;") (by decide +kernel)
  have k49 := S.2.2.2.2 (.fieldLink RX8 49 "PairMatching$Sorts" "besides" "I") (by decide +kernel)
  have k56 := S.2.2.2.2 (.fieldLink RX8 56 "PairMatching$Sorts" "lefts" "I") (by decide +kernel)
  have kIX11 := S.2.2.2.2 (.initialized RX11) (by decide +kernel)
  have kSX11_has := S.2.2.2.2 (.static yX11_has) (by decide +kernel)
  have w104 : Cond.fieldLinkNest RX8 104 "PairMatching$Graph" "joined" "[I" "PairMatching" ∈ nestW := List.mem_of_getElem? (i := 36) rfl
  have w59 : Cond.methodLinkNest RX8 59 yX11_has "PairMatching" ∈ nestW := List.mem_of_getElem? (i := 77) rfl
  have w74 : Cond.fieldLinkNest RX8 74 "PairMatching$Graph" "nodes" "I" "PairMatching" ∈ nestW := List.mem_of_getElem? (i := 4) rfl
  unfold f_X8_findBesides at hf
  refine lv_aload_n S.1 S.2.1 dX8_findBesides_0 rfl (lv_at hl 0 rfl) ?_
  refine lv_iconst (v := 0) S.1 S.2.1 dX8_findBesides_1 (by decide) ?_
  refine g_put S hN hw (C := RX8) (T := TX8) (N := 8) (ci := 8) (ty := .int) (w1 := [oC a_s 8 [.ref a_g, .ref a_qp, .ref a_qw, .ref a_s_sizeAndLeft, .int s_lefts, .int 0, .int s_uncovered, .int s_age], oC a_g 2 [.int g_nodes, .int g_made, .int g_living, .int g_age, .ref a_g_oneEnd, .ref a_g_otherEnd, .ref a_g_weights, .ref a_g_alive, .ref a_g_joined], aI E a_g_joined 16 g_joined]) 0 5 iX8 k49 tyX8 tyX8_ok nmX8 dX8_findBesides_2 rfl rfl (by decide) rfl (by decide +kernel) rfl rfl (Nat.le_of_ble_eq_true rfl) rfl (fun H locs hw => ?_)
  refine lv_iconst (v := 0) S.1 S.2.1 dX8_findBesides_5 (by decide) ?_
  refine lv_istore_n (lv' := [(1, .int 0), (0, .ref a_s)]) S.1 S.2.1 dX8_findBesides_6 rfl hl (by decide) rfl (fun ls hl => ?_)
  obtain ⟨kk_64_1, ekk_64_1, hf⟩ := jn_s hf
  have hJ_kk_64_1 : ∀ (s_besides_1 : Int32) (H : Heap) (locs : List Loc) (ls : Array Slot), Wo E A s [oC a_s 8 [.ref a_g, .ref a_qp, .ref a_qw, .ref a_s_sizeAndLeft, .int s_lefts, .int s_besides_1, .int s_uncovered, .int s_age], oC a_g 2 [.int g_nodes, .int g_made, .int g_living, .int g_age, .ref a_g_oneEnd, .ref a_g_otherEnd, .ref a_g_weights, .ref a_g_alive, .ref a_g_joined], aI E a_g_joined 16 g_joined] H locs → lv_has ls 2 [] → kk_64_1 s_besides_1 = some u_s_besides → W p l e (Rm 1) s m (([.ref a_s] : List Value).toArray) below meth c H locs 0 0 Q (F0 m 64 ls []) := by
    intro s_besides_1 H locs ls hw hl hf
    rw [ekk_64_1] at hf
    cases hf
    exact hE _ _ _ _ hw dX8_findBesides_64
  have hL_7_10 : ∀ (n : Nat) (v1_3 : Int32) (s_besides_4 : Int32) (H : Heap) (locs : List Loc) (ls : Array Slot), Wo E A s [oC a_s 8 [.ref a_g, .ref a_qp, .ref a_qw, .ref a_s_sizeAndLeft, .int s_lefts, .int s_besides_4, .int s_uncovered, .int s_age], oC a_g 2 [.int g_nodes, .int g_made, .int g_living, .int g_age, .ref a_g_oneEnd, .ref a_g_otherEnd, .ref a_g_weights, .ref a_g_alive, .ref a_g_joined], aI E a_g_joined 16 g_joined] H locs → lv_has ls 2 [(0, .ref a_s), (1, .int v1_3)] → f_X8_findBesides_L7 g_nodes g_joined s_lefts kk_64_1 n v1_3 s_besides_4 = some u_s_besides → W p l e (Rm 1) s m (([.ref a_s] : List Value).toArray) below meth c H locs 0 0 Q (F0 m 7 ls []) := by
    intro n
    induction n with
    | zero => intro v1_3 s_besides_4 H locs ls hw hl hf; unfold f_X8_findBesides_L7 at hf; cases hf
    | succ n ih =>
      intro v1_3 s_besides_4 H locs ls hw hl hf
      unfold f_X8_findBesides_L7 at hf
      refine lv_iload_n S.1 S.2.1 dX8_findBesides_7 rfl (lv_at hl 1 rfl) ?_
      refine lv_aload_n S.1 S.2.1 dX8_findBesides_8 rfl (lv_at hl 0 rfl) ?_
      refine g_get S hN hw (C := RX8) (T := TX8) (N := 8) (ci := 8) (v := .ref a_g) 0 0 iX8 k31 dX8_findBesides_9 rfl rfl (by decide) rfl ?_
      refine g_getN S hN hw (C := RX2) (T := TX2) (N := 9) (ci := 2) (v := .int g_nodes) 1 0 iX2 w74 dX8_findBesides_12 rfl rfl (by decide) rfl ?_
      refine lv_icmp_ge (tgt := 64) S.1 S.2.1 dX8_findBesides_15 (by decide) (fun h_5 => ?_) (fun h_5 => ?_)
      · replace hf := if_t h_5 hf
        exact hJ_kk_64_1 s_besides_4 _ _ _ hw (lv_sub hl [] rfl) hf
      · replace hf := if_f h_5 hf
        refine lv_aload_n S.1 S.2.1 dX8_findBesides_18 rfl (lv_at hl 0 rfl) ?_
        refine g_get S hN hw (C := RX8) (T := TX8) (N := 8) (ci := 8) (v := .int s_lefts) 0 4 iX8 k56 dX8_findBesides_19 rfl rfl (by decide) rfl ?_
        refine lv_iload_n S.1 S.2.1 dX8_findBesides_22 rfl (lv_at hl 1 rfl) ?_
        refine g_calli (r := (f_X11_has s_lefts v1_3)) (wc := []) (wr := [oC a_s 8 [.ref a_g, .ref a_qp, .ref a_qw, .ref a_s_sizeAndLeft, .int s_lefts, .int s_besides_4, .int s_uncovered, .int s_age], oC a_g 2 [.int g_nodes, .int g_made, .int g_living, .int g_age, .ref a_g_oneEnd, .ref a_g_otherEnd, .ref a_g_weights, .ref a_g_alive, .ref a_g_joined], aI E a_g_joined 16 g_joined]) (w1 := []) (va_runSN (As := [.int s_lefts, .int v1_3]) (rest := []) S (c_X11_has l E s_lefts v1_3 (f_X11_has s_lefts v1_3) rfl _) ⟨(va_cnB 2 S.2.2.2.2 gX8_findBesides_X11_has_n59 rfl rfl rfl (hN.2 _ w59) kIX11 (by decide +kernel) (rm_le (by omega) (by decide))), kSX11_has, trivial⟩ (preS hN hw [] rfl rfl) rfl rfl hl.1 rfl (lv_room (Nat.le_of_ble_eq_true rfl)) dX8_findBesides_23 ⟨Nat.le_refl _, Nat.le_refl _⟩) hw hA [] [0, 1, 2] rfl rfl rfl (by decide) (fun H locs hw => ?_)
        have hw : Wo E A s [oC a_s 8 [.ref a_g, .ref a_qp, .ref a_qw, .ref a_s_sizeAndLeft, .int s_lefts, .int s_besides_4, .int s_uncovered, .int s_age], oC a_g 2 [.int g_nodes, .int g_made, .int g_living, .int g_age, .ref a_g_oneEnd, .ref a_g_otherEnd, .ref a_g_weights, .ref a_g_alive, .ref a_g_joined], aI E a_g_joined 16 g_joined] H _ := hw
        refine lv_if_ne (tgt := 58) S.1 S.2.1 dX8_findBesides_26 (by decide) (fun h_8 => ?_) (fun h_8 => ?_)
        · replace hf := if_f h_8 hf
          refine lv_iinc (v := (v1_3 + 1)) (lv' := [(1, .int (v1_3 + 1)), (0, .ref a_s)]) S.1 S.2.1 dX8_findBesides_58 hl (k := 1) rfl rfl (by decide) rfl (fun ls hl => ?_)
          refine lv_goto (tgt := 7) S.1 S.2.1 dX8_findBesides_61 (by decide) ?_
          exact ih (v1_3 + 1) s_besides_4 _ _ _ hw (lv_sub hl [1, 0] rfl) hf
        · replace hf := if_t h_8 hf
          refine lv_aload_n S.1 S.2.1 dX8_findBesides_29 rfl (lv_at hl 0 rfl) ?_
          refine g_get S hN hw (C := RX8) (T := TX8) (N := 8) (ci := 8) (v := .ref a_g) 0 0 iX8 k31 dX8_findBesides_30 rfl rfl (by decide) rfl ?_
          refine g_getN S hN hw (C := RX2) (T := TX2) (N := 9) (ci := 2) (v := .ref a_g_joined) 1 8 iX2 w104 dX8_findBesides_33 rfl rfl (by decide) rfl ?_
          refine lv_iload_n S.1 S.2.1 dX8_findBesides_36 rfl (lv_at hl 1 rfl) ?_
          obtain ⟨hi_8, hf⟩ := rd_s hf
          refine g_iald (n := 16) (f := g_joined) S hN hw 2 hi_8 dX8_findBesides_37 rfl ?_
          generalize g_joined (v1_3 : Int32).toNatClampNeg = y_9 at hf ⊢
          refine lv_aload_n S.1 S.2.1 dX8_findBesides_38 rfl (lv_at hl 0 rfl) ?_
          refine g_get S hN hw (C := RX8) (T := TX8) (N := 8) (ci := 8) (v := .int s_lefts) 0 4 iX8 k56 dX8_findBesides_39 rfl rfl (by decide) rfl ?_
          refine lv_iand S.1 S.2.1 dX8_findBesides_42 ?_
          refine lv_if_eq (tgt := 58) S.1 S.2.1 dX8_findBesides_43 (by decide) (fun h_10 => ?_) (fun h_10 => ?_)
          · replace hf := if_t h_10 hf
            refine lv_iinc (v := (v1_3 + 1)) (lv' := [(1, .int (v1_3 + 1)), (0, .ref a_s)]) S.1 S.2.1 dX8_findBesides_58 hl (k := 1) rfl rfl (by decide) rfl (fun ls hl => ?_)
            refine lv_goto (tgt := 7) S.1 S.2.1 dX8_findBesides_61 (by decide) ?_
            exact ih (v1_3 + 1) s_besides_4 _ _ _ hw (lv_sub hl [1, 0] rfl) hf
          · replace hf := if_f h_10 hf
            refine lv_aload_n S.1 S.2.1 dX8_findBesides_46 rfl (lv_at hl 0 rfl) ?_
            refine lv_dup S.1 S.2.1 dX8_findBesides_47 rfl ?_
            refine g_get S hN hw (C := RX8) (T := TX8) (N := 8) (ci := 8) (v := .int s_besides_4) 0 5 iX8 k49 dX8_findBesides_48 rfl rfl (by decide) rfl ?_
            refine lv_iconst (v := 1) S.1 S.2.1 dX8_findBesides_51 (by decide) ?_
            refine lv_iload_n S.1 S.2.1 dX8_findBesides_52 rfl (lv_at hl 1 rfl) ?_
            refine lv_ishl S.1 S.2.1 dX8_findBesides_53 ?_
            refine lv_ior S.1 S.2.1 dX8_findBesides_54 ?_
            refine g_put S hN hw (C := RX8) (T := TX8) (N := 8) (ci := 8) (ty := .int) (w1 := [oC a_s 8 [.ref a_g, .ref a_qp, .ref a_qw, .ref a_s_sizeAndLeft, .int s_lefts, .int (s_besides_4 ||| ((1 : Int32) <<< (v1_3 &&& 31))), .int s_uncovered, .int s_age], oC a_g 2 [.int g_nodes, .int g_made, .int g_living, .int g_age, .ref a_g_oneEnd, .ref a_g_otherEnd, .ref a_g_weights, .ref a_g_alive, .ref a_g_joined], aI E a_g_joined 16 g_joined]) 0 5 iX8 k49 tyX8 tyX8_ok nmX8 dX8_findBesides_55 rfl rfl (by decide) rfl (by decide +kernel) rfl rfl (Nat.le_of_ble_eq_true rfl) rfl (fun H locs hw => ?_)
            refine lv_iinc (v := (v1_3 + 1)) (lv' := [(1, .int (v1_3 + 1)), (0, .ref a_s)]) S.1 S.2.1 dX8_findBesides_58 hl (k := 1) rfl rfl (by decide) rfl (fun ls hl => ?_)
            refine lv_goto (tgt := 7) S.1 S.2.1 dX8_findBesides_61 (by decide) ?_
            exact ih (v1_3 + 1) (s_besides_4 ||| ((1 : Int32) <<< (v1_3 &&& 31))) _ _ _ hw (lv_sub hl [1, 0] rfl) hf
  exact hL_7_10 F 0 0 _ _ _ hw (lv_sub hl [1, 0] rfl) hf
def f_X8_refresh (F : Nat) (g_nodes : Int32) (g_age : Int32) (g_joined : Nat → Int32) (qp_part : Nat → Int32) (qp_amount : Int32) (qp_odd : Int32) (qp_twoSided : Int32) (qw_part : Nat → Int32) (qw_amount : Int32) (qw_odd : Int32) (qw_twoSided : Int32) (s_sizeAndLeft : Nat → Int32) (s_lefts : Int32) (s_besides : Int32) (s_uncovered : Int32) (s_age : Int32) (r_slots : Nat → Int32) (r_slotOf : Nat → Int32) (r_sets : Nat → Int32) (r_later : Nat → Int32) (r_laters : Nat → Int32) (r_amount : Int32) : Option (Int32 × Int32 × Int32 × Int32 × Int32 × Int32 × Int32 × (Nat → Int32) × Int32 × Int32 × Int32 × (Nat → Int32) × (Nat → Int32)) :=
  (if s_age = g_age then some (s_lefts, s_besides, s_uncovered, s_age, qp_amount, qp_odd, qp_twoSided, qp_part, qw_amount, qw_odd, qw_twoSided, qw_part, s_sizeAndLeft) else bd3 (f_X8_findLefts F g_nodes s_sizeAndLeft r_slots r_slotOf r_sets r_later r_laters r_amount) (fun s_lefts_2 s_uncovered_3 s_sizeAndLeft_4 => (f_X8_findBesides F g_nodes g_joined s_lefts_2).bind (fun s_besides_6 => bd4 (f_X5_split F ((f_X2_allNodes g_nodes) &&& (s_besides_6 ^^^ (-1))) qp_part g_nodes g_joined) (fun q_amount_10 q_odd_11 q_twoSided_12 q_part_13 => bd4 (f_X5_split F (f_X2_allNodes g_nodes) qw_part g_nodes g_joined) (fun q_amount_17 q_odd_18 q_twoSided_19 q_part_20 => some (s_lefts_2, s_besides_6, s_uncovered_3, g_age, q_amount_10, q_odd_11, q_twoSided_12, q_part_13, q_amount_17, q_odd_18, q_twoSided_19, q_part_20, s_sizeAndLeft_4))))))
set_option maxHeartbeats 4000000 in
set_option maxRecDepth 100000 in
theorem c_X8_refresh (l : Launch) (E : Ev) (F : Nat) (g_nodes : Int32) (g_made : Int32) (g_living : Int32) (g_age : Int32) (a_g_oneEnd : Nat) (a_g_otherEnd : Nat) (a_g_weights : Nat) (a_g_alive : Nat) (g_joined : Nat → Int32) (a_g_joined : Nat) (a_g : Nat) (qp_part : Nat → Int32) (a_qp_part : Nat) (qp_amount : Int32) (qp_odd : Int32) (qp_twoSided : Int32) (a_qp : Nat) (qw_part : Nat → Int32) (a_qw_part : Nat) (qw_amount : Int32) (qw_odd : Int32) (qw_twoSided : Int32) (a_qw : Nat) (s_sizeAndLeft : Nat → Int32) (a_s_sizeAndLeft : Nat) (s_lefts : Int32) (s_besides : Int32) (s_uncovered : Int32) (s_age : Int32) (a_s : Nat) (r_slots : Nat → Int32) (a_r_slots : Nat) (r_slotOf : Nat → Int32) (a_r_slotOf : Nat) (r_sets : Nat → Int32) (a_r_sets : Nat) (r_later : Nat → Int32) (a_r_later : Nat) (r_laters : Nat → Int32) (a_r_laters : Nat) (r_mayLeave : Int32) (r_amount : Int32) (a_r : Nat) (u_s_lefts : Int32) (u_s_besides : Int32) (u_s_uncovered : Int32) (u_s_age : Int32) (u_qp_amount : Int32) (u_qp_odd : Int32) (u_qp_twoSided : Int32) (u_qp_part : Nat → Int32) (u_qw_amount : Int32) (u_qw_odd : Int32) (u_qw_twoSided : Int32) (u_qw_part : Nat → Int32) (u_s_sizeAndLeft : Nat → Int32) (hf : f_X8_refresh F g_nodes g_age g_joined qp_part qp_amount qp_odd qp_twoSided qw_part qw_amount qw_odd qw_twoSided s_sizeAndLeft s_lefts s_besides s_uncovered s_age r_slots r_slotOf r_sets r_later r_laters r_amount = some (u_s_lefts, u_s_besides, u_s_uncovered, u_s_age, u_qp_amount, u_qp_odd, u_qp_twoSided, u_qp_part, u_qw_amount, u_qw_odd, u_qw_twoSided, u_qw_part, u_s_sizeAndLeft)) :
    CtV l yX8_refresh wsX8_refresh (Rm 4) E [.ref a_s, .ref a_r] [oC a_s 8 [.ref a_g, .ref a_qp, .ref a_qw, .ref a_s_sizeAndLeft, .int s_lefts, .int s_besides, .int s_uncovered, .int s_age], oC a_g 2 [.int g_nodes, .int g_made, .int g_living, .int g_age, .ref a_g_oneEnd, .ref a_g_otherEnd, .ref a_g_weights, .ref a_g_alive, .ref a_g_joined], aI E a_g_joined 16 g_joined, oC a_qp 5 [.ref a_qp_part, .int qp_amount, .int qp_odd, .int qp_twoSided], aI E a_qp_part 16 qp_part, oC a_qw 5 [.ref a_qw_part, .int qw_amount, .int qw_odd, .int qw_twoSided], aI E a_qw_part 16 qw_part, aI E a_s_sizeAndLeft 2584 s_sizeAndLeft, oC a_r 7 [.ref a_r_slots, .ref a_r_slotOf, .ref a_r_sets, .ref a_r_later, .ref a_r_laters, .int r_mayLeave, .int r_amount], aI E a_r_slots 4096 r_slots, aI E a_r_slotOf 2584 r_slotOf, aI E a_r_sets 2584 r_sets, aI E a_r_later 256 r_later, aI E a_r_laters 16 r_laters] [oC a_s 8 [.ref a_g, .ref a_qp, .ref a_qw, .ref a_s_sizeAndLeft, .int u_s_lefts, .int u_s_besides, .int u_s_uncovered, .int u_s_age], oC a_g 2 [.int g_nodes, .int g_made, .int g_living, .int g_age, .ref a_g_oneEnd, .ref a_g_otherEnd, .ref a_g_weights, .ref a_g_alive, .ref a_g_joined], aI E a_g_joined 16 g_joined, oC a_qp 5 [.ref a_qp_part, .int u_qp_amount, .int u_qp_odd, .int u_qp_twoSided], aI E a_qp_part 16 u_qp_part, oC a_qw 5 [.ref a_qw_part, .int u_qw_amount, .int u_qw_odd, .int u_qw_twoSided], aI E a_qw_part 16 u_qw_part, aI E a_s_sizeAndLeft 2584 u_s_sizeAndLeft, oC a_r 7 [.ref a_r_slots, .ref a_r_slotOf, .ref a_r_sets, .ref a_r_later, .ref a_r_laters, .int r_mayLeave, .int r_amount], aI E a_r_slots 4096 r_slots, aI E a_r_slotOf 2584 r_slotOf, aI E a_r_sets 2584 r_sets, aI E a_r_later 256 r_later, aI E a_r_laters 16 r_laters] := by
  refine ofV (cc := cX8_refresh) (maxL := 2) (own := RX8) rfl rfl (by decide) rfl rfl ?_
  intro p e s m below meth c A ls Q S hnm hN hw hA hl0 hE
  have hl : lv_has ls 2 [(0, .ref a_s), (1, .ref a_r)] := hl0 _ (lv_entry [.ref a_s, .ref a_r] (n := 2) (Nat.le_of_ble_eq_true rfl))
  have iX2 : ∀ w ∈ wsX20, w ∈ wsX8_refresh := by decide +kernel
  have iX8 : ∀ w ∈ wsX80, w ∈ wsX8_refresh := by decide +kernel
  have k12 := S.2.2.2.2 (.fieldLink RX8 12 "PairMatching$Sorts" "pieces" "LPairMatching$Parts;") (by decide +kernel)
  have k18 := S.2.2.2.2 (.fieldLink RX8 18 "PairMatching$Sorts" "whole" "LPairMatching$Parts;") (by decide +kernel)
  have k27 := S.2.2.2.2 (.fieldLink RX8 27 "PairMatching$Sorts" "age" "I") (by decide +kernel)
  have k31 := S.2.2.2.2 (.fieldLink RX8 31 "PairMatching$Sorts" "graph" "LPairMatching$Graph;") (by decide +kernel)
  have k49 := S.2.2.2.2 (.fieldLink RX8 49 "PairMatching$Sorts" "besides" "I") (by decide +kernel)
  have w35 : Cond.fieldLinkNest RX8 35 "PairMatching$Graph" "age" "I" "PairMatching" ∈ nestW := List.mem_of_getElem? (i := 13) rfl
  unfold f_X8_refresh at hf
  refine lv_aload_n S.1 S.2.1 dX8_refresh_0 rfl (lv_at hl 0 rfl) ?_
  refine g_get S hN hw (C := RX8) (T := TX8) (N := 8) (ci := 8) (v := .int s_age) 0 7 iX8 k27 dX8_refresh_1 rfl rfl (by decide) rfl ?_
  refine lv_aload_n S.1 S.2.1 dX8_refresh_4 rfl (lv_at hl 0 rfl) ?_
  refine g_get S hN hw (C := RX8) (T := TX8) (N := 8) (ci := 8) (v := .ref a_g) 0 0 iX8 k31 dX8_refresh_5 rfl rfl (by decide) rfl ?_
  refine g_getN S hN hw (C := RX2) (T := TX2) (N := 9) (ci := 2) (v := .int g_age) 1 3 iX2 w35 dX8_refresh_8 rfl rfl (by decide) rfl ?_
  refine lv_icmp_eq (tgt := 77) S.1 S.2.1 dX8_refresh_11 (by decide) (fun h_1 => ?_) (fun h_1 => ?_)
  · replace hf := if_t h_1 hf
    cases hf
    exact hE _ _ _ _ hw dX8_refresh_77
  · replace hf := if_f h_1 hf
    refine lv_aload_n S.1 S.2.1 dX8_refresh_14 rfl (lv_at hl 0 rfl) ?_
    refine lv_aload_n S.1 S.2.1 dX8_refresh_15 rfl (lv_at hl 0 rfl) ?_
    refine g_get S hN hw (C := RX8) (T := TX8) (N := 8) (ci := 8) (v := .ref a_g) 0 0 iX8 k31 dX8_refresh_16 rfl rfl (by decide) rfl ?_
    refine g_getN S hN hw (C := RX2) (T := TX2) (N := 9) (ci := 2) (v := .int g_age) 1 3 iX2 w35 dX8_refresh_19 rfl rfl (by decide) rfl ?_
    refine g_put S hN hw (C := RX8) (T := TX8) (N := 8) (ci := 8) (ty := .int) (w1 := [oC a_s 8 [.ref a_g, .ref a_qp, .ref a_qw, .ref a_s_sizeAndLeft, .int s_lefts, .int s_besides, .int s_uncovered, .int g_age], oC a_g 2 [.int g_nodes, .int g_made, .int g_living, .int g_age, .ref a_g_oneEnd, .ref a_g_otherEnd, .ref a_g_weights, .ref a_g_alive, .ref a_g_joined], aI E a_g_joined 16 g_joined, oC a_qp 5 [.ref a_qp_part, .int qp_amount, .int qp_odd, .int qp_twoSided], aI E a_qp_part 16 qp_part, oC a_qw 5 [.ref a_qw_part, .int qw_amount, .int qw_odd, .int qw_twoSided], aI E a_qw_part 16 qw_part, aI E a_s_sizeAndLeft 2584 s_sizeAndLeft, oC a_r 7 [.ref a_r_slots, .ref a_r_slotOf, .ref a_r_sets, .ref a_r_later, .ref a_r_laters, .int r_mayLeave, .int r_amount], aI E a_r_slots 4096 r_slots, aI E a_r_slotOf 2584 r_slotOf, aI E a_r_sets 2584 r_sets, aI E a_r_later 256 r_later, aI E a_r_laters 16 r_laters]) 0 7 iX8 k27 tyX8 tyX8_ok nmX8 dX8_refresh_22 rfl rfl (by decide) rfl (by decide +kernel) rfl rfl (Nat.le_of_ble_eq_true rfl) rfl (fun H locs hw => ?_)
    refine lv_aload_n S.1 S.2.1 dX8_refresh_25 rfl (lv_at hl 0 rfl) ?_
    refine lv_aload_n S.1 S.2.1 dX8_refresh_26 rfl (lv_at hl 1 rfl) ?_
    obtain ⟨s_lefts_2, s_uncovered_3, s_sizeAndLeft_4, hc_4, hf⟩ := bd3_s hf
    refine g_callv (wc := [oC a_s 8 [.ref a_g, .ref a_qp, .ref a_qw, .ref a_s_sizeAndLeft, .int s_lefts, .int s_besides, .int s_uncovered, .int g_age], oC a_g 2 [.int g_nodes, .int g_made, .int g_living, .int g_age, .ref a_g_oneEnd, .ref a_g_otherEnd, .ref a_g_weights, .ref a_g_alive, .ref a_g_joined], aI E a_s_sizeAndLeft 2584 s_sizeAndLeft, oC a_r 7 [.ref a_r_slots, .ref a_r_slotOf, .ref a_r_sets, .ref a_r_later, .ref a_r_laters, .int r_mayLeave, .int r_amount], aI E a_r_slots 4096 r_slots, aI E a_r_slotOf 2584 r_slotOf, aI E a_r_sets 2584 r_sets, aI E a_r_later 256 r_later, aI E a_r_laters 16 r_laters]) (wr := [aI E a_g_joined 16 g_joined, oC a_qp 5 [.ref a_qp_part, .int qp_amount, .int qp_odd, .int qp_twoSided], aI E a_qp_part 16 qp_part, oC a_qw 5 [.ref a_qw_part, .int qw_amount, .int qw_odd, .int qw_twoSided], aI E a_qw_part 16 qw_part]) (w1 := [oC a_s 8 [.ref a_g, .ref a_qp, .ref a_qw, .ref a_s_sizeAndLeft, .int s_lefts_2, .int s_besides, .int s_uncovered_3, .int g_age], oC a_g 2 [.int g_nodes, .int g_made, .int g_living, .int g_age, .ref a_g_oneEnd, .ref a_g_otherEnd, .ref a_g_weights, .ref a_g_alive, .ref a_g_joined], aI E a_s_sizeAndLeft 2584 s_sizeAndLeft_4, oC a_r 7 [.ref a_r_slots, .ref a_r_slotOf, .ref a_r_sets, .ref a_r_later, .ref a_r_laters, .int r_mayLeave, .int r_amount], aI E a_r_slots 4096 r_slots, aI E a_r_slotOf 2584 r_slotOf, aI E a_r_sets 2584 r_sets, aI E a_r_later 256 r_later, aI E a_r_laters 16 r_laters]) (va_runV (As := [.ref a_r]) (rest := []) S (c_X8_findLefts l E F g_nodes g_made g_living g_age a_g_oneEnd a_g_otherEnd a_g_weights a_g_alive a_g_joined a_g a_qp a_qw s_sizeAndLeft a_s_sizeAndLeft s_lefts s_besides s_uncovered g_age a_s r_slots a_r_slots r_slotOf a_r_slotOf r_sets a_r_sets r_later a_r_later r_laters a_r_laters r_mayLeave r_amount a_r s_lefts_2 s_uncovered_3 s_sizeAndLeft_4 hc_4 _) (cwV 1 S.2.2.2.2 gX8_refresh_X8_findLefts rfl rfl rfl (by decide +kernel) (rm_le (by omega) (by decide))) (preV (q := (RX8, TX8, 8)) hN hw [0, 1, 7, 8, 9, 10, 11, 12, 13] rfl rfl rfl rfl) rfl rfl hl.1 rfl (lv_room (Nat.le_of_ble_eq_true rfl)) dX8_refresh_27 ⟨Nat.le_refl _, Nat.le_refl _⟩) hw hA [0, 1, 7, 8, 9, 10, 11, 12, 13] [2, 3, 4, 5, 6] rfl rfl rfl (by decide) (fun H locs hw => ?_)
    have hw : Wo E A s [aI E a_g_joined 16 g_joined, oC a_qp 5 [.ref a_qp_part, .int qp_amount, .int qp_odd, .int qp_twoSided], aI E a_qp_part 16 qp_part, oC a_qw 5 [.ref a_qw_part, .int qw_amount, .int qw_odd, .int qw_twoSided], aI E a_qw_part 16 qw_part, oC a_s 8 [.ref a_g, .ref a_qp, .ref a_qw, .ref a_s_sizeAndLeft, .int s_lefts_2, .int s_besides, .int s_uncovered_3, .int g_age], oC a_g 2 [.int g_nodes, .int g_made, .int g_living, .int g_age, .ref a_g_oneEnd, .ref a_g_otherEnd, .ref a_g_weights, .ref a_g_alive, .ref a_g_joined], aI E a_s_sizeAndLeft 2584 s_sizeAndLeft_4, oC a_r 7 [.ref a_r_slots, .ref a_r_slotOf, .ref a_r_sets, .ref a_r_later, .ref a_r_laters, .int r_mayLeave, .int r_amount], aI E a_r_slots 4096 r_slots, aI E a_r_slotOf 2584 r_slotOf, aI E a_r_sets 2584 r_sets, aI E a_r_later 256 r_later, aI E a_r_laters 16 r_laters] H _ := hw
    refine lv_aload_n S.1 S.2.1 dX8_refresh_30 rfl (lv_at hl 0 rfl) ?_
    obtain ⟨s_besides_6, hc_6, hf⟩ := bd_s hf
    refine g_callv (wc := [oC a_s 8 [.ref a_g, .ref a_qp, .ref a_qw, .ref a_s_sizeAndLeft, .int s_lefts_2, .int s_besides, .int s_uncovered_3, .int g_age], oC a_g 2 [.int g_nodes, .int g_made, .int g_living, .int g_age, .ref a_g_oneEnd, .ref a_g_otherEnd, .ref a_g_weights, .ref a_g_alive, .ref a_g_joined], aI E a_g_joined 16 g_joined]) (wr := [oC a_qp 5 [.ref a_qp_part, .int qp_amount, .int qp_odd, .int qp_twoSided], aI E a_qp_part 16 qp_part, oC a_qw 5 [.ref a_qw_part, .int qw_amount, .int qw_odd, .int qw_twoSided], aI E a_qw_part 16 qw_part, aI E a_s_sizeAndLeft 2584 s_sizeAndLeft_4, oC a_r 7 [.ref a_r_slots, .ref a_r_slotOf, .ref a_r_sets, .ref a_r_later, .ref a_r_laters, .int r_mayLeave, .int r_amount], aI E a_r_slots 4096 r_slots, aI E a_r_slotOf 2584 r_slotOf, aI E a_r_sets 2584 r_sets, aI E a_r_later 256 r_later, aI E a_r_laters 16 r_laters]) (w1 := [oC a_s 8 [.ref a_g, .ref a_qp, .ref a_qw, .ref a_s_sizeAndLeft, .int s_lefts_2, .int s_besides_6, .int s_uncovered_3, .int g_age], oC a_g 2 [.int g_nodes, .int g_made, .int g_living, .int g_age, .ref a_g_oneEnd, .ref a_g_otherEnd, .ref a_g_weights, .ref a_g_alive, .ref a_g_joined], aI E a_g_joined 16 g_joined]) (va_runV (As := []) (rest := []) S (c_X8_findBesides l E F g_nodes g_made g_living g_age a_g_oneEnd a_g_otherEnd a_g_weights a_g_alive g_joined a_g_joined a_g a_qp a_qw a_s_sizeAndLeft s_lefts_2 s_besides s_uncovered_3 g_age a_s s_besides_6 hc_6 _) (cwV 0 S.2.2.2.2 gX8_refresh_X8_findBesides rfl rfl rfl (by decide +kernel) (rm_le (by omega) (by decide))) (preV (q := (RX8, TX8, 8)) hN hw [5, 6, 0] rfl rfl rfl rfl) rfl rfl hl.1 rfl (lv_room (Nat.le_of_ble_eq_true rfl)) dX8_refresh_31 ⟨Nat.le_refl _, Nat.le_refl _⟩) hw hA [5, 6, 0] [1, 2, 3, 4, 7, 8, 9, 10, 11, 12, 13] rfl rfl rfl (by decide) (fun H locs hw => ?_)
    have hw : Wo E A s [oC a_qp 5 [.ref a_qp_part, .int qp_amount, .int qp_odd, .int qp_twoSided], aI E a_qp_part 16 qp_part, oC a_qw 5 [.ref a_qw_part, .int qw_amount, .int qw_odd, .int qw_twoSided], aI E a_qw_part 16 qw_part, aI E a_s_sizeAndLeft 2584 s_sizeAndLeft_4, oC a_r 7 [.ref a_r_slots, .ref a_r_slotOf, .ref a_r_sets, .ref a_r_later, .ref a_r_laters, .int r_mayLeave, .int r_amount], aI E a_r_slots 4096 r_slots, aI E a_r_slotOf 2584 r_slotOf, aI E a_r_sets 2584 r_sets, aI E a_r_later 256 r_later, aI E a_r_laters 16 r_laters, oC a_s 8 [.ref a_g, .ref a_qp, .ref a_qw, .ref a_s_sizeAndLeft, .int s_lefts_2, .int s_besides_6, .int s_uncovered_3, .int g_age], oC a_g 2 [.int g_nodes, .int g_made, .int g_living, .int g_age, .ref a_g_oneEnd, .ref a_g_otherEnd, .ref a_g_weights, .ref a_g_alive, .ref a_g_joined], aI E a_g_joined 16 g_joined] H _ := hw
    refine lv_aload_n S.1 S.2.1 dX8_refresh_34 rfl (lv_at hl 0 rfl) ?_
    refine g_get S hN hw (C := RX8) (T := TX8) (N := 8) (ci := 8) (v := .ref a_qp) 11 1 iX8 k12 dX8_refresh_35 rfl rfl (by decide) rfl ?_
    refine lv_aload_n S.1 S.2.1 dX8_refresh_38 rfl (lv_at hl 0 rfl) ?_
    refine g_get S hN hw (C := RX8) (T := TX8) (N := 8) (ci := 8) (v := .ref a_g) 11 0 iX8 k31 dX8_refresh_39 rfl rfl (by decide) rfl ?_
    refine lv_aload_n S.1 S.2.1 dX8_refresh_42 rfl (lv_at hl 0 rfl) ?_
    refine g_get S hN hw (C := RX8) (T := TX8) (N := 8) (ci := 8) (v := .ref a_g) 11 0 iX8 k31 dX8_refresh_43 rfl rfl (by decide) rfl ?_
    refine g_calli (r := (f_X2_allNodes g_nodes)) (wc := [oC a_g 2 [.int g_nodes, .int g_made, .int g_living, .int g_age, .ref a_g_oneEnd, .ref a_g_otherEnd, .ref a_g_weights, .ref a_g_alive, .ref a_g_joined]]) (wr := [oC a_qp 5 [.ref a_qp_part, .int qp_amount, .int qp_odd, .int qp_twoSided], aI E a_qp_part 16 qp_part, oC a_qw 5 [.ref a_qw_part, .int qw_amount, .int qw_odd, .int qw_twoSided], aI E a_qw_part 16 qw_part, aI E a_s_sizeAndLeft 2584 s_sizeAndLeft_4, oC a_r 7 [.ref a_r_slots, .ref a_r_slotOf, .ref a_r_sets, .ref a_r_later, .ref a_r_laters, .int r_mayLeave, .int r_amount], aI E a_r_slots 4096 r_slots, aI E a_r_slotOf 2584 r_slotOf, aI E a_r_sets 2584 r_sets, aI E a_r_later 256 r_later, aI E a_r_laters 16 r_laters, oC a_s 8 [.ref a_g, .ref a_qp, .ref a_qw, .ref a_s_sizeAndLeft, .int s_lefts_2, .int s_besides_6, .int s_uncovered_3, .int g_age], aI E a_g_joined 16 g_joined]) (w1 := [oC a_g 2 [.int g_nodes, .int g_made, .int g_living, .int g_age, .ref a_g_oneEnd, .ref a_g_otherEnd, .ref a_g_weights, .ref a_g_alive, .ref a_g_joined]]) (va_runV (As := []) (rest := [.ref a_g, .ref a_qp]) S (c_X2_allNodes l E g_nodes g_made g_living g_age a_g_oneEnd a_g_otherEnd a_g_weights a_g_alive a_g_joined a_g (f_X2_allNodes g_nodes) rfl _) (cwV 0 S.2.2.2.2 gX8_refresh_X2_allNodes rfl rfl rfl (by decide +kernel) (rm_le (by omega) (by decide))) (preV (q := (RX2, TX2, 9)) hN hw [12] rfl rfl rfl rfl) rfl rfl hl.1 rfl (lv_room (Nat.le_of_ble_eq_true rfl)) dX8_refresh_46 ⟨Nat.le_refl _, Nat.le_refl _⟩) hw hA [12] [0, 1, 2, 3, 4, 5, 6, 7, 8, 9, 10, 11, 13] rfl rfl rfl (by decide) (fun H locs hw => ?_)
    have hw : Wo E A s [oC a_qp 5 [.ref a_qp_part, .int qp_amount, .int qp_odd, .int qp_twoSided], aI E a_qp_part 16 qp_part, oC a_qw 5 [.ref a_qw_part, .int qw_amount, .int qw_odd, .int qw_twoSided], aI E a_qw_part 16 qw_part, aI E a_s_sizeAndLeft 2584 s_sizeAndLeft_4, oC a_r 7 [.ref a_r_slots, .ref a_r_slotOf, .ref a_r_sets, .ref a_r_later, .ref a_r_laters, .int r_mayLeave, .int r_amount], aI E a_r_slots 4096 r_slots, aI E a_r_slotOf 2584 r_slotOf, aI E a_r_sets 2584 r_sets, aI E a_r_later 256 r_later, aI E a_r_laters 16 r_laters, oC a_s 8 [.ref a_g, .ref a_qp, .ref a_qw, .ref a_s_sizeAndLeft, .int s_lefts_2, .int s_besides_6, .int s_uncovered_3, .int g_age], aI E a_g_joined 16 g_joined, oC a_g 2 [.int g_nodes, .int g_made, .int g_living, .int g_age, .ref a_g_oneEnd, .ref a_g_otherEnd, .ref a_g_weights, .ref a_g_alive, .ref a_g_joined]] H _ := hw
    refine lv_aload_n S.1 S.2.1 dX8_refresh_49 rfl (lv_at hl 0 rfl) ?_
    refine g_get S hN hw (C := RX8) (T := TX8) (N := 8) (ci := 8) (v := .int s_besides_6) 11 5 iX8 k49 dX8_refresh_50 rfl rfl (by decide) rfl ?_
    refine lv_iconst (v := (-1)) S.1 S.2.1 dX8_refresh_53 (by decide) ?_
    refine lv_ixor S.1 S.2.1 dX8_refresh_54 ?_
    refine lv_iand S.1 S.2.1 dX8_refresh_55 ?_
    obtain ⟨q_amount_10, q_odd_11, q_twoSided_12, q_part_13, hc_13, hf⟩ := bd4_s hf
    refine g_callv (wc := [oC a_qp 5 [.ref a_qp_part, .int qp_amount, .int qp_odd, .int qp_twoSided], aI E a_qp_part 16 qp_part, oC a_g 2 [.int g_nodes, .int g_made, .int g_living, .int g_age, .ref a_g_oneEnd, .ref a_g_otherEnd, .ref a_g_weights, .ref a_g_alive, .ref a_g_joined], aI E a_g_joined 16 g_joined]) (wr := [oC a_qw 5 [.ref a_qw_part, .int qw_amount, .int qw_odd, .int qw_twoSided], aI E a_qw_part 16 qw_part, aI E a_s_sizeAndLeft 2584 s_sizeAndLeft_4, oC a_r 7 [.ref a_r_slots, .ref a_r_slotOf, .ref a_r_sets, .ref a_r_later, .ref a_r_laters, .int r_mayLeave, .int r_amount], aI E a_r_slots 4096 r_slots, aI E a_r_slotOf 2584 r_slotOf, aI E a_r_sets 2584 r_sets, aI E a_r_later 256 r_later, aI E a_r_laters 16 r_laters, oC a_s 8 [.ref a_g, .ref a_qp, .ref a_qw, .ref a_s_sizeAndLeft, .int s_lefts_2, .int s_besides_6, .int s_uncovered_3, .int g_age]]) (w1 := [oC a_qp 5 [.ref a_qp_part, .int q_amount_10, .int q_odd_11, .int q_twoSided_12], aI E a_qp_part 16 q_part_13, oC a_g 2 [.int g_nodes, .int g_made, .int g_living, .int g_age, .ref a_g_oneEnd, .ref a_g_otherEnd, .ref a_g_weights, .ref a_g_alive, .ref a_g_joined], aI E a_g_joined 16 g_joined]) (va_runV (As := [.ref a_g, .int ((f_X2_allNodes g_nodes) &&& (s_besides_6 ^^^ (-1)))]) (rest := []) S (c_X5_split l E F qp_part a_qp_part qp_amount qp_odd qp_twoSided a_qp g_nodes g_made g_living g_age a_g_oneEnd a_g_otherEnd a_g_weights a_g_alive g_joined a_g_joined a_g ((f_X2_allNodes g_nodes) &&& (s_besides_6 ^^^ (-1))) q_amount_10 q_odd_11 q_twoSided_12 q_part_13 hc_13 _) (cwV 2 S.2.2.2.2 gX8_refresh_X5_split rfl rfl rfl (by decide +kernel) (rm_le (by omega) (by decide))) (preV (q := (RX5, TX5, 4)) hN hw [0, 1, 13, 12] rfl rfl rfl rfl) rfl rfl hl.1 rfl (lv_room (Nat.le_of_ble_eq_true rfl)) dX8_refresh_56 ⟨Nat.le_refl _, Nat.le_refl _⟩) hw hA [0, 1, 13, 12] [2, 3, 4, 5, 6, 7, 8, 9, 10, 11] rfl rfl rfl (by decide) (fun H locs hw => ?_)
    have hw : Wo E A s [oC a_qw 5 [.ref a_qw_part, .int qw_amount, .int qw_odd, .int qw_twoSided], aI E a_qw_part 16 qw_part, aI E a_s_sizeAndLeft 2584 s_sizeAndLeft_4, oC a_r 7 [.ref a_r_slots, .ref a_r_slotOf, .ref a_r_sets, .ref a_r_later, .ref a_r_laters, .int r_mayLeave, .int r_amount], aI E a_r_slots 4096 r_slots, aI E a_r_slotOf 2584 r_slotOf, aI E a_r_sets 2584 r_sets, aI E a_r_later 256 r_later, aI E a_r_laters 16 r_laters, oC a_s 8 [.ref a_g, .ref a_qp, .ref a_qw, .ref a_s_sizeAndLeft, .int s_lefts_2, .int s_besides_6, .int s_uncovered_3, .int g_age], oC a_qp 5 [.ref a_qp_part, .int q_amount_10, .int q_odd_11, .int q_twoSided_12], aI E a_qp_part 16 q_part_13, oC a_g 2 [.int g_nodes, .int g_made, .int g_living, .int g_age, .ref a_g_oneEnd, .ref a_g_otherEnd, .ref a_g_weights, .ref a_g_alive, .ref a_g_joined], aI E a_g_joined 16 g_joined] H _ := hw
    refine lv_aload_n S.1 S.2.1 dX8_refresh_59 rfl (lv_at hl 0 rfl) ?_
    refine g_get S hN hw (C := RX8) (T := TX8) (N := 8) (ci := 8) (v := .ref a_qw) 9 2 iX8 k18 dX8_refresh_60 rfl rfl (by decide) rfl ?_
    refine lv_aload_n S.1 S.2.1 dX8_refresh_63 rfl (lv_at hl 0 rfl) ?_
    refine g_get S hN hw (C := RX8) (T := TX8) (N := 8) (ci := 8) (v := .ref a_g) 9 0 iX8 k31 dX8_refresh_64 rfl rfl (by decide) rfl ?_
    refine lv_aload_n S.1 S.2.1 dX8_refresh_67 rfl (lv_at hl 0 rfl) ?_
    refine g_get S hN hw (C := RX8) (T := TX8) (N := 8) (ci := 8) (v := .ref a_g) 9 0 iX8 k31 dX8_refresh_68 rfl rfl (by decide) rfl ?_
    refine g_calli (r := (f_X2_allNodes g_nodes)) (wc := [oC a_g 2 [.int g_nodes, .int g_made, .int g_living, .int g_age, .ref a_g_oneEnd, .ref a_g_otherEnd, .ref a_g_weights, .ref a_g_alive, .ref a_g_joined]]) (wr := [oC a_qw 5 [.ref a_qw_part, .int qw_amount, .int qw_odd, .int qw_twoSided], aI E a_qw_part 16 qw_part, aI E a_s_sizeAndLeft 2584 s_sizeAndLeft_4, oC a_r 7 [.ref a_r_slots, .ref a_r_slotOf, .ref a_r_sets, .ref a_r_later, .ref a_r_laters, .int r_mayLeave, .int r_amount], aI E a_r_slots 4096 r_slots, aI E a_r_slotOf 2584 r_slotOf, aI E a_r_sets 2584 r_sets, aI E a_r_later 256 r_later, aI E a_r_laters 16 r_laters, oC a_s 8 [.ref a_g, .ref a_qp, .ref a_qw, .ref a_s_sizeAndLeft, .int s_lefts_2, .int s_besides_6, .int s_uncovered_3, .int g_age], oC a_qp 5 [.ref a_qp_part, .int q_amount_10, .int q_odd_11, .int q_twoSided_12], aI E a_qp_part 16 q_part_13, aI E a_g_joined 16 g_joined]) (w1 := [oC a_g 2 [.int g_nodes, .int g_made, .int g_living, .int g_age, .ref a_g_oneEnd, .ref a_g_otherEnd, .ref a_g_weights, .ref a_g_alive, .ref a_g_joined]]) (va_runV (As := []) (rest := [.ref a_g, .ref a_qw]) S (c_X2_allNodes l E g_nodes g_made g_living g_age a_g_oneEnd a_g_otherEnd a_g_weights a_g_alive a_g_joined a_g (f_X2_allNodes g_nodes) rfl _) (cwV 0 S.2.2.2.2 gX8_refresh_X2_allNodes rfl rfl rfl (by decide +kernel) (rm_le (by omega) (by decide))) (preV (q := (RX2, TX2, 9)) hN hw [12] rfl rfl rfl rfl) rfl rfl hl.1 rfl (lv_room (Nat.le_of_ble_eq_true rfl)) dX8_refresh_71 ⟨Nat.le_refl _, Nat.le_refl _⟩) hw hA [12] [0, 1, 2, 3, 4, 5, 6, 7, 8, 9, 10, 11, 13] rfl rfl rfl (by decide) (fun H locs hw => ?_)
    have hw : Wo E A s [oC a_qw 5 [.ref a_qw_part, .int qw_amount, .int qw_odd, .int qw_twoSided], aI E a_qw_part 16 qw_part, aI E a_s_sizeAndLeft 2584 s_sizeAndLeft_4, oC a_r 7 [.ref a_r_slots, .ref a_r_slotOf, .ref a_r_sets, .ref a_r_later, .ref a_r_laters, .int r_mayLeave, .int r_amount], aI E a_r_slots 4096 r_slots, aI E a_r_slotOf 2584 r_slotOf, aI E a_r_sets 2584 r_sets, aI E a_r_later 256 r_later, aI E a_r_laters 16 r_laters, oC a_s 8 [.ref a_g, .ref a_qp, .ref a_qw, .ref a_s_sizeAndLeft, .int s_lefts_2, .int s_besides_6, .int s_uncovered_3, .int g_age], oC a_qp 5 [.ref a_qp_part, .int q_amount_10, .int q_odd_11, .int q_twoSided_12], aI E a_qp_part 16 q_part_13, aI E a_g_joined 16 g_joined, oC a_g 2 [.int g_nodes, .int g_made, .int g_living, .int g_age, .ref a_g_oneEnd, .ref a_g_otherEnd, .ref a_g_weights, .ref a_g_alive, .ref a_g_joined]] H _ := hw
    obtain ⟨q_amount_17, q_odd_18, q_twoSided_19, q_part_20, hc_20, hf⟩ := bd4_s hf
    refine g_callv (wc := [oC a_qw 5 [.ref a_qw_part, .int qw_amount, .int qw_odd, .int qw_twoSided], aI E a_qw_part 16 qw_part, oC a_g 2 [.int g_nodes, .int g_made, .int g_living, .int g_age, .ref a_g_oneEnd, .ref a_g_otherEnd, .ref a_g_weights, .ref a_g_alive, .ref a_g_joined], aI E a_g_joined 16 g_joined]) (wr := [aI E a_s_sizeAndLeft 2584 s_sizeAndLeft_4, oC a_r 7 [.ref a_r_slots, .ref a_r_slotOf, .ref a_r_sets, .ref a_r_later, .ref a_r_laters, .int r_mayLeave, .int r_amount], aI E a_r_slots 4096 r_slots, aI E a_r_slotOf 2584 r_slotOf, aI E a_r_sets 2584 r_sets, aI E a_r_later 256 r_later, aI E a_r_laters 16 r_laters, oC a_s 8 [.ref a_g, .ref a_qp, .ref a_qw, .ref a_s_sizeAndLeft, .int s_lefts_2, .int s_besides_6, .int s_uncovered_3, .int g_age], oC a_qp 5 [.ref a_qp_part, .int q_amount_10, .int q_odd_11, .int q_twoSided_12], aI E a_qp_part 16 q_part_13]) (w1 := [oC a_qw 5 [.ref a_qw_part, .int q_amount_17, .int q_odd_18, .int q_twoSided_19], aI E a_qw_part 16 q_part_20, oC a_g 2 [.int g_nodes, .int g_made, .int g_living, .int g_age, .ref a_g_oneEnd, .ref a_g_otherEnd, .ref a_g_weights, .ref a_g_alive, .ref a_g_joined], aI E a_g_joined 16 g_joined]) (va_runV (As := [.ref a_g, .int (f_X2_allNodes g_nodes)]) (rest := []) S (c_X5_split l E F qw_part a_qw_part qw_amount qw_odd qw_twoSided a_qw g_nodes g_made g_living g_age a_g_oneEnd a_g_otherEnd a_g_weights a_g_alive g_joined a_g_joined a_g (f_X2_allNodes g_nodes) q_amount_17 q_odd_18 q_twoSided_19 q_part_20 hc_20 _) (cwV 2 S.2.2.2.2 gX8_refresh_X5_split rfl rfl rfl (by decide +kernel) (rm_le (by omega) (by decide))) (preV (q := (RX5, TX5, 4)) hN hw [0, 1, 13, 12] rfl rfl rfl rfl) rfl rfl hl.1 rfl (lv_room (Nat.le_of_ble_eq_true rfl)) dX8_refresh_74 ⟨Nat.le_refl _, Nat.le_refl _⟩) hw hA [0, 1, 13, 12] [2, 3, 4, 5, 6, 7, 8, 9, 10, 11] rfl rfl rfl (by decide) (fun H locs hw => ?_)
    have hw : Wo E A s [aI E a_s_sizeAndLeft 2584 s_sizeAndLeft_4, oC a_r 7 [.ref a_r_slots, .ref a_r_slotOf, .ref a_r_sets, .ref a_r_later, .ref a_r_laters, .int r_mayLeave, .int r_amount], aI E a_r_slots 4096 r_slots, aI E a_r_slotOf 2584 r_slotOf, aI E a_r_sets 2584 r_sets, aI E a_r_later 256 r_later, aI E a_r_laters 16 r_laters, oC a_s 8 [.ref a_g, .ref a_qp, .ref a_qw, .ref a_s_sizeAndLeft, .int s_lefts_2, .int s_besides_6, .int s_uncovered_3, .int g_age], oC a_qp 5 [.ref a_qp_part, .int q_amount_10, .int q_odd_11, .int q_twoSided_12], aI E a_qp_part 16 q_part_13, oC a_qw 5 [.ref a_qw_part, .int q_amount_17, .int q_odd_18, .int q_twoSided_19], aI E a_qw_part 16 q_part_20, oC a_g 2 [.int g_nodes, .int g_made, .int g_living, .int g_age, .ref a_g_oneEnd, .ref a_g_otherEnd, .ref a_g_weights, .ref a_g_alive, .ref a_g_joined], aI E a_g_joined 16 g_joined] H _ := hw
    cases hf
    exact hE _ _ _ _ (hw.sub [7, 12, 13, 8, 9, 10, 11, 0, 1, 2, 3, 4, 5, 6] rfl rfl) dX8_refresh_77
def f_X8_sortOf (p1 : Int32) (s_lefts : Int32) (s_besides : Int32) : Int32 :=
  (if (f_X11_has s_lefts p1) = 0 then (if (f_X11_has s_besides p1) = 0 then 2 else 1) else 0)
set_option maxHeartbeats 4000000 in
set_option maxRecDepth 100000 in
theorem c_X8_sortOf (l : Launch) (E : Ev) (a_g : Nat) (a_qp : Nat) (a_qw : Nat) (a_s_sizeAndLeft : Nat) (s_lefts : Int32) (s_besides : Int32) (s_uncovered : Int32) (s_age : Int32) (a_s : Nat) (p1 : Int32) (ro : Int32) (hf : f_X8_sortOf p1 s_lefts s_besides = ro) :
    CtI l yX8_sortOf wsX8_sortOf (Rm 1) E [.ref a_s, .int p1] [oC a_s 8 [.ref a_g, .ref a_qp, .ref a_qw, .ref a_s_sizeAndLeft, .int s_lefts, .int s_besides, .int s_uncovered, .int s_age]] ro [oC a_s 8 [.ref a_g, .ref a_qp, .ref a_qw, .ref a_s_sizeAndLeft, .int s_lefts, .int s_besides, .int s_uncovered, .int s_age]] := by
  refine ofI (cc := cX8_sortOf) (maxL := 2) (own := RX8) rfl rfl (by decide) rfl rfl ?_
  intro p e s m below meth c A ls Q S hnm hN hw hA hl0 hE
  have hl : lv_has ls 2 [(0, .ref a_s), (1, .int p1)] := hl0 _ (lv_entry [.ref a_s, .int p1] (n := 2) (Nat.le_of_ble_eq_true rfl))
  have iX8 : ∀ w ∈ wsX80, w ∈ wsX8_sortOf := by decide +kernel
  have k49 := S.2.2.2.2 (.fieldLink RX8 49 "PairMatching$Sorts" "besides" "I") (by decide +kernel)
  have k56 := S.2.2.2.2 (.fieldLink RX8 56 "PairMatching$Sorts" "lefts" "I") (by decide +kernel)
  have kIX11 := S.2.2.2.2 (.initialized RX11) (by decide +kernel)
  have kSX11_has := S.2.2.2.2 (.static yX11_has) (by decide +kernel)
  have w59 : Cond.methodLinkNest RX8 59 yX11_has "PairMatching" ∈ nestW := List.mem_of_getElem? (i := 77) rfl
  unfold f_X8_sortOf at hf
  refine lv_aload_n S.1 S.2.1 dX8_sortOf_0 rfl (lv_at hl 0 rfl) ?_
  refine g_get S hN hw (C := RX8) (T := TX8) (N := 8) (ci := 8) (v := .int s_lefts) 0 4 iX8 k56 dX8_sortOf_1 rfl rfl (by decide) rfl ?_
  refine lv_iload_n S.1 S.2.1 dX8_sortOf_4 rfl (lv_at hl 1 rfl) ?_
  refine g_calli (r := (f_X11_has s_lefts p1)) (wc := []) (wr := [oC a_s 8 [.ref a_g, .ref a_qp, .ref a_qw, .ref a_s_sizeAndLeft, .int s_lefts, .int s_besides, .int s_uncovered, .int s_age]]) (w1 := []) (va_runSN (As := [.int s_lefts, .int p1]) (rest := []) S (c_X11_has l E s_lefts p1 (f_X11_has s_lefts p1) rfl _) ⟨(va_cnB 2 S.2.2.2.2 gX8_sortOf_X11_has_n59 rfl rfl rfl (hN.2 _ w59) kIX11 (by decide +kernel) (rm_le (by omega) (by decide))), kSX11_has, trivial⟩ (preS hN hw [] rfl rfl) rfl rfl hl.1 rfl (lv_room (Nat.le_of_ble_eq_true rfl)) dX8_sortOf_5 ⟨Nat.le_refl _, Nat.le_refl _⟩) hw hA [] [0] rfl rfl rfl (by decide) (fun H locs hw => ?_)
  have hw : Wo E A s [oC a_s 8 [.ref a_g, .ref a_qp, .ref a_qw, .ref a_s_sizeAndLeft, .int s_lefts, .int s_besides, .int s_uncovered, .int s_age]] H _ := hw
  refine lv_if_eq (tgt := 13) S.1 S.2.1 dX8_sortOf_8 (by decide) (fun h_3 => ?_) (fun h_3 => ?_)
  · replace hf := if_t h_3 hf
    refine lv_aload_n S.1 S.2.1 dX8_sortOf_13 rfl (lv_at hl 0 rfl) ?_
    refine g_get S hN hw (C := RX8) (T := TX8) (N := 8) (ci := 8) (v := .int s_besides) 0 5 iX8 k49 dX8_sortOf_14 rfl rfl (by decide) rfl ?_
    refine lv_iload_n S.1 S.2.1 dX8_sortOf_17 rfl (lv_at hl 1 rfl) ?_
    refine g_calli (r := (f_X11_has s_besides p1)) (wc := []) (wr := [oC a_s 8 [.ref a_g, .ref a_qp, .ref a_qw, .ref a_s_sizeAndLeft, .int s_lefts, .int s_besides, .int s_uncovered, .int s_age]]) (w1 := []) (va_runSN (As := [.int s_besides, .int p1]) (rest := []) S (c_X11_has l E s_besides p1 (f_X11_has s_besides p1) rfl _) ⟨(va_cnB 2 S.2.2.2.2 gX8_sortOf_X11_has_n59 rfl rfl rfl (hN.2 _ w59) kIX11 (by decide +kernel) (rm_le (by omega) (by decide))), kSX11_has, trivial⟩ (preS hN hw [] rfl rfl) rfl rfl hl.1 rfl (lv_room (Nat.le_of_ble_eq_true rfl)) dX8_sortOf_18 ⟨Nat.le_refl _, Nat.le_refl _⟩) hw hA [] [0] rfl rfl rfl (by decide) (fun H locs hw => ?_)
    have hw : Wo E A s [oC a_s 8 [.ref a_g, .ref a_qp, .ref a_qw, .ref a_s_sizeAndLeft, .int s_lefts, .int s_besides, .int s_uncovered, .int s_age]] H _ := hw
    refine lv_if_eq (tgt := 28) S.1 S.2.1 dX8_sortOf_21 (by decide) (fun h_6 => ?_) (fun h_6 => ?_)
    · replace hf := if_t h_6 hf
      refine lv_iconst (v := 2) S.1 S.2.1 dX8_sortOf_28 (by decide) ?_
      cases hf
      exact hE _ _ _ _ hw dX8_sortOf_29
    · replace hf := if_f h_6 hf
      refine lv_iconst (v := 1) S.1 S.2.1 dX8_sortOf_24 (by decide) ?_
      refine lv_goto (tgt := 29) S.1 S.2.1 dX8_sortOf_25 (by decide) ?_
      cases hf
      exact hE _ _ _ _ hw dX8_sortOf_29
  · replace hf := if_f h_3 hf
    refine lv_iconst (v := 0) S.1 S.2.1 dX8_sortOf_11 (by decide) ?_
    cases hf
    exact hE _ _ _ _ hw dX8_sortOf_12
def f_X9_findArcs_L10 (g_made : Int32) (g_oneEnd : Nat → Int32) (g_otherEnd : Nat → Int32) (g_alive : Nat → Int32) (kk_114_3 : (Nat → Int64) → Option ((Nat → Int64))) : Nat → Int32 → (Nat → Int64) → Option ((Nat → Int64))
  | 0, _, _ => none
  | n + 1, v1_5, t_arcBetween_6 => (if g_made ≤ v1_5 then (kk_114_3 t_arcBetween_6) else rd 60 g_alive v1_5 (fun y_8 => (if y_8 = 0 then (f_X9_findArcs_L10 g_made g_oneEnd g_otherEnd g_alive kk_114_3 n (v1_5 + 1) t_arcBetween_6) else rd 60 g_oneEnd v1_5 (fun y_10 => rd 60 g_otherEnd v1_5 (fun y_11 => rd 60 g_otherEnd v1_5 (fun y_14 => rd 60 g_oneEnd v1_5 (fun y_15 => rd 256 t_arcBetween_6 (f_X11_cell y_10 y_11) (fun y_18 => wr 256 t_arcBetween_6 (f_X11_cell y_10 y_11) (if (f_X11_markOf v1_5) < y_18 then y_18 else (f_X11_markOf v1_5)) (fun t_arcBetween_21 => rd 256 t_arcBetween_21 (f_X11_cell y_10 y_11) (fun y_22 => wr 256 t_arcBetween_21 (f_X11_cell y_14 y_15) y_22 (fun t_arcBetween_23 => (f_X9_findArcs_L10 g_made g_oneEnd g_otherEnd g_alive kk_114_3 n (v1_5 + 1) t_arcBetween_23))))))))))))
def f_X9_findArcs (F : Nat) (g_made : Int32) (g_oneEnd : Nat → Int32) (g_otherEnd : Nat → Int32) (g_alive : Nat → Int32) (t_arcBetween : Nat → Int64) : Option ((Nat → Int64)) :=
  (f_J7_fill_d0a16 F (0 : Int64) t_arcBetween 256).bind (fun p1_1 => (jn (fun (t_arcBetween_3 : Nat → Int64) => some t_arcBetween_3) (fun kk_114_3 => (f_X9_findArcs_L10 g_made g_oneEnd g_otherEnd g_alive kk_114_3 F 0 p1_1))))
set_option maxHeartbeats 4000000 in
set_option maxRecDepth 100000 in
theorem c_X9_findArcs (l : Launch) (E : Ev) (F : Nat) (g_nodes : Int32) (g_made : Int32) (g_living : Int32) (g_age : Int32) (g_oneEnd : Nat → Int32) (a_g_oneEnd : Nat) (g_otherEnd : Nat → Int32) (a_g_otherEnd : Nat) (a_g_weights : Nat) (g_alive : Nat → Int32) (a_g_alive : Nat) (a_g_joined : Nat) (a_g : Nat) (a_k : Nat) (t_arcBetween : Nat → Int64) (a_t_arcBetween : Nat) (a_t_open : Nat) (a_t_sooner : Nat) (a_t_wanted : Nat) (t_total : Int32) (t_first : Int64) (t_graphAge : Int32) (t_ranksAge : Int32) (a_t : Nat) (u_t_arcBetween : Nat → Int64) (hf : f_X9_findArcs F g_made g_oneEnd g_otherEnd g_alive t_arcBetween = some u_t_arcBetween) :
    CtV l yX9_findArcs wsX9_findArcs (Rm 1) E [.ref a_t] [oC a_t 9 [.ref a_g, .ref a_k, .ref a_t_arcBetween, .ref a_t_open, .ref a_t_sooner, .ref a_t_wanted, .int t_total, .long t_first, .int t_graphAge, .int t_ranksAge], oC a_g 2 [.int g_nodes, .int g_made, .int g_living, .int g_age, .ref a_g_oneEnd, .ref a_g_otherEnd, .ref a_g_weights, .ref a_g_alive, .ref a_g_joined], aI E a_g_oneEnd 60 g_oneEnd, aI E a_g_otherEnd 60 g_otherEnd, aZ E a_g_alive 60 g_alive, aJ E a_t_arcBetween 256 t_arcBetween] [oC a_t 9 [.ref a_g, .ref a_k, .ref a_t_arcBetween, .ref a_t_open, .ref a_t_sooner, .ref a_t_wanted, .int t_total, .long t_first, .int t_graphAge, .int t_ranksAge], oC a_g 2 [.int g_nodes, .int g_made, .int g_living, .int g_age, .ref a_g_oneEnd, .ref a_g_otherEnd, .ref a_g_weights, .ref a_g_alive, .ref a_g_joined], aI E a_g_oneEnd 60 g_oneEnd, aI E a_g_otherEnd 60 g_otherEnd, aZ E a_g_alive 60 g_alive, aJ E a_t_arcBetween 256 u_t_arcBetween] := by
  refine ofV (cc := cX9_findArcs) (maxL := 4) (own := RX9) rfl rfl (by decide) rfl rfl ?_
  intro p e s m below meth c A ls Q S hnm hN hw hA hl0 hE
  have hl : lv_has ls 4 [(0, .ref a_t)] := hl0 _ (lv_entry [.ref a_t] (n := 4) (Nat.le_of_ble_eq_true rfl))
  have iX2 : ∀ w ∈ wsX20, w ∈ wsX9_findArcs := by decide +kernel
  have iX9 : ∀ w ∈ wsX90, w ∈ wsX9_findArcs := by decide +kernel
  have k100 := S.2.2.2.2 (.methodLink RX9 100 Lib.MathLoose.max_long.x) (by decide +kernel)
  have k32 := S.2.2.2.2 (.fieldLink RX9 32 "PairMatching$Stables" "graph" "LPairMatching$Graph;") (by decide +kernel)
  have k9 := S.2.2.2.2 (.fieldLink RX9 9 "PairMatching$Stables" "arcBetween" "[J") (by decide +kernel)
  have kIX11 := S.2.2.2.2 (.initialized RX11) (by decide +kernel)
  have kSX11_cell := S.2.2.2.2 (.static yX11_cell) (by decide +kernel)
  have kSX11_markOf := S.2.2.2.2 (.static yX11_markOf) (by decide +kernel)
  have kmx1 := S.2.2.2.2 (.static Lib.MathLoose.max_long.x) (by decide +kernel)
  have kmx2 := S.2.2.2.2 (.initialized "java/lang/Math") (by decide +kernel)
  have kmx3 := S.2.2.2.2 (.code Lib.MathLoose.max_long.x Lib.MathLoose.max_long.code 4 (some .long)) (by decide +kernel)
  have w79 : Cond.fieldLinkNest RX9 79 "PairMatching$Graph" "made" "I" "PairMatching" ∈ nestW := List.mem_of_getElem? (i := 6) rfl
  have w82 : Cond.fieldLinkNest RX9 82 "PairMatching$Graph" "alive" "[Z" "PairMatching" ∈ nestW := List.mem_of_getElem? (i := 28) rfl
  have w86 : Cond.fieldLinkNest RX9 86 "PairMatching$Graph" "oneEnd" "[I" "PairMatching" ∈ nestW := List.mem_of_getElem? (i := 18) rfl
  have w89 : Cond.fieldLinkNest RX9 89 "PairMatching$Graph" "otherEnd" "[I" "PairMatching" ∈ nestW := List.mem_of_getElem? (i := 22) rfl
  have w92 : Cond.methodLinkNest RX9 92 yX11_cell "PairMatching" ∈ nestW := List.mem_of_getElem? (i := 92) rfl
  have w96 : Cond.methodLinkNest RX9 96 yX11_markOf "PairMatching" ∈ nestW := List.mem_of_getElem? (i := 93) rfl
  unfold f_X9_findArcs at hf
  refine lv_aload_n S.1 S.2.1 dX9_findArcs_0 rfl (lv_at hl 0 rfl) ?_
  refine g_get S hN hw (C := RX9) (T := TX9) (N := 10) (ci := 9) (v := .ref a_t_arcBetween) 0 2 iX9 k9 dX9_findArcs_1 rfl rfl (by decide) rfl ?_
  refine lv_lconst (v := 0) S.1 S.2.1 dX9_findArcs_4 (by decide) ?_
  obtain ⟨p1_1, hc_1, hf⟩ := bd_s hf
  refine g_callv (wc := [aJ E a_t_arcBetween 256 t_arcBetween]) (wr := [oC a_t 9 [.ref a_g, .ref a_k, .ref a_t_arcBetween, .ref a_t_open, .ref a_t_sooner, .ref a_t_wanted, .int t_total, .long t_first, .int t_graphAge, .int t_ranksAge], oC a_g 2 [.int g_nodes, .int g_made, .int g_living, .int g_age, .ref a_g_oneEnd, .ref a_g_otherEnd, .ref a_g_weights, .ref a_g_alive, .ref a_g_joined], aI E a_g_oneEnd 60 g_oneEnd, aI E a_g_otherEnd 60 g_otherEnd, aZ E a_g_alive 60 g_alive]) (w1 := [aJ E a_t_arcBetween 256 p1_1]) (va_runS (As := [.ref a_t_arcBetween, .long (0 : Int64)]) (rest := []) S (c_J7_fill_d0a16 l E F a_t_arcBetween t_arcBetween 256 (0 : Int64) p1_1 hc_1 _) (va_cwS 2 S.2.2.2.2 gX9_findArcs_J7_fill_d0a16 rfl rfl rfl (by decide +kernel) (rm_le (by omega) (by decide))) (preS hN hw [5] rfl rfl) rfl rfl hl.1 rfl (lv_room (Nat.le_of_ble_eq_true rfl)) dX9_findArcs_5 ⟨Nat.le_refl _, Nat.le_refl _⟩) hw hA [5] [0, 1, 2, 3, 4] rfl rfl rfl (by decide) (fun H locs hw => ?_)
  have hw : Wo E A s [oC a_t 9 [.ref a_g, .ref a_k, .ref a_t_arcBetween, .ref a_t_open, .ref a_t_sooner, .ref a_t_wanted, .int t_total, .long t_first, .int t_graphAge, .int t_ranksAge], oC a_g 2 [.int g_nodes, .int g_made, .int g_living, .int g_age, .ref a_g_oneEnd, .ref a_g_otherEnd, .ref a_g_weights, .ref a_g_alive, .ref a_g_joined], aI E a_g_oneEnd 60 g_oneEnd, aI E a_g_otherEnd 60 g_otherEnd, aZ E a_g_alive 60 g_alive, aJ E a_t_arcBetween 256 p1_1] H _ := hw
  refine lv_iconst (v := 0) S.1 S.2.1 dX9_findArcs_8 (by decide) ?_
  refine lv_istore_n (lv' := [(1, .int 0), (0, .ref a_t)]) S.1 S.2.1 dX9_findArcs_9 rfl hl (by decide) rfl (fun ls hl => ?_)
  obtain ⟨kk_114_3, ekk_114_3, hf⟩ := jn_s hf
  have hJ_kk_114_3 : ∀ (t_arcBetween_3 : Nat → Int64) (H : Heap) (locs : List Loc) (ls : Array Slot), Wo E A s [oC a_t 9 [.ref a_g, .ref a_k, .ref a_t_arcBetween, .ref a_t_open, .ref a_t_sooner, .ref a_t_wanted, .int t_total, .long t_first, .int t_graphAge, .int t_ranksAge], oC a_g 2 [.int g_nodes, .int g_made, .int g_living, .int g_age, .ref a_g_oneEnd, .ref a_g_otherEnd, .ref a_g_weights, .ref a_g_alive, .ref a_g_joined], aI E a_g_oneEnd 60 g_oneEnd, aI E a_g_otherEnd 60 g_otherEnd, aZ E a_g_alive 60 g_alive, aJ E a_t_arcBetween 256 t_arcBetween_3] H locs → lv_has ls 4 [] → kk_114_3 t_arcBetween_3 = some u_t_arcBetween → W p l e (Rm 1) s m (([.ref a_t] : List Value).toArray) below meth c H locs 0 0 Q (F0 m 114 ls []) := by
    intro t_arcBetween_3 H locs ls hw hl hf
    rw [ekk_114_3] at hf
    cases hf
    exact hE _ _ _ _ hw dX9_findArcs_114
  have hL_10_23 : ∀ (n : Nat) (v1_5 : Int32) (t_arcBetween_6 : Nat → Int64) (H : Heap) (locs : List Loc) (ls : Array Slot), Wo E A s [oC a_t 9 [.ref a_g, .ref a_k, .ref a_t_arcBetween, .ref a_t_open, .ref a_t_sooner, .ref a_t_wanted, .int t_total, .long t_first, .int t_graphAge, .int t_ranksAge], oC a_g 2 [.int g_nodes, .int g_made, .int g_living, .int g_age, .ref a_g_oneEnd, .ref a_g_otherEnd, .ref a_g_weights, .ref a_g_alive, .ref a_g_joined], aI E a_g_oneEnd 60 g_oneEnd, aI E a_g_otherEnd 60 g_otherEnd, aZ E a_g_alive 60 g_alive, aJ E a_t_arcBetween 256 t_arcBetween_6] H locs → lv_has ls 4 [(0, .ref a_t), (1, .int v1_5)] → f_X9_findArcs_L10 g_made g_oneEnd g_otherEnd g_alive kk_114_3 n v1_5 t_arcBetween_6 = some u_t_arcBetween → W p l e (Rm 1) s m (([.ref a_t] : List Value).toArray) below meth c H locs 0 0 Q (F0 m 10 ls []) := by
    intro n
    induction n with
    | zero => intro v1_5 t_arcBetween_6 H locs ls hw hl hf; unfold f_X9_findArcs_L10 at hf; cases hf
    | succ n ih =>
      intro v1_5 t_arcBetween_6 H locs ls hw hl hf
      unfold f_X9_findArcs_L10 at hf
      refine lv_iload_n S.1 S.2.1 dX9_findArcs_10 rfl (lv_at hl 1 rfl) ?_
      refine lv_aload_n S.1 S.2.1 dX9_findArcs_11 rfl (lv_at hl 0 rfl) ?_
      refine g_get S hN hw (C := RX9) (T := TX9) (N := 10) (ci := 9) (v := .ref a_g) 0 0 iX9 k32 dX9_findArcs_12 rfl rfl (by decide) rfl ?_
      refine g_getN S hN hw (C := RX2) (T := TX2) (N := 9) (ci := 2) (v := .int g_made) 1 1 iX2 w79 dX9_findArcs_15 rfl rfl (by decide) rfl ?_
      refine lv_icmp_ge (tgt := 114) S.1 S.2.1 dX9_findArcs_18 (by decide) (fun h_7 => ?_) (fun h_7 => ?_)
      · replace hf := if_t h_7 hf
        exact hJ_kk_114_3 t_arcBetween_6 _ _ _ hw (lv_sub hl [] rfl) hf
      · replace hf := if_f h_7 hf
        refine lv_aload_n S.1 S.2.1 dX9_findArcs_21 rfl (lv_at hl 0 rfl) ?_
        refine g_get S hN hw (C := RX9) (T := TX9) (N := 10) (ci := 9) (v := .ref a_g) 0 0 iX9 k32 dX9_findArcs_22 rfl rfl (by decide) rfl ?_
        refine g_getN S hN hw (C := RX2) (T := TX2) (N := 9) (ci := 2) (v := .ref a_g_alive) 1 7 iX2 w82 dX9_findArcs_25 rfl rfl (by decide) rfl ?_
        refine lv_iload_n S.1 S.2.1 dX9_findArcs_28 rfl (lv_at hl 1 rfl) ?_
        obtain ⟨hi_7, hf⟩ := rd_s hf
        refine g_zald (n := 60) (f := g_alive) S hN hw 4 hi_7 dX9_findArcs_29 rfl ?_
        generalize g_alive (v1_5 : Int32).toNatClampNeg = y_8 at hf ⊢
        refine lv_if_eq (tgt := 108) S.1 S.2.1 dX9_findArcs_30 (by decide) (fun h_9 => ?_) (fun h_9 => ?_)
        · replace hf := if_t h_9 hf
          refine lv_iinc (v := (v1_5 + 1)) (lv' := [(1, .int (v1_5 + 1)), (0, .ref a_t)]) S.1 S.2.1 dX9_findArcs_108 hl (k := 1) rfl rfl (by decide) rfl (fun ls hl => ?_)
          refine lv_goto (tgt := 10) S.1 S.2.1 dX9_findArcs_111 (by decide) ?_
          exact ih (v1_5 + 1) t_arcBetween_6 _ _ _ hw (lv_sub hl [1, 0] rfl) hf
        · replace hf := if_f h_9 hf
          refine lv_aload_n S.1 S.2.1 dX9_findArcs_33 rfl (lv_at hl 0 rfl) ?_
          refine g_get S hN hw (C := RX9) (T := TX9) (N := 10) (ci := 9) (v := .ref a_g) 0 0 iX9 k32 dX9_findArcs_34 rfl rfl (by decide) rfl ?_
          refine g_getN S hN hw (C := RX2) (T := TX2) (N := 9) (ci := 2) (v := .ref a_g_oneEnd) 1 4 iX2 w86 dX9_findArcs_37 rfl rfl (by decide) rfl ?_
          refine lv_iload_n S.1 S.2.1 dX9_findArcs_40 rfl (lv_at hl 1 rfl) ?_
          obtain ⟨hi_9, hf⟩ := rd_s hf
          refine g_iald (n := 60) (f := g_oneEnd) S hN hw 2 hi_9 dX9_findArcs_41 rfl ?_
          generalize g_oneEnd (v1_5 : Int32).toNatClampNeg = y_10 at hf ⊢
          refine lv_aload_n S.1 S.2.1 dX9_findArcs_42 rfl (lv_at hl 0 rfl) ?_
          refine g_get S hN hw (C := RX9) (T := TX9) (N := 10) (ci := 9) (v := .ref a_g) 0 0 iX9 k32 dX9_findArcs_43 rfl rfl (by decide) rfl ?_
          refine g_getN S hN hw (C := RX2) (T := TX2) (N := 9) (ci := 2) (v := .ref a_g_otherEnd) 1 5 iX2 w89 dX9_findArcs_46 rfl rfl (by decide) rfl ?_
          refine lv_iload_n S.1 S.2.1 dX9_findArcs_49 rfl (lv_at hl 1 rfl) ?_
          obtain ⟨hi_10, hf⟩ := rd_s hf
          refine g_iald (n := 60) (f := g_otherEnd) S hN hw 3 hi_10 dX9_findArcs_50 rfl ?_
          generalize g_otherEnd (v1_5 : Int32).toNatClampNeg = y_11 at hf ⊢
          refine g_calli (r := (f_X11_cell y_10 y_11)) (wc := []) (wr := [oC a_t 9 [.ref a_g, .ref a_k, .ref a_t_arcBetween, .ref a_t_open, .ref a_t_sooner, .ref a_t_wanted, .int t_total, .long t_first, .int t_graphAge, .int t_ranksAge], oC a_g 2 [.int g_nodes, .int g_made, .int g_living, .int g_age, .ref a_g_oneEnd, .ref a_g_otherEnd, .ref a_g_weights, .ref a_g_alive, .ref a_g_joined], aI E a_g_oneEnd 60 g_oneEnd, aI E a_g_otherEnd 60 g_otherEnd, aZ E a_g_alive 60 g_alive, aJ E a_t_arcBetween 256 t_arcBetween_6]) (w1 := []) (va_runSN (As := [.int y_10, .int y_11]) (rest := []) S (c_X11_cell l E y_10 y_11 (f_X11_cell y_10 y_11) rfl _) ⟨(va_cnB 2 S.2.2.2.2 gX9_findArcs_X11_cell_n92 rfl rfl rfl (hN.2 _ w92) kIX11 (by decide +kernel) (rm_le (by omega) (by decide))), kSX11_cell, trivial⟩ (preS hN hw [] rfl rfl) rfl rfl hl.1 rfl (lv_room (Nat.le_of_ble_eq_true rfl)) dX9_findArcs_51 ⟨Nat.le_refl _, Nat.le_refl _⟩) hw hA [] [0, 1, 2, 3, 4, 5] rfl rfl rfl (by decide) (fun H locs hw => ?_)
          have hw : Wo E A s [oC a_t 9 [.ref a_g, .ref a_k, .ref a_t_arcBetween, .ref a_t_open, .ref a_t_sooner, .ref a_t_wanted, .int t_total, .long t_first, .int t_graphAge, .int t_ranksAge], oC a_g 2 [.int g_nodes, .int g_made, .int g_living, .int g_age, .ref a_g_oneEnd, .ref a_g_otherEnd, .ref a_g_weights, .ref a_g_alive, .ref a_g_joined], aI E a_g_oneEnd 60 g_oneEnd, aI E a_g_otherEnd 60 g_otherEnd, aZ E a_g_alive 60 g_alive, aJ E a_t_arcBetween 256 t_arcBetween_6] H _ := hw
          refine lv_istore_n (lv' := [(2, .int (f_X11_cell y_10 y_11)), (0, .ref a_t), (1, .int v1_5)]) S.1 S.2.1 dX9_findArcs_54 rfl hl (by decide) rfl (fun ls hl => ?_)
          refine lv_aload_n S.1 S.2.1 dX9_findArcs_55 rfl (lv_at hl 1 rfl) ?_
          refine g_get S hN hw (C := RX9) (T := TX9) (N := 10) (ci := 9) (v := .ref a_g) 0 0 iX9 k32 dX9_findArcs_56 rfl rfl (by decide) rfl ?_
          refine g_getN S hN hw (C := RX2) (T := TX2) (N := 9) (ci := 2) (v := .ref a_g_otherEnd) 1 5 iX2 w89 dX9_findArcs_59 rfl rfl (by decide) rfl ?_
          refine lv_iload_n S.1 S.2.1 dX9_findArcs_62 rfl (lv_at hl 2 rfl) ?_
          obtain ⟨hi_13, hf⟩ := rd_s hf
          refine g_iald (n := 60) (f := g_otherEnd) S hN hw 3 hi_13 dX9_findArcs_63 rfl ?_
          generalize g_otherEnd (v1_5 : Int32).toNatClampNeg = y_14 at hf ⊢
          refine lv_aload_n S.1 S.2.1 dX9_findArcs_64 rfl (lv_at hl 1 rfl) ?_
          refine g_get S hN hw (C := RX9) (T := TX9) (N := 10) (ci := 9) (v := .ref a_g) 0 0 iX9 k32 dX9_findArcs_65 rfl rfl (by decide) rfl ?_
          refine g_getN S hN hw (C := RX2) (T := TX2) (N := 9) (ci := 2) (v := .ref a_g_oneEnd) 1 4 iX2 w86 dX9_findArcs_68 rfl rfl (by decide) rfl ?_
          refine lv_iload_n S.1 S.2.1 dX9_findArcs_71 rfl (lv_at hl 2 rfl) ?_
          obtain ⟨hi_14, hf⟩ := rd_s hf
          refine g_iald (n := 60) (f := g_oneEnd) S hN hw 2 hi_14 dX9_findArcs_72 rfl ?_
          generalize g_oneEnd (v1_5 : Int32).toNatClampNeg = y_15 at hf ⊢
          refine g_calli (r := (f_X11_cell y_14 y_15)) (wc := []) (wr := [oC a_t 9 [.ref a_g, .ref a_k, .ref a_t_arcBetween, .ref a_t_open, .ref a_t_sooner, .ref a_t_wanted, .int t_total, .long t_first, .int t_graphAge, .int t_ranksAge], oC a_g 2 [.int g_nodes, .int g_made, .int g_living, .int g_age, .ref a_g_oneEnd, .ref a_g_otherEnd, .ref a_g_weights, .ref a_g_alive, .ref a_g_joined], aI E a_g_oneEnd 60 g_oneEnd, aI E a_g_otherEnd 60 g_otherEnd, aZ E a_g_alive 60 g_alive, aJ E a_t_arcBetween 256 t_arcBetween_6]) (w1 := []) (va_runSN (As := [.int y_14, .int y_15]) (rest := []) S (c_X11_cell l E y_14 y_15 (f_X11_cell y_14 y_15) rfl _) ⟨(va_cnB 2 S.2.2.2.2 gX9_findArcs_X11_cell_n92 rfl rfl rfl (hN.2 _ w92) kIX11 (by decide +kernel) (rm_le (by omega) (by decide))), kSX11_cell, trivial⟩ (preS hN hw [] rfl rfl) rfl rfl hl.1 rfl (lv_room (Nat.le_of_ble_eq_true rfl)) dX9_findArcs_73 ⟨Nat.le_refl _, Nat.le_refl _⟩) hw hA [] [0, 1, 2, 3, 4, 5] rfl rfl rfl (by decide) (fun H locs hw => ?_)
          have hw : Wo E A s [oC a_t 9 [.ref a_g, .ref a_k, .ref a_t_arcBetween, .ref a_t_open, .ref a_t_sooner, .ref a_t_wanted, .int t_total, .long t_first, .int t_graphAge, .int t_ranksAge], oC a_g 2 [.int g_nodes, .int g_made, .int g_living, .int g_age, .ref a_g_oneEnd, .ref a_g_otherEnd, .ref a_g_weights, .ref a_g_alive, .ref a_g_joined], aI E a_g_oneEnd 60 g_oneEnd, aI E a_g_otherEnd 60 g_otherEnd, aZ E a_g_alive 60 g_alive, aJ E a_t_arcBetween 256 t_arcBetween_6] H _ := hw
          refine lv_istore_n (lv' := [(3, .int (f_X11_cell y_14 y_15)), (2, .int (f_X11_cell y_10 y_11)), (0, .ref a_t), (1, .int v1_5)]) S.1 S.2.1 dX9_findArcs_76 rfl hl (by decide) rfl (fun ls hl => ?_)
          refine lv_aload_n S.1 S.2.1 dX9_findArcs_77 rfl (lv_at hl 2 rfl) ?_
          refine g_get S hN hw (C := RX9) (T := TX9) (N := 10) (ci := 9) (v := .ref a_t_arcBetween) 0 2 iX9 k9 dX9_findArcs_78 rfl rfl (by decide) rfl ?_
          refine lv_iload_n S.1 S.2.1 dX9_findArcs_81 rfl (lv_at hl 1 rfl) ?_
          refine lv_aload_n S.1 S.2.1 dX9_findArcs_82 rfl (lv_at hl 2 rfl) ?_
          refine g_get S hN hw (C := RX9) (T := TX9) (N := 10) (ci := 9) (v := .ref a_t_arcBetween) 0 2 iX9 k9 dX9_findArcs_83 rfl rfl (by decide) rfl ?_
          refine lv_iload_n S.1 S.2.1 dX9_findArcs_86 rfl (lv_at hl 1 rfl) ?_
          obtain ⟨hi_17, hf⟩ := rd_s hf
          refine g_lald (n := 256) (f := t_arcBetween_6) S hN hw 5 hi_17 dX9_findArcs_87 rfl ?_
          generalize t_arcBetween_6 ((f_X11_cell y_10 y_11) : Int32).toNatClampNeg = y_18 at hf ⊢
          refine lv_iload_n S.1 S.2.1 dX9_findArcs_88 rfl (lv_at hl 3 rfl) ?_
          refine g_calll (r := (f_X11_markOf v1_5)) (wc := []) (wr := [oC a_t 9 [.ref a_g, .ref a_k, .ref a_t_arcBetween, .ref a_t_open, .ref a_t_sooner, .ref a_t_wanted, .int t_total, .long t_first, .int t_graphAge, .int t_ranksAge], oC a_g 2 [.int g_nodes, .int g_made, .int g_living, .int g_age, .ref a_g_oneEnd, .ref a_g_otherEnd, .ref a_g_weights, .ref a_g_alive, .ref a_g_joined], aI E a_g_oneEnd 60 g_oneEnd, aI E a_g_otherEnd 60 g_otherEnd, aZ E a_g_alive 60 g_alive, aJ E a_t_arcBetween 256 t_arcBetween_6]) (w1 := []) (va_runSN (As := [.int v1_5]) (rest := [.long y_18, .int (f_X11_cell y_10 y_11), .ref a_t_arcBetween]) S (c_X11_markOf l E v1_5 (f_X11_markOf v1_5) rfl _) ⟨(va_cnB 1 S.2.2.2.2 gX9_findArcs_X11_markOf_n96 rfl rfl rfl (hN.2 _ w96) kIX11 (by decide +kernel) (rm_le (by omega) (by decide))), kSX11_markOf, trivial⟩ (preS hN hw [] rfl rfl) rfl rfl hl.1 rfl (lv_room (Nat.le_of_ble_eq_true rfl)) dX9_findArcs_89 ⟨Nat.le_refl _, Nat.le_refl _⟩) hw hA [] [0, 1, 2, 3, 4, 5] rfl rfl rfl (by decide) (fun H locs hw => ?_)
          have hw : Wo E A s [oC a_t 9 [.ref a_g, .ref a_k, .ref a_t_arcBetween, .ref a_t_open, .ref a_t_sooner, .ref a_t_wanted, .int t_total, .long t_first, .int t_graphAge, .int t_ranksAge], oC a_g 2 [.int g_nodes, .int g_made, .int g_living, .int g_age, .ref a_g_oneEnd, .ref a_g_otherEnd, .ref a_g_weights, .ref a_g_alive, .ref a_g_joined], aI E a_g_oneEnd 60 g_oneEnd, aI E a_g_otherEnd 60 g_otherEnd, aZ E a_g_alive 60 g_alive, aJ E a_t_arcBetween 256 t_arcBetween_6] H _ := hw
          refine va_mmax_long S.1 S.2.1 (S.2.2.1.trans hl.1.symm) S.2.2.2.1 k100 kmx1 kmx2 kmx3 (rm_f (by omega)) (rm_l (Nat.le_trans (Nat.le_of_ble_eq_true rfl : _ ≤ 40) (by omega))) (Nat.le_refl _) (Nat.le_refl _) dX9_findArcs_92 ?_
          obtain ⟨hi_20, hf⟩ := wr_s hf
          refine g_last (n := 256) (f := t_arcBetween_6) (w1 := [oC a_t 9 [.ref a_g, .ref a_k, .ref a_t_arcBetween, .ref a_t_open, .ref a_t_sooner, .ref a_t_wanted, .int t_total, .long t_first, .int t_graphAge, .int t_ranksAge], oC a_g 2 [.int g_nodes, .int g_made, .int g_living, .int g_age, .ref a_g_oneEnd, .ref a_g_otherEnd, .ref a_g_weights, .ref a_g_alive, .ref a_g_joined], aI E a_g_oneEnd 60 g_oneEnd, aI E a_g_otherEnd 60 g_otherEnd, aZ E a_g_alive 60 g_alive, aJ E a_t_arcBetween 256 (va_up t_arcBetween_6 ((f_X11_cell y_10 y_11) : Int32).toNatClampNeg (if (f_X11_markOf v1_5) < y_18 then y_18 else (f_X11_markOf v1_5)))]) S hN hw 5 hi_20 dX9_findArcs_95 rfl rfl (fun H locs hw => ?_)
          generalize va_up t_arcBetween_6 ((f_X11_cell y_10 y_11) : Int32).toNatClampNeg (if (f_X11_markOf v1_5) < y_18 then y_18 else (f_X11_markOf v1_5)) = t_arcBetween_21 at hf hw
          refine lv_aload_n S.1 S.2.1 dX9_findArcs_96 rfl (lv_at hl 2 rfl) ?_
          refine g_get S hN hw (C := RX9) (T := TX9) (N := 10) (ci := 9) (v := .ref a_t_arcBetween) 0 2 iX9 k9 dX9_findArcs_97 rfl rfl (by decide) rfl ?_
          refine lv_iload_n S.1 S.2.1 dX9_findArcs_100 rfl (lv_at hl 0 rfl) ?_
          refine lv_aload_n S.1 S.2.1 dX9_findArcs_101 rfl (lv_at hl 2 rfl) ?_
          refine g_get S hN hw (C := RX9) (T := TX9) (N := 10) (ci := 9) (v := .ref a_t_arcBetween) 0 2 iX9 k9 dX9_findArcs_102 rfl rfl (by decide) rfl ?_
          refine lv_iload_n S.1 S.2.1 dX9_findArcs_105 rfl (lv_at hl 1 rfl) ?_
          obtain ⟨hi_21, hf⟩ := rd_s hf
          refine g_lald (n := 256) (f := t_arcBetween_21) S hN hw 5 hi_21 dX9_findArcs_106 rfl ?_
          generalize t_arcBetween_21 ((f_X11_cell y_10 y_11) : Int32).toNatClampNeg = y_22 at hf ⊢
          obtain ⟨hi_22, hf⟩ := wr_s hf
          refine g_last (n := 256) (f := t_arcBetween_21) (w1 := [oC a_t 9 [.ref a_g, .ref a_k, .ref a_t_arcBetween, .ref a_t_open, .ref a_t_sooner, .ref a_t_wanted, .int t_total, .long t_first, .int t_graphAge, .int t_ranksAge], oC a_g 2 [.int g_nodes, .int g_made, .int g_living, .int g_age, .ref a_g_oneEnd, .ref a_g_otherEnd, .ref a_g_weights, .ref a_g_alive, .ref a_g_joined], aI E a_g_oneEnd 60 g_oneEnd, aI E a_g_otherEnd 60 g_otherEnd, aZ E a_g_alive 60 g_alive, aJ E a_t_arcBetween 256 (va_up t_arcBetween_21 ((f_X11_cell y_14 y_15) : Int32).toNatClampNeg y_22)]) S hN hw 5 hi_22 dX9_findArcs_107 rfl rfl (fun H locs hw => ?_)
          generalize va_up t_arcBetween_21 ((f_X11_cell y_14 y_15) : Int32).toNatClampNeg y_22 = t_arcBetween_23 at hf hw
          refine lv_iinc (v := (v1_5 + 1)) (lv' := [(1, .int (v1_5 + 1)), (3, .int (f_X11_cell y_14 y_15)), (2, .int (f_X11_cell y_10 y_11)), (0, .ref a_t)]) S.1 S.2.1 dX9_findArcs_108 hl (k := 3) rfl rfl (by decide) rfl (fun ls hl => ?_)
          refine lv_goto (tgt := 10) S.1 S.2.1 dX9_findArcs_111 (by decide) ?_
          exact ih (v1_5 + 1) t_arcBetween_23 _ _ _ hw (lv_sub hl [3, 0] rfl) hf
  exact hL_10_23 F 0 p1_1 _ _ _ hw (lv_sub hl [1, 0] rfl) hf
def f_X9_openTo_L4 (g_nodes : Int32) (g_joined : Nat → Int32) (k_given : Nat → Int32) (p1 : Int32) (kk_89_1 : Int32 → Option (Int32)) : Nat → Int32 → Int32 → Option (Int32)
  | 0, _, _ => none
  | n + 1, v2_3, v3_4 => (if g_nodes ≤ v3_4 then (kk_89_1 v2_3) else rd 256 k_given (f_X11_cell p1 v3_4) (fun y_8 => (jn (fun (z_9 : Int32) => (if z_9 = 0 then (f_X9_openTo_L4 g_nodes g_joined k_given p1 kk_89_1 n v2_3 (v3_4 + 1)) else rd 16 g_joined p1 (fun y_12 => (if (f_X11_has y_12 v3_4) = 0 then (f_X9_openTo_L4 g_nodes g_joined k_given p1 kk_89_1 n v2_3 (v3_4 + 1)) else (f_X9_openTo_L4 g_nodes g_joined k_given p1 kk_89_1 n (v2_3 ||| ((1 : Int32) <<< (v3_4 &&& 31))) (v3_4 + 1)))))) (fun jj_54_9 => (if y_8 = (-1) then (jj_54_9 0) else rd 256 k_given (f_X11_cell v3_4 p1) (fun y_19 => (if y_19 = (-1) then (jj_54_9 0) else (jj_54_9 1))))))))
def f_X9_openTo (F : Nat) (p1 : Int32) (g_nodes : Int32) (g_joined : Nat → Int32) (k_given : Nat → Int32) : Option (Int32) :=
  (jn (fun (v2_1 : Int32) => some v2_1) (fun kk_89_1 => (f_X9_openTo_L4 g_nodes g_joined k_given p1 kk_89_1 F 0 0)))
set_option maxHeartbeats 4000000 in
set_option maxRecDepth 100000 in
theorem c_X9_openTo (l : Launch) (E : Ev) (F : Nat) (g_nodes : Int32) (g_made : Int32) (g_living : Int32) (g_age : Int32) (a_g_oneEnd : Nat) (a_g_otherEnd : Nat) (a_g_weights : Nat) (a_g_alive : Nat) (g_joined : Nat → Int32) (a_g_joined : Nat) (a_g : Nat) (k_age : Int32) (k_given : Nat → Int32) (a_k_given : Nat) (a_k : Nat) (a_t_arcBetween : Nat) (a_t_open : Nat) (a_t_sooner : Nat) (a_t_wanted : Nat) (t_total : Int32) (t_first : Int64) (t_graphAge : Int32) (t_ranksAge : Int32) (a_t : Nat) (p1 : Int32) (ro : Int32) (hf : f_X9_openTo F p1 g_nodes g_joined k_given = some ro) :
    CtI l yX9_openTo wsX9_openTo (Rm 1) E [.ref a_t, .int p1] [oC a_t 9 [.ref a_g, .ref a_k, .ref a_t_arcBetween, .ref a_t_open, .ref a_t_sooner, .ref a_t_wanted, .int t_total, .long t_first, .int t_graphAge, .int t_ranksAge], oC a_g 2 [.int g_nodes, .int g_made, .int g_living, .int g_age, .ref a_g_oneEnd, .ref a_g_otherEnd, .ref a_g_weights, .ref a_g_alive, .ref a_g_joined], aI E a_g_joined 16 g_joined, oC a_k 6 [.int k_age, .ref a_k_given], aI E a_k_given 256 k_given] ro [oC a_t 9 [.ref a_g, .ref a_k, .ref a_t_arcBetween, .ref a_t_open, .ref a_t_sooner, .ref a_t_wanted, .int t_total, .long t_first, .int t_graphAge, .int t_ranksAge], oC a_g 2 [.int g_nodes, .int g_made, .int g_living, .int g_age, .ref a_g_oneEnd, .ref a_g_otherEnd, .ref a_g_weights, .ref a_g_alive, .ref a_g_joined], aI E a_g_joined 16 g_joined, oC a_k 6 [.int k_age, .ref a_k_given], aI E a_k_given 256 k_given] := by
  refine ofI (cc := cX9_openTo) (maxL := 5) (own := RX9) rfl rfl (by decide) rfl rfl ?_
  intro p e s m below meth c A ls Q S hnm hN hw hA hl0 hE
  have hl : lv_has ls 5 [(0, .ref a_t), (1, .int p1)] := hl0 _ (lv_entry [.ref a_t, .int p1] (n := 5) (Nat.le_of_ble_eq_true rfl))
  have iX2 : ∀ w ∈ wsX20, w ∈ wsX9_openTo := by decide +kernel
  have iX6 : ∀ w ∈ wsX60, w ∈ wsX9_openTo := by decide +kernel
  have iX9 : ∀ w ∈ wsX90, w ∈ wsX9_openTo := by decide +kernel
  have k32 := S.2.2.2.2 (.fieldLink RX9 32 "PairMatching$Stables" "graph" "LPairMatching$Graph;") (by decide +kernel)
  have k36 := S.2.2.2.2 (.fieldLink RX9 36 "PairMatching$Stables" "ranks" "LPairMatching$Ranks;") (by decide +kernel)
  have kIX11 := S.2.2.2.2 (.initialized RX11) (by decide +kernel)
  have kSX11_cell := S.2.2.2.2 (.static yX11_cell) (by decide +kernel)
  have kSX11_has := S.2.2.2.2 (.static yX11_has) (by decide +kernel)
  have w106 : Cond.fieldLinkNest RX9 106 "PairMatching$Ranks" "given" "[I" "PairMatching" ∈ nestW := List.mem_of_getElem? (i := 38) rfl
  have w109 : Cond.fieldLinkNest RX9 109 "PairMatching$Graph" "joined" "[I" "PairMatching" ∈ nestW := List.mem_of_getElem? (i := 34) rfl
  have w112 : Cond.methodLinkNest RX9 112 yX11_has "PairMatching" ∈ nestW := List.mem_of_getElem? (i := 94) rfl
  have w51 : Cond.fieldLinkNest RX9 51 "PairMatching$Graph" "nodes" "I" "PairMatching" ∈ nestW := List.mem_of_getElem? (i := 2) rfl
  have w92 : Cond.methodLinkNest RX9 92 yX11_cell "PairMatching" ∈ nestW := List.mem_of_getElem? (i := 92) rfl
  unfold f_X9_openTo at hf
  refine lv_iconst (v := 0) S.1 S.2.1 dX9_openTo_0 (by decide) ?_
  refine lv_istore_n (lv' := [(2, .int 0), (0, .ref a_t), (1, .int p1)]) S.1 S.2.1 dX9_openTo_1 rfl hl (by decide) rfl (fun ls hl => ?_)
  refine lv_iconst (v := 0) S.1 S.2.1 dX9_openTo_2 (by decide) ?_
  refine lv_istore_n (lv' := [(3, .int 0), (2, .int 0), (0, .ref a_t), (1, .int p1)]) S.1 S.2.1 dX9_openTo_3 rfl hl (by decide) rfl (fun ls hl => ?_)
  obtain ⟨kk_89_1, ekk_89_1, hf⟩ := jn_s hf
  have hJ_kk_89_1 : ∀ (v2_1 : Int32) (H : Heap) (locs : List Loc) (ls : Array Slot), Wo E A s [oC a_t 9 [.ref a_g, .ref a_k, .ref a_t_arcBetween, .ref a_t_open, .ref a_t_sooner, .ref a_t_wanted, .int t_total, .long t_first, .int t_graphAge, .int t_ranksAge], oC a_g 2 [.int g_nodes, .int g_made, .int g_living, .int g_age, .ref a_g_oneEnd, .ref a_g_otherEnd, .ref a_g_weights, .ref a_g_alive, .ref a_g_joined], aI E a_g_joined 16 g_joined, oC a_k 6 [.int k_age, .ref a_k_given], aI E a_k_given 256 k_given] H locs → lv_has ls 5 [(2, .int v2_1)] → kk_89_1 v2_1 = some ro → W p l e (Rm 1) s m (([.ref a_t, .int p1] : List Value).toArray) below meth c H locs 0 0 Q (F0 m 89 ls []) := by
    intro v2_1 H locs ls hw hl hf
    rw [ekk_89_1] at hf
    refine lv_iload_n S.1 S.2.1 dX9_openTo_89 rfl (lv_at hl 0 rfl) ?_
    cases hf
    exact hE _ _ _ _ hw dX9_openTo_90
  have hL_4_20 : ∀ (n : Nat) (v2_3 : Int32) (v3_4 : Int32) (H : Heap) (locs : List Loc) (ls : Array Slot), Wo E A s [oC a_t 9 [.ref a_g, .ref a_k, .ref a_t_arcBetween, .ref a_t_open, .ref a_t_sooner, .ref a_t_wanted, .int t_total, .long t_first, .int t_graphAge, .int t_ranksAge], oC a_g 2 [.int g_nodes, .int g_made, .int g_living, .int g_age, .ref a_g_oneEnd, .ref a_g_otherEnd, .ref a_g_weights, .ref a_g_alive, .ref a_g_joined], aI E a_g_joined 16 g_joined, oC a_k 6 [.int k_age, .ref a_k_given], aI E a_k_given 256 k_given] H locs → lv_has ls 5 [(0, .ref a_t), (1, .int p1), (2, .int v2_3), (3, .int v3_4)] → f_X9_openTo_L4 g_nodes g_joined k_given p1 kk_89_1 n v2_3 v3_4 = some ro → W p l e (Rm 1) s m (([.ref a_t, .int p1] : List Value).toArray) below meth c H locs 0 0 Q (F0 m 4 ls []) := by
    intro n
    induction n with
    | zero => intro v2_3 v3_4 H locs ls hw hl hf; unfold f_X9_openTo_L4 at hf; cases hf
    | succ n ih =>
      intro v2_3 v3_4 H locs ls hw hl hf
      unfold f_X9_openTo_L4 at hf
      refine lv_iload_n S.1 S.2.1 dX9_openTo_4 rfl (lv_at hl 3 rfl) ?_
      refine lv_aload_n S.1 S.2.1 dX9_openTo_5 rfl (lv_at hl 0 rfl) ?_
      refine g_get S hN hw (C := RX9) (T := TX9) (N := 10) (ci := 9) (v := .ref a_g) 0 0 iX9 k32 dX9_openTo_6 rfl rfl (by decide) rfl ?_
      refine g_getN S hN hw (C := RX2) (T := TX2) (N := 9) (ci := 2) (v := .int g_nodes) 1 0 iX2 w51 dX9_openTo_9 rfl rfl (by decide) rfl ?_
      refine lv_icmp_ge (tgt := 89) S.1 S.2.1 dX9_openTo_12 (by decide) (fun h_5 => ?_) (fun h_5 => ?_)
      · replace hf := if_t h_5 hf
        exact hJ_kk_89_1 v2_3 _ _ _ hw (lv_sub hl [2] rfl) hf
      · replace hf := if_f h_5 hf
        refine lv_aload_n S.1 S.2.1 dX9_openTo_15 rfl (lv_at hl 0 rfl) ?_
        refine g_get S hN hw (C := RX9) (T := TX9) (N := 10) (ci := 9) (v := .ref a_k) 0 1 iX9 k36 dX9_openTo_16 rfl rfl (by decide) rfl ?_
        refine g_getN S hN hw (C := RX6) (T := TX6) (N := 2) (ci := 6) (v := .ref a_k_given) 3 1 iX6 w106 dX9_openTo_19 rfl rfl (by decide) rfl ?_
        refine lv_iload_n S.1 S.2.1 dX9_openTo_22 rfl (lv_at hl 1 rfl) ?_
        refine lv_iload_n S.1 S.2.1 dX9_openTo_23 rfl (lv_at hl 3 rfl) ?_
        refine g_calli (r := (f_X11_cell p1 v3_4)) (wc := []) (wr := [oC a_t 9 [.ref a_g, .ref a_k, .ref a_t_arcBetween, .ref a_t_open, .ref a_t_sooner, .ref a_t_wanted, .int t_total, .long t_first, .int t_graphAge, .int t_ranksAge], oC a_g 2 [.int g_nodes, .int g_made, .int g_living, .int g_age, .ref a_g_oneEnd, .ref a_g_otherEnd, .ref a_g_weights, .ref a_g_alive, .ref a_g_joined], aI E a_g_joined 16 g_joined, oC a_k 6 [.int k_age, .ref a_k_given], aI E a_k_given 256 k_given]) (w1 := []) (va_runSN (As := [.int p1, .int v3_4]) (rest := [.ref a_k_given]) S (c_X11_cell l E p1 v3_4 (f_X11_cell p1 v3_4) rfl _) ⟨(va_cnB 2 S.2.2.2.2 gX9_openTo_X11_cell_n92 rfl rfl rfl (hN.2 _ w92) kIX11 (by decide +kernel) (rm_le (by omega) (by decide))), kSX11_cell, trivial⟩ (preS hN hw [] rfl rfl) rfl rfl hl.1 rfl (lv_room (Nat.le_of_ble_eq_true rfl)) dX9_openTo_24 ⟨Nat.le_refl _, Nat.le_refl _⟩) hw hA [] [0, 1, 2, 3, 4] rfl rfl rfl (by decide) (fun H locs hw => ?_)
        have hw : Wo E A s [oC a_t 9 [.ref a_g, .ref a_k, .ref a_t_arcBetween, .ref a_t_open, .ref a_t_sooner, .ref a_t_wanted, .int t_total, .long t_first, .int t_graphAge, .int t_ranksAge], oC a_g 2 [.int g_nodes, .int g_made, .int g_living, .int g_age, .ref a_g_oneEnd, .ref a_g_otherEnd, .ref a_g_weights, .ref a_g_alive, .ref a_g_joined], aI E a_g_joined 16 g_joined, oC a_k 6 [.int k_age, .ref a_k_given], aI E a_k_given 256 k_given] H _ := hw
        obtain ⟨hi_7, hf⟩ := rd_s hf
        refine g_iald (n := 256) (f := k_given) S hN hw 4 hi_7 dX9_openTo_27 rfl ?_
        generalize k_given ((f_X11_cell p1 v3_4) : Int32).toNatClampNeg = y_8 at hf ⊢
        refine lv_iconst (v := (-1)) S.1 S.2.1 dX9_openTo_28 (by decide) ?_
        obtain ⟨jj_54_9, ejj_54_9, hf⟩ := jn_s hf
        have hJ_jj_54_9 : ∀ (z_9 : Int32) (H : Heap) (locs : List Loc) (ls : Array Slot), Wo E A s [oC a_t 9 [.ref a_g, .ref a_k, .ref a_t_arcBetween, .ref a_t_open, .ref a_t_sooner, .ref a_t_wanted, .int t_total, .long t_first, .int t_graphAge, .int t_ranksAge], oC a_g 2 [.int g_nodes, .int g_made, .int g_living, .int g_age, .ref a_g_oneEnd, .ref a_g_otherEnd, .ref a_g_weights, .ref a_g_alive, .ref a_g_joined], aI E a_g_joined 16 g_joined, oC a_k 6 [.int k_age, .ref a_k_given], aI E a_k_given 256 k_given] H locs → lv_has ls 5 [(0, .ref a_t), (1, .int p1), (2, .int v2_3), (3, .int v3_4)] → jj_54_9 z_9 = some ro → W p l e (Rm 1) s m (([.ref a_t, .int p1] : List Value).toArray) below meth c H locs 0 0 Q (F0 m 54 ls [.int z_9]) := by
          intro z_9 H locs ls hw hl hf
          rw [ejj_54_9] at hf
          refine lv_istore (lv' := [(4, .int z_9), (0, .ref a_t), (1, .int p1), (2, .int v2_3), (3, .int v3_4)]) S.1 S.2.1 dX9_openTo_54 hl (by decide) rfl (fun ls hl => ?_)
          refine lv_iload S.1 S.2.1 dX9_openTo_56 (lv_at hl 0 rfl) ?_
          refine lv_if_eq (tgt := 83) S.1 S.2.1 dX9_openTo_58 (by decide) (fun h_11 => ?_) (fun h_11 => ?_)
          · replace hf := if_t h_11 hf
            refine lv_iinc (v := (v3_4 + 1)) (lv' := [(3, .int (v3_4 + 1)), (4, .int z_9), (0, .ref a_t), (1, .int p1), (2, .int v2_3)]) S.1 S.2.1 dX9_openTo_83 hl (k := 4) rfl rfl (by decide) rfl (fun ls hl => ?_)
            refine lv_goto (tgt := 4) S.1 S.2.1 dX9_openTo_86 (by decide) ?_
            exact ih v2_3 (v3_4 + 1) _ _ _ hw (lv_sub hl [2, 3, 4, 0] rfl) hf
          · replace hf := if_f h_11 hf
            refine lv_aload_n S.1 S.2.1 dX9_openTo_61 rfl (lv_at hl 1 rfl) ?_
            refine g_get S hN hw (C := RX9) (T := TX9) (N := 10) (ci := 9) (v := .ref a_g) 0 0 iX9 k32 dX9_openTo_62 rfl rfl (by decide) rfl ?_
            refine g_getN S hN hw (C := RX2) (T := TX2) (N := 9) (ci := 2) (v := .ref a_g_joined) 1 8 iX2 w109 dX9_openTo_65 rfl rfl (by decide) rfl ?_
            refine lv_iload_n S.1 S.2.1 dX9_openTo_68 rfl (lv_at hl 2 rfl) ?_
            obtain ⟨hi_11, hf⟩ := rd_s hf
            refine g_iald (n := 16) (f := g_joined) S hN hw 2 hi_11 dX9_openTo_69 rfl ?_
            generalize g_joined (p1 : Int32).toNatClampNeg = y_12 at hf ⊢
            refine lv_iload_n S.1 S.2.1 dX9_openTo_70 rfl (lv_at hl 4 rfl) ?_
            refine g_calli (r := (f_X11_has y_12 v3_4)) (wc := []) (wr := [oC a_t 9 [.ref a_g, .ref a_k, .ref a_t_arcBetween, .ref a_t_open, .ref a_t_sooner, .ref a_t_wanted, .int t_total, .long t_first, .int t_graphAge, .int t_ranksAge], oC a_g 2 [.int g_nodes, .int g_made, .int g_living, .int g_age, .ref a_g_oneEnd, .ref a_g_otherEnd, .ref a_g_weights, .ref a_g_alive, .ref a_g_joined], aI E a_g_joined 16 g_joined, oC a_k 6 [.int k_age, .ref a_k_given], aI E a_k_given 256 k_given]) (w1 := []) (va_runSN (As := [.int y_12, .int v3_4]) (rest := []) S (c_X11_has l E y_12 v3_4 (f_X11_has y_12 v3_4) rfl _) ⟨(va_cnB 2 S.2.2.2.2 gX9_openTo_X11_has_n112 rfl rfl rfl (hN.2 _ w112) kIX11 (by decide +kernel) (rm_le (by omega) (by decide))), kSX11_has, trivial⟩ (preS hN hw [] rfl rfl) rfl rfl hl.1 rfl (lv_room (Nat.le_of_ble_eq_true rfl)) dX9_openTo_71 ⟨Nat.le_refl _, Nat.le_refl _⟩) hw hA [] [0, 1, 2, 3, 4] rfl rfl rfl (by decide) (fun H locs hw => ?_)
            have hw : Wo E A s [oC a_t 9 [.ref a_g, .ref a_k, .ref a_t_arcBetween, .ref a_t_open, .ref a_t_sooner, .ref a_t_wanted, .int t_total, .long t_first, .int t_graphAge, .int t_ranksAge], oC a_g 2 [.int g_nodes, .int g_made, .int g_living, .int g_age, .ref a_g_oneEnd, .ref a_g_otherEnd, .ref a_g_weights, .ref a_g_alive, .ref a_g_joined], aI E a_g_joined 16 g_joined, oC a_k 6 [.int k_age, .ref a_k_given], aI E a_k_given 256 k_given] H _ := hw
            refine lv_if_eq (tgt := 83) S.1 S.2.1 dX9_openTo_74 (by decide) (fun h_15 => ?_) (fun h_15 => ?_)
            · replace hf := if_t h_15 hf
              refine lv_iinc (v := (v3_4 + 1)) (lv' := [(3, .int (v3_4 + 1)), (4, .int z_9), (0, .ref a_t), (1, .int p1), (2, .int v2_3)]) S.1 S.2.1 dX9_openTo_83 hl (k := 4) rfl rfl (by decide) rfl (fun ls hl => ?_)
              refine lv_goto (tgt := 4) S.1 S.2.1 dX9_openTo_86 (by decide) ?_
              exact ih v2_3 (v3_4 + 1) _ _ _ hw (lv_sub hl [2, 3, 4, 0] rfl) hf
            · replace hf := if_f h_15 hf
              refine lv_iload_n S.1 S.2.1 dX9_openTo_77 rfl (lv_at hl 3 rfl) ?_
              refine lv_iconst (v := 1) S.1 S.2.1 dX9_openTo_78 (by decide) ?_
              refine lv_iload_n S.1 S.2.1 dX9_openTo_79 rfl (lv_at hl 4 rfl) ?_
              refine lv_ishl S.1 S.2.1 dX9_openTo_80 ?_
              refine lv_ior S.1 S.2.1 dX9_openTo_81 ?_
              refine lv_istore_n (lv' := [(2, .int (v2_3 ||| ((1 : Int32) <<< (v3_4 &&& 31)))), (4, .int z_9), (0, .ref a_t), (1, .int p1), (3, .int v3_4)]) S.1 S.2.1 dX9_openTo_82 rfl hl (by decide) rfl (fun ls hl => ?_)
              refine lv_iinc (v := (v3_4 + 1)) (lv' := [(3, .int (v3_4 + 1)), (2, .int (v2_3 ||| ((1 : Int32) <<< (v3_4 &&& 31)))), (4, .int z_9), (0, .ref a_t), (1, .int p1)]) S.1 S.2.1 dX9_openTo_83 hl (k := 4) rfl rfl (by decide) rfl (fun ls hl => ?_)
              refine lv_goto (tgt := 4) S.1 S.2.1 dX9_openTo_86 (by decide) ?_
              exact ih (v2_3 ||| ((1 : Int32) <<< (v3_4 &&& 31))) (v3_4 + 1) _ _ _ hw (lv_sub hl [3, 4, 1, 0] rfl) hf
        refine lv_icmp_eq (tgt := 53) S.1 S.2.1 dX9_openTo_29 (by decide) (fun h_16 => ?_) (fun h_16 => ?_)
        · replace hf := if_t h_16 hf
          refine lv_iconst (v := 0) S.1 S.2.1 dX9_openTo_53 (by decide) ?_
          exact hJ_jj_54_9 0 _ _ _ hw hl hf
        · replace hf := if_f h_16 hf
          refine lv_aload_n S.1 S.2.1 dX9_openTo_32 rfl (lv_at hl 0 rfl) ?_
          refine g_get S hN hw (C := RX9) (T := TX9) (N := 10) (ci := 9) (v := .ref a_k) 0 1 iX9 k36 dX9_openTo_33 rfl rfl (by decide) rfl ?_
          refine g_getN S hN hw (C := RX6) (T := TX6) (N := 2) (ci := 6) (v := .ref a_k_given) 3 1 iX6 w106 dX9_openTo_36 rfl rfl (by decide) rfl ?_
          refine lv_iload_n S.1 S.2.1 dX9_openTo_39 rfl (lv_at hl 3 rfl) ?_
          refine lv_iload_n S.1 S.2.1 dX9_openTo_40 rfl (lv_at hl 1 rfl) ?_
          refine g_calli (r := (f_X11_cell v3_4 p1)) (wc := []) (wr := [oC a_t 9 [.ref a_g, .ref a_k, .ref a_t_arcBetween, .ref a_t_open, .ref a_t_sooner, .ref a_t_wanted, .int t_total, .long t_first, .int t_graphAge, .int t_ranksAge], oC a_g 2 [.int g_nodes, .int g_made, .int g_living, .int g_age, .ref a_g_oneEnd, .ref a_g_otherEnd, .ref a_g_weights, .ref a_g_alive, .ref a_g_joined], aI E a_g_joined 16 g_joined, oC a_k 6 [.int k_age, .ref a_k_given], aI E a_k_given 256 k_given]) (w1 := []) (va_runSN (As := [.int v3_4, .int p1]) (rest := [.ref a_k_given]) S (c_X11_cell l E v3_4 p1 (f_X11_cell v3_4 p1) rfl _) ⟨(va_cnB 2 S.2.2.2.2 gX9_openTo_X11_cell_n92 rfl rfl rfl (hN.2 _ w92) kIX11 (by decide +kernel) (rm_le (by omega) (by decide))), kSX11_cell, trivial⟩ (preS hN hw [] rfl rfl) rfl rfl hl.1 rfl (lv_room (Nat.le_of_ble_eq_true rfl)) dX9_openTo_41 ⟨Nat.le_refl _, Nat.le_refl _⟩) hw hA [] [0, 1, 2, 3, 4] rfl rfl rfl (by decide) (fun H locs hw => ?_)
          have hw : Wo E A s [oC a_t 9 [.ref a_g, .ref a_k, .ref a_t_arcBetween, .ref a_t_open, .ref a_t_sooner, .ref a_t_wanted, .int t_total, .long t_first, .int t_graphAge, .int t_ranksAge], oC a_g 2 [.int g_nodes, .int g_made, .int g_living, .int g_age, .ref a_g_oneEnd, .ref a_g_otherEnd, .ref a_g_weights, .ref a_g_alive, .ref a_g_joined], aI E a_g_joined 16 g_joined, oC a_k 6 [.int k_age, .ref a_k_given], aI E a_k_given 256 k_given] H _ := hw
          obtain ⟨hi_18, hf⟩ := rd_s hf
          refine g_iald (n := 256) (f := k_given) S hN hw 4 hi_18 dX9_openTo_44 rfl ?_
          generalize k_given ((f_X11_cell v3_4 p1) : Int32).toNatClampNeg = y_19 at hf ⊢
          refine lv_iconst (v := (-1)) S.1 S.2.1 dX9_openTo_45 (by decide) ?_
          refine lv_icmp_eq (tgt := 53) S.1 S.2.1 dX9_openTo_46 (by decide) (fun h_20 => ?_) (fun h_20 => ?_)
          · replace hf := if_t h_20 hf
            refine lv_iconst (v := 0) S.1 S.2.1 dX9_openTo_53 (by decide) ?_
            exact hJ_jj_54_9 0 _ _ _ hw hl hf
          · replace hf := if_f h_20 hf
            refine lv_iconst (v := 1) S.1 S.2.1 dX9_openTo_49 (by decide) ?_
            refine lv_goto (tgt := 54) S.1 S.2.1 dX9_openTo_50 (by decide) ?_
            exact hJ_jj_54_9 1 _ _ _ hw hl hf
  exact hL_4_20 F 0 0 _ _ _ hw (lv_sub hl [2, 3, 1, 0] rfl) hf
