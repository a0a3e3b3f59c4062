def f_X4_findReached_L17 (c_gain : Nat → Int32) (v1_3 : Int32) (kk_59_7 : (Nat → Int32) → Option ((Nat → Int32))) : Nat → Int32 → (Nat → Int32) → Option ((Nat → Int32))
  | 0, _, _ => none
  | n + 1, v2_9, j_reached_10 => (if 16 ≤ v2_9 then (kk_59_7 j_reached_10) else rd 256 c_gain (f_X11_cell v1_3 v2_9) (fun y_14 => (if y_14 = (-1000000000) then (f_X4_findReached_L17 c_gain v1_3 kk_59_7 n (v2_9 + 1) j_reached_10) else rd 16 j_reached_10 v1_3 (fun y_16 => wr 16 j_reached_10 v1_3 (y_16 ||| ((1 : Int32) <<< (v2_9 &&& 31))) (fun j_reached_17 => (f_X4_findReached_L17 c_gain v1_3 kk_59_7 n (v2_9 + 1) j_reached_17))))))
def f_X4_findReached_L2 (F : Nat) (c_gain : Nat → Int32) (kk_65_1 : (Nat → Int32) → Option ((Nat → Int32))) : Nat → Int32 → (Nat → Int32) → Option ((Nat → Int32))
  | 0, _, _ => none
  | n + 1, v1_3, j_reached_4 => (if 16 ≤ v1_3 then (kk_65_1 j_reached_4) else wr 16 j_reached_4 v1_3 0 (fun j_reached_6 => (jn (fun (j_reached_7 : Nat → Int32) => (f_X4_findReached_L2 F c_gain kk_65_1 n (v1_3 + 1) j_reached_7)) (fun kk_59_7 => (f_X4_findReached_L17 c_gain v1_3 kk_59_7 F 0 j_reached_6)))))
def f_X4_findReached (F : Nat) (c_gain : Nat → Int32) (j_reached : Nat → Int32) : Option ((Nat → Int32)) :=
  (jn (fun (j_reached_1 : Nat → Int32) => some j_reached_1) (fun kk_65_1 => (f_X4_findReached_L2 F c_gain kk_65_1 F 0 j_reached)))
set_option maxHeartbeats 4000000 in
set_option maxRecDepth 100000 in
theorem c_X4_findReached (l : Launch) (E : Ev) (F : Nat) (a_g : Nat) (a_r : Nat) (c_gain : Nat → Int32) (a_c_gain : Nat) (a_c_mark : Nat) (a_c_bestGain : Nat) (a_c_bestMark : Nat) (a_c : Nat) (j_reached : Nat → Int32) (a_j_reached : Nat) (j_told : Int64) (j_isTold : Int32) (j_pathsKnown : Int32) (j_age : Int32) (a_j : Nat) (u_j_reached : Nat → Int32) (hf : f_X4_findReached F c_gain j_reached = some u_j_reached) :
    CtV l yX4_findReached wsX4_findReached (Rm 1) E [.ref a_j] [oC a_j 4 [.ref a_g, .ref a_c, .ref a_j_reached, .long j_told, .int j_isTold, .int j_pathsKnown, .int j_age], oC a_c 0 [.ref a_r, .ref a_c_gain, .ref a_c_mark, .ref a_c_bestGain, .ref a_c_bestMark], aI E a_c_gain 256 c_gain, aI E a_j_reached 16 j_reached] [oC a_j 4 [.ref a_g, .ref a_c, .ref a_j_reached, .long j_told, .int j_isTold, .int j_pathsKnown, .int j_age], oC a_c 0 [.ref a_r, .ref a_c_gain, .ref a_c_mark, .ref a_c_bestGain, .ref a_c_bestMark], aI E a_c_gain 256 c_gain, aI E a_j_reached 16 u_j_reached] := by
  refine ofV (cc := cX4_findReached) (maxL := 3) (own := RX4) rfl rfl (by decide) rfl rfl ?_
  intro p e s m below meth c A ls Q S hnm hN hw hA hl0 hE
  have hl : lv_has ls 3 [(0, .ref a_j)] := hl0 _ (lv_entry [.ref a_j] (n := 3) (Nat.le_of_ble_eq_true rfl))
  have iX0 : ∀ w ∈ wsX00, w ∈ wsX4_findReached := by decide +kernel
  have iX4 : ∀ w ∈ wsX40, w ∈ wsX4_findReached := by decide +kernel
  have k106 := S.2.2.2.2 (.constant RX4 106 (-1000000000)) (by decide +kernel)
  have k12 := S.2.2.2.2 (.fieldLink RX4 12 "PairMatching$Joins" "chooser" "LPairMatching$Chooser;") (by decide +kernel)
  have k18 := S.2.2.2.2 (.fieldLink RX4 18 "PairMatching$Joins" "reached" "[I") (by decide +kernel)
  have kIX11 := S.2.2.2.2 (.initialized RX11) (by decide +kernel)
  have kSX11_cell := S.2.2.2.2 (.static yX11_cell) (by decide +kernel)
  have w102 : Cond.methodLinkNest RX4 102 yX11_cell "PairMatching" ∈ nestW := List.mem_of_getElem? (i := 88) rfl
  have w99 : Cond.fieldLinkNest RX4 99 "PairMatching$Chooser" "gain" "[I" "PairMatching" ∈ nestW := List.mem_of_getElem? (i := 56) rfl
  unfold f_X4_findReached at hf
  refine lv_iconst (v := 0) S.1 S.2.1 dX4_findReached_0 (by decide) ?_
  refine lv_istore_n (lv' := [(1, .int 0), (0, .ref a_j)]) S.1 S.2.1 dX4_findReached_1 rfl hl (by decide) rfl (fun ls hl => ?_)
  obtain ⟨kk_65_1, ekk_65_1, hf⟩ := jn_s hf
  have hJ_kk_65_1 : ∀ (j_reached_1 : Nat → Int32) (H : Heap) (locs : List Loc) (ls : Array Slot), Wo E A s [oC a_j 4 [.ref a_g, .ref a_c, .ref a_j_reached, .long j_told, .int j_isTold, .int j_pathsKnown, .int j_age], oC a_c 0 [.ref a_r, .ref a_c_gain, .ref a_c_mark, .ref a_c_bestGain, .ref a_c_bestMark], aI E a_c_gain 256 c_gain, aI E a_j_reached 16 j_reached_1] H locs → lv_has ls 3 [] → kk_65_1 j_reached_1 = some u_j_reached → W p l e (Rm 1) s m (([.ref a_j] : List Value).toArray) below meth c H locs 0 0 Q (F0 m 65 ls []) := by
    intro j_reached_1 H locs ls hw hl hf
    rw [ekk_65_1] at hf
    cases hf
    exact hE _ _ _ _ hw dX4_findReached_65
  have hL_2_18 : ∀ (n : Nat) (v1_3 : Int32) (j_reached_4 : Nat → Int32) (H : Heap) (locs : List Loc) (ls : Array Slot), Wo E A s [oC a_j 4 [.ref a_g, .ref a_c, .ref a_j_reached, .long j_told, .int j_isTold, .int j_pathsKnown, .int j_age], oC a_c 0 [.ref a_r, .ref a_c_gain, .ref a_c_mark, .ref a_c_bestGain, .ref a_c_bestMark], aI E a_c_gain 256 c_gain, aI E a_j_reached 16 j_reached_4] H locs → lv_has ls 3 [(0, .ref a_j), (1, .int v1_3)] → f_X4_findReached_L2 F c_gain kk_65_1 n v1_3 j_reached_4 = some u_j_reached → W p l e (Rm 1) s m (([.ref a_j] : List Value).toArray) below meth c H locs 0 0 Q (F0 m 2 ls []) := by
    intro n
    induction n with
    | zero => intro v1_3 j_reached_4 H locs ls hw hl hf; unfold f_X4_findReached_L2 at hf; cases hf
    | succ n ih =>
      intro v1_3 j_reached_4 H locs ls hw hl hf
      unfold f_X4_findReached_L2 at hf
      refine lv_iload_n S.1 S.2.1 dX4_findReached_2 rfl (lv_at hl 1 rfl) ?_
      refine lv_bipush (v := 16) S.1 S.2.1 dX4_findReached_3 (by decide) ?_
      refine lv_icmp_ge (tgt := 65) S.1 S.2.1 dX4_findReached_5 (by decide) (fun h_5 => ?_) (fun h_5 => ?_)
      · replace hf := if_t h_5 hf
        exact hJ_kk_65_1 j_reached_4 _ _ _ hw (lv_sub hl [] rfl) hf
      · replace hf := if_f h_5 hf
        refine lv_aload_n S.1 S.2.1 dX4_findReached_8 rfl (lv_at hl 0 rfl) ?_
        refine g_get S hN hw (C := RX4) (T := TX4) (N := 7) (ci := 4) (v := .ref a_j_reached) 0 2 iX4 k18 dX4_findReached_9 rfl rfl (by decide) rfl ?_
        refine lv_iload_n S.1 S.2.1 dX4_findReached_12 rfl (lv_at hl 1 rfl) ?_
        refine lv_iconst (v := 0) S.1 S.2.1 dX4_findReached_13 (by decide) ?_
        obtain ⟨hi_5, hf⟩ := wr_s hf
        refine g_iast (n := 16) (f := j_reached_4) (w1 := [oC a_j 4 [.ref a_g, .ref a_c, .ref a_j_reached, .long j_told, .int j_isTold, .int j_pathsKnown, .int j_age], oC a_c 0 [.ref a_r, .ref a_c_gain, .ref a_c_mark, .ref a_c_bestGain, .ref a_c_bestMark], aI E a_c_gain 256 c_gain, aI E a_j_reached 16 (va_up j_reached_4 (v1_3 : Int32).toNatClampNeg 0)]) S hN hw 3 hi_5 dX4_findReached_14 rfl rfl (fun H locs hw => ?_)
        generalize va_up j_reached_4 (v1_3 : Int32).toNatClampNeg 0 = j_reached_6 at hf hw
        refine lv_iconst (v := 0) S.1 S.2.1 dX4_findReached_15 (by decide) ?_
        refine lv_istore_n (lv' := [(2, .int 0), (0, .ref a_j), (1, .int v1_3)]) S.1 S.2.1 dX4_findReached_16 rfl hl (by decide) rfl (fun ls hl => ?_)
        obtain ⟨kk_59_7, ekk_59_7, hf⟩ := jn_s hf
        have hJ_kk_59_7 : ∀ (j_reached_7 : Nat → Int32) (H : Heap) (locs : List Loc) (ls : Array Slot), Wo E A s [oC a_j 4 [.ref a_g, .ref a_c, .ref a_j_reached, .long j_told, .int j_isTold, .int j_pathsKnown, .int j_age], oC a_c 0 [.ref a_r, .ref a_c_gain, .ref a_c_mark, .ref a_c_bestGain, .ref a_c_bestMark], aI E a_c_gain 256 c_gain, aI E a_j_reached 16 j_reached_7] H locs → lv_has ls 3 [(0, .ref a_j), (1, .int v1_3)] → kk_59_7 j_reached_7 = some u_j_reached → W p l e (Rm 1) s m (([.ref a_j] : List Value).toArray) below meth c H locs 0 0 Q (F0 m 59 ls []) := by
          intro j_reached_7 H locs ls hw hl hf
          rw [ekk_59_7] at hf
          refine lv_iinc (v := (v1_3 + 1)) (lv' := [(1, .int (v1_3 + 1)), (0, .ref a_j)]) S.1 S.2.1 dX4_findReached_59 hl (k := 1) rfl rfl (by decide) rfl (fun ls hl => ?_)
          refine lv_goto (tgt := 2) S.1 S.2.1 dX4_findReached_62 (by decide) ?_
          exact ih (v1_3 + 1) j_reached_7 _ _ _ hw (lv_sub hl [1, 0] rfl) hf
        have hL_17_17 : ∀ (n : Nat) (v2_9 : Int32) (j_reached_10 : Nat → Int32) (H : Heap) (locs : List Loc) (ls : Array Slot), Wo E A s [oC a_j 4 [.ref a_g, .ref a_c, .ref a_j_reached, .long j_told, .int j_isTold, .int j_pathsKnown, .int j_age], oC a_c 0 [.ref a_r, .ref a_c_gain, .ref a_c_mark, .ref a_c_bestGain, .ref a_c_bestMark], aI E a_c_gain 256 c_gain, aI E a_j_reached 16 j_reached_10] H locs → lv_has ls 3 [(0, .ref a_j), (1, .int v1_3), (2, .int v2_9)] → f_X4_findReached_L17 c_gain v1_3 kk_59_7 n v2_9 j_reached_10 = some u_j_reached → W p l e (Rm 1) s m (([.ref a_j] : List Value).toArray) below meth c H locs 0 0 Q (F0 m 17 ls []) := by
          intro n
          induction n with
          | zero => intro v2_9 j_reached_10 H locs ls hw hl hf; unfold f_X4_findReached_L17 at hf; cases hf
          | succ n ih =>
            intro v2_9 j_reached_10 H locs ls hw hl hf
            unfold f_X4_findReached_L17 at hf
            refine lv_iload_n S.1 S.2.1 dX4_findReached_17 rfl (lv_at hl 2 rfl) ?_
            refine lv_bipush (v := 16) S.1 S.2.1 dX4_findReached_18 (by decide) ?_
            refine lv_icmp_ge (tgt := 59) S.1 S.2.1 dX4_findReached_20 (by decide) (fun h_11 => ?_) (fun h_11 => ?_)
            · replace hf := if_t h_11 hf
              exact hJ_kk_59_7 j_reached_10 _ _ _ hw (lv_sub hl [0, 1] rfl) hf
            · replace hf := if_f h_11 hf
              refine lv_aload_n S.1 S.2.1 dX4_findReached_23 rfl (lv_at hl 0 rfl) ?_
              refine g_get S hN hw (C := RX4) (T := TX4) (N := 7) (ci := 4) (v := .ref a_c) 0 1 iX4 k12 dX4_findReached_24 rfl rfl (by decide) rfl ?_
              refine g_getN S hN hw (C := RX0) (T := TX0) (N := 5) (ci := 0) (v := .ref a_c_gain) 1 1 iX0 w99 dX4_findReached_27 rfl rfl (by decide) rfl ?_
              refine lv_iload_n S.1 S.2.1 dX4_findReached_30 rfl (lv_at hl 1 rfl) ?_
              refine lv_iload_n S.1 S.2.1 dX4_findReached_31 rfl (lv_at hl 2 rfl) ?_
              refine g_calli (r := (f_X11_cell v1_3 v2_9)) (wc := []) (wr := [oC a_j 4 [.ref a_g, .ref a_c, .ref a_j_reached, .long j_told, .int j_isTold, .int j_pathsKnown, .int j_age], oC a_c 0 [.ref a_r, .ref a_c_gain, .ref a_c_mark, .ref a_c_bestGain, .ref a_c_bestMark], aI E a_c_gain 256 c_gain, aI E a_j_reached 16 j_reached_10]) (w1 := []) (va_runSN (As := [.int v1_3, .int v2_9]) (rest := [.ref a_c_gain]) S (c_X11_cell l E v1_3 v2_9 (f_X11_cell v1_3 v2_9) rfl _) ⟨(va_cnB 2 S.2.2.2.2 gX4_findReached_X11_cell_n102 rfl rfl rfl (hN.2 _ w102) kIX11 (by decide +kernel) (rm_le (by omega) (by decide))), kSX11_cell, trivial⟩ (preS hN hw [] rfl rfl) rfl rfl hl.1 rfl (lv_room (Nat.le_of_ble_eq_true rfl)) dX4_findReached_32 ⟨Nat.le_refl _, Nat.le_refl _⟩) hw hA [] [0, 1, 2, 3] rfl rfl rfl (by decide) (fun H locs hw => ?_)
              have hw : Wo E A s [oC a_j 4 [.ref a_g, .ref a_c, .ref a_j_reached, .long j_told, .int j_isTold, .int j_pathsKnown, .int j_age], oC a_c 0 [.ref a_r, .ref a_c_gain, .ref a_c_mark, .ref a_c_bestGain, .ref a_c_bestMark], aI E a_c_gain 256 c_gain, aI E a_j_reached 16 j_reached_10] H _ := hw
              obtain ⟨hi_13, hf⟩ := rd_s hf
              refine g_iald (n := 256) (f := c_gain) S hN hw 2 hi_13 dX4_findReached_35 rfl ?_
              generalize c_gain ((f_X11_cell v1_3 v2_9) : Int32).toNatClampNeg = y_14 at hf ⊢
              refine lv_ldc (v := (-1000000000)) S.1 S.2.1 S.2.2.2.1 k106 dX4_findReached_36 ?_
              refine lv_icmp_eq (tgt := 53) S.1 S.2.1 dX4_findReached_38 (by decide) (fun h_15 => ?_) (fun h_15 => ?_)
              · replace hf := if_t h_15 hf
                refine lv_iinc (v := (v2_9 + 1)) (lv' := [(2, .int (v2_9 + 1)), (0, .ref a_j), (1, .int v1_3)]) S.1 S.2.1 dX4_findReached_53 hl (k := 2) rfl rfl (by decide) rfl (fun ls hl => ?_)
                refine lv_goto (tgt := 17) S.1 S.2.1 dX4_findReached_56 (by decide) ?_
                exact ih (v2_9 + 1) j_reached_10 _ _ _ hw (lv_sub hl [1, 2, 0] rfl) hf
              · replace hf := if_f h_15 hf
                refine lv_aload_n S.1 S.2.1 dX4_findReached_41 rfl (lv_at hl 0 rfl) ?_
                refine g_get S hN hw (C := RX4) (T := TX4) (N := 7) (ci := 4) (v := .ref a_j_reached) 0 2 iX4 k18 dX4_findReached_42 rfl rfl (by decide) rfl ?_
                refine lv_iload_n S.1 S.2.1 dX4_findReached_45 rfl (lv_at hl 1 rfl) ?_
                refine lv_dup2_11 S.1 S.2.1 dX4_findReached_46 rfl rfl ?_
                obtain ⟨hi_15, hf⟩ := rd_s hf
                refine g_iald (n := 16) (f := j_reached_10) S hN hw 3 hi_15 dX4_findReached_47 rfl ?_
                generalize j_reached_10 (v1_3 : Int32).toNatClampNeg = y_16 at hf ⊢
                refine lv_iconst (v := 1) S.1 S.2.1 dX4_findReached_48 (by decide) ?_
                refine lv_iload_n S.1 S.2.1 dX4_findReached_49 rfl (lv_at hl 2 rfl) ?_
                refine lv_ishl S.1 S.2.1 dX4_findReached_50 ?_
                refine lv_ior S.1 S.2.1 dX4_findReached_51 ?_
                obtain ⟨hi_16, hf⟩ := wr_s hf
                refine g_iast (n := 16) (f := j_reached_10) (w1 := [oC a_j 4 [.ref a_g, .ref a_c, .ref a_j_reached, .long j_told, .int j_isTold, .int j_pathsKnown, .int j_age], oC a_c 0 [.ref a_r, .ref a_c_gain, .ref a_c_mark, .ref a_c_bestGain, .ref a_c_bestMark], aI E a_c_gain 256 c_gain, aI E a_j_reached 16 (va_up j_reached_10 (v1_3 : Int32).toNatClampNeg (y_16 ||| ((1 : Int32) <<< (v2_9 &&& 31))))]) S hN hw 3 hi_16 dX4_findReached_52 rfl rfl (fun H locs hw => ?_)
                generalize va_up j_reached_10 (v1_3 : Int32).toNatClampNeg (y_16 ||| ((1 : Int32) <<< (v2_9 &&& 31))) = j_reached_17 at hf hw
                refine lv_iinc (v := (v2_9 + 1)) (lv' := [(2, .int (v2_9 + 1)), (0, .ref a_j), (1, .int v1_3)]) S.1 S.2.1 dX4_findReached_53 hl (k := 2) rfl rfl (by decide) rfl (fun ls hl => ?_)
                refine lv_goto (tgt := 17) S.1 S.2.1 dX4_findReached_56 (by decide) ?_
                exact ih (v2_9 + 1) j_reached_17 _ _ _ hw (lv_sub hl [1, 2, 0] rfl) hf
        exact hL_17_17 F 0 j_reached_6 _ _ _ hw (lv_sub hl [1, 2, 0] rfl) hf
  exact hL_2_18 F 0 j_reached _ _ _ hw (lv_sub hl [1, 0] rfl) hf
def f_X4_findPaths_L113 (F : Nat) (g_nodes : Int32) (v1_12 : Int32) (kk_154_17 : (Nat → Int32) → (Nat → Int64) → Option (Int32 × (Nat → Int32) × (Nat → Int64) × (Nat → Int32))) : Nat → Int32 → (Nat → Int32) → (Nat → Int64) → Option (Int32 × (Nat → Int32) × (Nat → Int64) × (Nat → Int32))
  | 0, _, _, _ => none
  | n + 1, v2_19, c_gain_20, c_mark_21 => (if g_nodes ≤ v2_19 then (kk_154_17 c_gain_20 c_mark_21) else rd 256 c_gain_20 (f_X11_cell v2_19 v1_12) (fun y_25 => (if y_25 = (-1000000000) then (f_X4_findPaths_L113 F g_nodes v1_12 kk_154_17 n (v2_19 + 1) c_gain_20 c_mark_21) else bd2 (f_X4_lengthen F v2_19 v1_12 g_nodes c_gain_20 c_mark_21) (fun c_gain_27 c_mark_28 => (f_X4_findPaths_L113 F g_nodes v1_12 kk_154_17 n (v2_19 + 1) c_gain_27 c_mark_28)))))
def f_X4_findPaths_L100 (F : Nat) (g_nodes : Int32) (kk_160_10 : (Nat → Int32) → (Nat → Int64) → Option (Int32 × (Nat → Int32) × (Nat → Int64) × (Nat → Int32))) : Nat → Int32 → (Nat → Int32) → (Nat → Int64) → Option (Int32 × (Nat → Int32) × (Nat → Int64) × (Nat → Int32))
  | 0, _, _, _ => none
  | n + 1, v1_12, c_gain_13, c_mark_14 => (if g_nodes ≤ v1_12 then (kk_160_10 c_gain_13 c_mark_14) else (jn (fun (c_gain_16 : Nat → Int32) (c_mark_17 : Nat → Int64) => (f_X4_findPaths_L100 F g_nodes kk_160_10 n (v1_12 + 1) c_gain_16 c_mark_17)) (fun kk_154_17 => (f_X4_findPaths_L113 F g_nodes v1_12 kk_154_17 F 0 c_gain_13 c_mark_14))))
def f_X4_findPaths_L22 (g_made : Int32) (g_oneEnd : Nat → Int32) (g_otherEnd : Nat → Int32) (g_weights : Nat → Int32) (g_alive : Nat → Int32) (kk_98_31 : (Nat → Int32) → (Nat → Int64) → Option (Int32 × (Nat → Int32) × (Nat → Int64) × (Nat → Int32))) : Nat → Int32 → (Nat → Int32) → (Nat → Int64) → Option (Int32 × (Nat → Int32) × (Nat → Int64) × (Nat → Int32))
  | 0, _, _, _ => none
  | n + 1, v1_33, c_gain_34, c_mark_35 => (if g_made ≤ v1_33 then (kk_98_31 c_gain_34 c_mark_35) else rd 60 g_alive v1_33 (fun y_37 => (if y_37 = 0 then (f_X4_findPaths_L22 g_made g_oneEnd g_otherEnd g_weights g_alive kk_98_31 n (v1_33 + 1) c_gain_34 c_mark_35) else rd 60 g_weights v1_33 (fun y_39 => rd 60 g_oneEnd v1_33 (fun y_40 => rd 60 g_otherEnd v1_33 (fun y_41 => bd2 (f_X0_offer y_40 y_41 (-((y_39 * 1024) + 1)) (f_X11_markOf v1_33) c_gain_34 c_mark_35) (fun c_gain_44 c_mark_45 => (f_X4_findPaths_L22 g_made g_oneEnd g_otherEnd g_weights g_alive kk_98_31 n (v1_33 + 1) c_gain_44 c_mark_45))))))))
def f_X4_findPaths (F : Nat) (g_nodes : Int32) (g_made : Int32) (g_oneEnd : Nat → Int32) (g_otherEnd : Nat → Int32) (g_weights : Nat → Int32) (g_alive : Nat → Int32) (c_gain : Nat → Int32) (c_mark : Nat → Int64) (j_reached : Nat → Int32) (j_pathsKnown : Int32) : Option (Int32 × (Nat → Int32) × (Nat → Int64) × (Nat → Int32)) :=
  (if j_pathsKnown = 0 then bd2 (f_X0_forgetOffers F c_gain c_mark) (fun c_gain_2 c_mark_3 => (jn (fun (c_gain_5 : Nat → Int32) (c_mark_6 : Nat → Int64) => (jn (fun (c_gain_7 : Nat → Int32) (c_mark_8 : Nat → Int64) => (f_X4_findReached F c_gain_7 j_reached).bind (fun j_reached_9 => some (1, c_gain_7, c_mark_8, j_reached_9))) (fun kk_160_10 => (f_X4_findPaths_L100 F g_nodes kk_160_10 F 0 c_gain_5 c_mark_6)))) (fun kk_98_31 => (f_X4_findPaths_L22 g_made g_oneEnd g_otherEnd g_weights g_alive kk_98_31 F 0 c_gain_2 c_mark_3)))) else some (j_pathsKnown, c_gain, c_mark, j_reached))
set_option maxHeartbeats 4000000 in
set_option maxRecDepth 100000 in
theorem c_X4_findPaths (l : Launch) (E : Ev) (F : Nat) (g_nodes : Int32) (g_made : Int32) (g_living : Int32) (g_age : Int32) (g_oneEnd : Nat → Int32) (a_g_oneEnd : Nat) (g_otherEnd : Nat → Int32) (a_g_otherEnd : Nat) (g_weights : Nat → Int32) (a_g_weights : Nat) (g_alive : Nat → Int32) (a_g_alive : Nat) (a_g_joined : Nat) (a_g : Nat) (a_r : Nat) (c_gain : Nat → Int32) (a_c_gain : Nat) (c_mark : Nat → Int64) (a_c_mark : Nat) (a_c_bestGain : Nat) (a_c_bestMark : Nat) (a_c : Nat) (j_reached : Nat → Int32) (a_j_reached : Nat) (j_told : Int64) (j_isTold : Int32) (j_pathsKnown : Int32) (j_age : Int32) (a_j : Nat) (u_j_pathsKnown : Int32) (u_c_gain : Nat → Int32) (u_c_mark : Nat → Int64) (u_j_reached : Nat → Int32) (hf : f_X4_findPaths F g_nodes g_made g_oneEnd g_otherEnd g_weights g_alive c_gain c_mark j_reached j_pathsKnown = some (u_j_pathsKnown, u_c_gain, u_c_mark, u_j_reached)) :
    CtV l yX4_findPaths wsX4_findPaths (Rm 2) E [.ref a_j] [oC a_j 4 [.ref a_g, .ref a_c, .ref a_j_reached, .long j_told, .int j_isTold, .int j_pathsKnown, .int j_age], oC a_g 2 [.int g_nodes, .int g_made, .int g_living, .int g_age, .ref a_g_oneEnd, .ref a_g_otherEnd, .ref a_g_weights, .ref a_g_alive, .ref a_g_joined], aI E a_g_oneEnd 60 g_oneEnd, aI E a_g_otherEnd 60 g_otherEnd, aI E a_g_weights 60 g_weights, aZ E a_g_alive 60 g_alive, oC a_c 0 [.ref a_r, .ref a_c_gain, .ref a_c_mark, .ref a_c_bestGain, .ref a_c_bestMark], aI E a_c_gain 256 c_gain, aJ E a_c_mark 256 c_mark, aI E a_j_reached 16 j_reached] [oC a_j 4 [.ref a_g, .ref a_c, .ref a_j_reached, .long j_told, .int j_isTold, .int u_j_pathsKnown, .int j_age], oC a_g 2 [.int g_nodes, .int g_made, .int g_living, .int g_age, .ref a_g_oneEnd, .ref a_g_otherEnd, .ref a_g_weights, .ref a_g_alive, .ref a_g_joined], aI E a_g_oneEnd 60 g_oneEnd, aI E a_g_otherEnd 60 g_otherEnd, aI E a_g_weights 60 g_weights, aZ E a_g_alive 60 g_alive, oC a_c 0 [.ref a_r, .ref a_c_gain, .ref a_c_mark, .ref a_c_bestGain, .ref a_c_bestMark], aI E a_c_gain 256 u_c_gain, aJ E a_c_mark 256 u_c_mark, aI E a_j_reached 16 u_j_reached] := by
  refine ofV (cc := cX4_findPaths) (maxL := 3) (own := RX4) rfl rfl (by decide) rfl rfl ?_
  intro p e s m below meth c A ls Q S hnm hN hw hA hl0 hE
  have hl : lv_has ls 3 [(0, .ref a_j)] := hl0 _ (lv_entry [.ref a_j] (n := 3) (Nat.le_of_ble_eq_true rfl))
  have iX0 : ∀ w ∈ wsX00, w ∈ wsX4_findPaths := by decide +kernel
  have iX2 : ∀ w ∈ wsX20, w ∈ wsX4_findPaths := by decide +kernel
  have iX4 : ∀ w ∈ wsX40, w ∈ wsX4_findPaths := by decide +kernel
  have k106 := S.2.2.2.2 (.constant RX4 106 (-1000000000)) (by decide +kernel)
  have k12 := S.2.2.2.2 (.fieldLink RX4 12 "PairMatching$Joins" "chooser" "LPairMatching$Chooser;") (by decide +kernel)
  have k26 := S.2.2.2.2 (.fieldLink RX4 26 "PairMatching$Joins" "graph" "LPairMatching$Graph;") (by decide +kernel)
  have k37 := S.2.2.2.2 (.fieldLink RX4 37 "PairMatching$Joins" "pathsKnown" "Z") (by decide +kernel)
  have kIX11 := S.2.2.2.2 (.initialized RX11) (by decide +kernel)
  have kSX11_cell := S.2.2.2.2 (.static yX11_cell) (by decide +kernel)
  have kSX11_markOf := S.2.2.2.2 (.static yX11_markOf) (by decide +kernel)
  have w102 : Cond.methodLinkNest RX4 102 yX11_cell "PairMatching" ∈ nestW := List.mem_of_getElem? (i := 88) rfl
  have w72 : Cond.fieldLinkNest RX4 72 "PairMatching$Graph" "made" "I" "PairMatching" ∈ nestW := List.mem_of_getElem? (i := 9) rfl
  have w75 : Cond.fieldLinkNest RX4 75 "PairMatching$Graph" "alive" "[Z" "PairMatching" ∈ nestW := List.mem_of_getElem? (i := 30) rfl
  have w79 : Cond.fieldLinkNest RX4 79 "PairMatching$Graph" "weights" "[I" "PairMatching" ∈ nestW := List.mem_of_getElem? (i := 26) rfl
  have w82 : Cond.fieldLinkNest RX4 82 "PairMatching$Graph" "oneEnd" "[I" "PairMatching" ∈ nestW := List.mem_of_getElem? (i := 20) rfl
  have w85 : Cond.fieldLinkNest RX4 85 "PairMatching$Graph" "otherEnd" "[I" "PairMatching" ∈ nestW := List.mem_of_getElem? (i := 24) rfl
  have w88 : Cond.methodLinkNest RX4 88 yX11_markOf "PairMatching" ∈ nestW := List.mem_of_getElem? (i := 87) rfl
  have w96 : Cond.fieldLinkNest RX4 96 "PairMatching$Graph" "nodes" "I" "PairMatching" ∈ nestW := List.mem_of_getElem? (i := 5) rfl
  have w99 : Cond.fieldLinkNest RX4 99 "PairMatching$Chooser" "gain" "[I" "PairMatching" ∈ nestW := List.mem_of_getElem? (i := 56) rfl
  unfold f_X4_findPaths at hf
  refine lv_aload_n S.1 S.2.1 dX4_findPaths_0 rfl (lv_at hl 0 rfl) ?_
  refine g_get S hN hw (C := RX4) (T := TX4) (N := 7) (ci := 4) (v := .int j_pathsKnown) 0 5 iX4 k37 dX4_findPaths_1 rfl rfl (by decide) rfl ?_
  refine lv_if_eq (tgt := 8) S.1 S.2.1 dX4_findPaths_4 (by decide) (fun h_1 => ?_) (fun h_1 => ?_)
  · replace hf := if_t h_1 hf
    refine lv_aload_n S.1 S.2.1 dX4_findPaths_8 rfl (lv_at hl 0 rfl) ?_
    refine lv_iconst (v := 1) S.1 S.2.1 dX4_findPaths_9 (by decide) ?_
    refine g_put S hN hw (C := RX4) (T := TX4) (N := 7) (ci := 4) (ty := .boolean) (w1 := [oC a_j 4 [.ref a_g, .ref a_c, .ref a_j_reached, .long j_told, .int j_isTold, .int 1, .int j_age], oC a_g 2 [.int g_nodes, .int g_made, .int g_living, .int g_age, .ref a_g_oneEnd, .ref a_g_otherEnd, .ref a_g_weights, .ref a_g_alive, .ref a_g_joined], aI E a_g_oneEnd 60 g_oneEnd, aI E a_g_otherEnd 60 g_otherEnd, aI E a_g_weights 60 g_weights, aZ E a_g_alive 60 g_alive, oC a_c 0 [.ref a_r, .ref a_c_gain, .ref a_c_mark, .ref a_c_bestGain, .ref a_c_bestMark], aI E a_c_gain 256 c_gain, aJ E a_c_mark 256 c_mark, aI E a_j_reached 16 j_reached]) 0 5 iX4 k37 tyX4 tyX4_ok nmX4 dX4_findPaths_10 rfl rfl (by decide) rfl (by decide +kernel) rfl rfl (Nat.le_of_ble_eq_true rfl) rfl (fun H locs hw => ?_)
    refine lv_aload_n S.1 S.2.1 dX4_findPaths_13 rfl (lv_at hl 0 rfl) ?_
    refine g_get S hN hw (C := RX4) (T := TX4) (N := 7) (ci := 4) (v := .ref a_c) 0 1 iX4 k12 dX4_findPaths_14 rfl rfl (by decide) rfl ?_
    obtain ⟨c_gain_2, c_mark_3, hc_3, hf⟩ := bd2_s hf
    refine g_callv (wc := [oC a_c 0 [.ref a_r, .ref a_c_gain, .ref a_c_mark, .ref a_c_bestGain, .ref a_c_bestMark], aI E a_c_gain 256 c_gain, aJ E a_c_mark 256 c_mark]) (wr := [oC a_j 4 [.ref a_g, .ref a_c, .ref a_j_reached, .long j_told, .int j_isTold, .int 1, .int j_age], oC a_g 2 [.int g_nodes, .int g_made, .int g_living, .int g_age, .ref a_g_oneEnd, .ref a_g_otherEnd, .ref a_g_weights, .ref a_g_alive, .ref a_g_joined], aI E a_g_oneEnd 60 g_oneEnd, aI E a_g_otherEnd 60 g_otherEnd, aI E a_g_weights 60 g_weights, aZ E a_g_alive 60 g_alive, aI E a_j_reached 16 j_reached]) (w1 := [oC a_c 0 [.ref a_r, .ref a_c_gain, .ref a_c_mark, .ref a_c_bestGain, .ref a_c_bestMark], aI E a_c_gain 256 c_gain_2, aJ E a_c_mark 256 c_mark_3]) (va_runV (As := []) (rest := []) S (c_X0_forgetOffers l E F a_r c_gain a_c_gain c_mark a_c_mark a_c_bestGain a_c_bestMark a_c c_gain_2 c_mark_3 hc_3 _) (cwV 0 S.2.2.2.2 gX4_findPaths_X0_forgetOffers rfl rfl rfl (by decide +kernel) (rm_le (by omega) (by decide))) (preV (q := (RX0, TX0, 5)) hN hw [6, 7, 8] rfl rfl rfl rfl) rfl rfl hl.1 rfl (lv_room (Nat.le_of_ble_eq_true rfl)) dX4_findPaths_17 ⟨Nat.le_refl _, Nat.le_refl _⟩) hw hA [6, 7, 8] [0, 1, 2, 3, 4, 5, 9] rfl rfl rfl (by decide) (fun H locs hw => ?_)
    have hw : Wo E A s [oC a_j 4 [.ref a_g, .ref a_c, .ref a_j_reached, .long j_told, .int j_isTold, .int 1, .int j_age], oC a_g 2 [.int g_nodes, .int g_made, .int g_living, .int g_age, .ref a_g_oneEnd, .ref a_g_otherEnd, .ref a_g_weights, .ref a_g_alive, .ref a_g_joined], aI E a_g_oneEnd 60 g_oneEnd, aI E a_g_otherEnd 60 g_otherEnd, aI E a_g_weights 60 g_weights, aZ E a_g_alive 60 g_alive, aI E a_j_reached 16 j_reached, oC a_c 0 [.ref a_r, .ref a_c_gain, .ref a_c_mark, .ref a_c_bestGain, .ref a_c_bestMark], aI E a_c_gain 256 c_gain_2, aJ E a_c_mark 256 c_mark_3] H _ := hw
    refine lv_iconst (v := 0) S.1 S.2.1 dX4_findPaths_20 (by decide) ?_
    refine lv_istore_n (lv' := [(1, .int 0), (0, .ref a_j)]) S.1 S.2.1 dX4_findPaths_21 rfl hl (by decide) rfl (fun ls hl => ?_)
    obtain ⟨kk_98_31, ekk_98_31, hf⟩ := jn_s hf
    have hJ_kk_98_31 : ∀ (c_gain_5 : Nat → Int32) (c_mark_6 : Nat → Int64) (H : Heap) (locs : List Loc) (ls : Array Slot), Wo E A s [oC a_j 4 [.ref a_g, .ref a_c, .ref a_j_reached, .long j_told, .int j_isTold, .int 1, .int j_age], oC a_g 2 [.int g_nodes, .int g_made, .int g_living, .int g_age, .ref a_g_oneEnd, .ref a_g_otherEnd, .ref a_g_weights, .ref a_g_alive, .ref a_g_joined], aI E a_g_oneEnd 60 g_oneEnd, aI E a_g_otherEnd 60 g_otherEnd, aI E a_g_weights 60 g_weights, aZ E a_g_alive 60 g_alive, aI E a_j_reached 16 j_reached, oC a_c 0 [.ref a_r, .ref a_c_gain, .ref a_c_mark, .ref a_c_bestGain, .ref a_c_bestMark], aI E a_c_gain 256 c_gain_5, aJ E a_c_mark 256 c_mark_6] H locs → lv_has ls 3 [(0, .ref a_j)] → kk_98_31 c_gain_5 c_mark_6 = some (u_j_pathsKnown, u_c_gain, u_c_mark, u_j_reached) → W p l e (Rm 2) s m (([.ref a_j] : List Value).toArray) below meth c H locs 0 0 Q (F0 m 98 ls []) := by
      intro c_gain_5 c_mark_6 H locs ls hw hl hf
      rw [ekk_98_31] at hf
      refine lv_iconst (v := 0) S.1 S.2.1 dX4_findPaths_98 (by decide) ?_
      refine lv_istore_n (lv' := [(1, .int 0), (0, .ref a_j)]) S.1 S.2.1 dX4_findPaths_99 rfl hl (by decide) rfl (fun ls hl => ?_)
      obtain ⟨kk_160_10, ekk_160_10, hf⟩ := jn_s hf
      have hJ_kk_160_10 : ∀ (c_gain_7 : Nat → Int32) (c_mark_8 : Nat → Int64) (H : Heap) (locs : List Loc) (ls : Array Slot), Wo E A s [oC a_j 4 [.ref a_g, .ref a_c, .ref a_j_reached, .long j_told, .int j_isTold, .int 1, .int j_age], oC a_g 2 [.int g_nodes, .int g_made, .int g_living, .int g_age, .ref a_g_oneEnd, .ref a_g_otherEnd, .ref a_g_weights, .ref a_g_alive, .ref a_g_joined], aI E a_g_oneEnd 60 g_oneEnd, aI E a_g_otherEnd 60 g_otherEnd, aI E a_g_weights 60 g_weights, aZ E a_g_alive 60 g_alive, aI E a_j_reached 16 j_reached, oC a_c 0 [.ref a_r, .ref a_c_gain, .ref a_c_mark, .ref a_c_bestGain, .ref a_c_bestMark], aI E a_c_gain 256 c_gain_7, aJ E a_c_mark 256 c_mark_8] H locs → lv_has ls 3 [(0, .ref a_j)] → kk_160_10 c_gain_7 c_mark_8 = some (u_j_pathsKnown, u_c_gain, u_c_mark, u_j_reached) → W p l e (Rm 2) s m (([.ref a_j] : List Value).toArray) below meth c H locs 0 0 Q (F0 m 160 ls []) := by
        intro c_gain_7 c_mark_8 H locs ls hw hl hf
        rw [ekk_160_10] at hf
        refine lv_aload_n S.1 S.2.1 dX4_findPaths_160 rfl (lv_at hl 0 rfl) ?_
        obtain ⟨j_reached_9, hc_9, hf⟩ := bd_s hf
        refine g_callv (wc := [oC a_j 4 [.ref a_g, .ref a_c, .ref a_j_reached, .long j_told, .int j_isTold, .int 1, .int j_age], oC a_c 0 [.ref a_r, .ref a_c_gain, .ref a_c_mark, .ref a_c_bestGain, .ref a_c_bestMark], aI E a_c_gain 256 c_gain_7, aI E a_j_reached 16 j_reached]) (wr := [oC a_g 2 [.int g_nodes, .int g_made, .int g_living, .int g_age, .ref a_g_oneEnd, .ref a_g_otherEnd, .ref a_g_weights, .ref a_g_alive, .ref a_g_joined], aI E a_g_oneEnd 60 g_oneEnd, aI E a_g_otherEnd 60 g_otherEnd, aI E a_g_weights 60 g_weights, aZ E a_g_alive 60 g_alive, aJ E a_c_mark 256 c_mark_8]) (w1 := [oC a_j 4 [.ref a_g, .ref a_c, .ref a_j_reached, .long j_told, .int j_isTold, .int 1, .int j_age], oC a_c 0 [.ref a_r, .ref a_c_gain, .ref a_c_mark, .ref a_c_bestGain, .ref a_c_bestMark], aI E a_c_gain 256 c_gain_7, aI E a_j_reached 16 j_reached_9]) (va_runV (As := []) (rest := []) S (c_X4_findReached l E F a_g a_r c_gain_7 a_c_gain a_c_mark a_c_bestGain a_c_bestMark a_c j_reached a_j_reached j_told j_isTold 1 j_age a_j j_reached_9 hc_9 _) (cwV 0 S.2.2.2.2 gX4_findPaths_X4_findReached rfl rfl rfl (by decide +kernel) (rm_le (by omega) (by decide))) (preV (q := (RX4, TX4, 7)) hN hw [0, 7, 8, 6] rfl rfl rfl rfl) rfl rfl hl.1 rfl (lv_room (Nat.le_of_ble_eq_true rfl)) dX4_findPaths_161 ⟨Nat.le_refl _, Nat.le_refl _⟩) hw hA [0, 7, 8, 6] [1, 2, 3, 4, 5, 9] rfl rfl rfl (by decide) (fun H locs hw => ?_)
        have hw : Wo E A s [oC a_g 2 [.int g_nodes, .int g_made, .int g_living, .int g_age, .ref a_g_oneEnd, .ref a_g_otherEnd, .ref a_g_weights, .ref a_g_alive, .ref a_g_joined], aI E a_g_oneEnd 60 g_oneEnd, aI E a_g_otherEnd 60 g_otherEnd, aI E a_g_weights 60 g_weights, aZ E a_g_alive 60 g_alive, aJ E a_c_mark 256 c_mark_8, oC a_j 4 [.ref a_g, .ref a_c, .ref a_j_reached, .long j_told, .int j_isTold, .int 1, .int j_age], oC a_c 0 [.ref a_r, .ref a_c_gain, .ref a_c_mark, .ref a_c_bestGain, .ref a_c_bestMark], aI E a_c_gain 256 c_gain_7, aI E a_j_reached 16 j_reached_9] H _ := hw
        cases hf
        exact hE _ _ _ _ (hw.sub [6, 0, 1, 2, 3, 4, 7, 8, 5, 9] rfl rfl) dX4_findPaths_164
      have hL_100_30 : ∀ (n : Nat) (v1_12 : Int32) (c_gain_13 : Nat → Int32) (c_mark_14 : Nat → Int64) (H : Heap) (locs : List Loc) (ls : Array Slot), Wo E A s [oC a_j 4 [.ref a_g, .ref a_c, .ref a_j_reached, .long j_told, .int j_isTold, .int 1, .int j_age], oC a_g 2 [.int g_nodes, .int g_made, .int g_living, .int g_age, .ref a_g_oneEnd, .ref a_g_otherEnd, .ref a_g_weights, .ref a_g_alive, .ref a_g_joined], aI E a_g_oneEnd 60 g_oneEnd, aI E a_g_otherEnd 60 g_otherEnd, aI E a_g_weights 60 g_weights, aZ E a_g_alive 60 g_alive, aI E a_j_reached 16 j_reached, oC a_c 0 [.ref a_r, .ref a_c_gain, .ref a_c_mark, .ref a_c_bestGain, .ref a_c_bestMark], aI E a_c_gain 256 c_gain_13, aJ E a_c_mark 256 c_mark_14] H locs → lv_has ls 3 [(0, .ref a_j), (1, .int v1_12)] → f_X4_findPaths_L100 F g_nodes kk_160_10 n v1_12 c_gain_13 c_mark_14 = some (u_j_pathsKnown, u_c_gain, u_c_mark, u_j_reached) → W p l e (Rm 2) s m (([.ref a_j] : List Value).toArray) below meth c H locs 0 0 Q (F0 m 100 ls []) := by
        intro n
        induction n with
        | zero => intro v1_12 c_gain_13 c_mark_14 H locs ls hw hl hf; unfold f_X4_findPaths_L100 at hf; cases hf
        | succ n ih =>
          intro v1_12 c_gain_13 c_mark_14 H locs ls hw hl hf
          unfold f_X4_findPaths_L100 at hf
          refine lv_iload_n S.1 S.2.1 dX4_findPaths_100 rfl (lv_at hl 1 rfl) ?_
          refine lv_aload_n S.1 S.2.1 dX4_findPaths_101 rfl (lv_at hl 0 rfl) ?_
          refine g_get S hN hw (C := RX4) (T := TX4) (N := 7) (ci := 4) (v := .ref a_g) 0 0 iX4 k26 dX4_findPaths_102 rfl rfl (by decide) rfl ?_
          refine g_getN S hN hw (C := RX2) (T := TX2) (N := 9) (ci := 2) (v := .int g_nodes) 1 0 iX2 w96 dX4_findPaths_105 rfl rfl (by decide) rfl ?_
          refine lv_icmp_ge (tgt := 160) S.1 S.2.1 dX4_findPaths_108 (by decide) (fun h_15 => ?_) (fun h_15 => ?_)
          · replace hf := if_t h_15 hf
            exact hJ_kk_160_10 c_gain_13 c_mark_14 _ _ _ hw (lv_sub hl [0] rfl) hf
          · replace hf := if_f h_15 hf
            refine lv_iconst (v := 0) S.1 S.2.1 dX4_findPaths_111 (by decide) ?_
            refine lv_istore_n (lv' := [(2, .int 0), (0, .ref a_j), (1, .int v1_12)]) S.1 S.2.1 dX4_findPaths_112 rfl hl (by decide) rfl (fun ls hl => ?_)
            obtain ⟨kk_154_17, ekk_154_17, hf⟩ := jn_s hf
            have hJ_kk_154_17 : ∀ (c_gain_16 : Nat → Int32) (c_mark_17 : Nat → Int64) (H : Heap) (locs : List Loc) (ls : Array Slot), Wo E A s [oC a_j 4 [.ref a_g, .ref a_c, .ref a_j_reached, .long j_told, .int j_isTold, .int 1, .int j_age], oC a_g 2 [.int g_nodes, .int g_made, .int g_living, .int g_age, .ref a_g_oneEnd, .ref a_g_otherEnd, .ref a_g_weights, .ref a_g_alive, .ref a_g_joined], aI E a_g_oneEnd 60 g_oneEnd, aI E a_g_otherEnd 60 g_otherEnd, aI E a_g_weights 60 g_weights, aZ E a_g_alive 60 g_alive, aI E a_j_reached 16 j_reached, oC a_c 0 [.ref a_r, .ref a_c_gain, .ref a_c_mark, .ref a_c_bestGain, .ref a_c_bestMark], aI E a_c_gain 256 c_gain_16, aJ E a_c_mark 256 c_mark_17] H locs → lv_has ls 3 [(0, .ref a_j), (1, .int v1_12)] → kk_154_17 c_gain_16 c_mark_17 = some (u_j_pathsKnown, u_c_gain, u_c_mark, u_j_reached) → W p l e (Rm 2) s m (([.ref a_j] : List Value).toArray) below meth c H locs 0 0 Q (F0 m 154 ls []) := by
              intro c_gain_16 c_mark_17 H locs ls hw hl hf
              rw [ekk_154_17] at hf
              refine lv_iinc (v := (v1_12 + 1)) (lv' := [(1, .int (v1_12 + 1)), (0, .ref a_j)]) S.1 S.2.1 dX4_findPaths_154 hl (k := 1) rfl rfl (by decide) rfl (fun ls hl => ?_)
              refine lv_goto (tgt := 100) S.1 S.2.1 dX4_findPaths_157 (by decide) ?_
              exact ih (v1_12 + 1) c_gain_16 c_mark_17 _ _ _ hw (lv_sub hl [1, 0] rfl) hf
            have hL_113_29 : ∀ (n : Nat) (v2_19 : Int32) (c_gain_20 : Nat → Int32) (c_mark_21 : Nat → Int64) (H : Heap) (locs : List Loc) (ls : Array Slot), Wo E A s [oC a_j 4 [.ref a_g, .ref a_c, .ref a_j_reached, .long j_told, .int j_isTold, .int 1, .int j_age], oC a_g 2 [.int g_nodes, .int g_made, .int g_living, .int g_age, .ref a_g_oneEnd, .ref a_g_otherEnd, .ref a_g_weights, .ref a_g_alive, .ref a_g_joined], aI E a_g_oneEnd 60 g_oneEnd, aI E a_g_otherEnd 60 g_otherEnd, aI E a_g_weights 60 g_weights, aZ E a_g_alive 60 g_alive, aI E a_j_reached 16 j_reached, oC a_c 0 [.ref a_r, .ref a_c_gain, .ref a_c_mark, .ref a_c_bestGain, .ref a_c_bestMark], aI E a_c_gain 256 c_gain_20, aJ E a_c_mark 256 c_mark_21] H locs → lv_has ls 3 [(0, .ref a_j), (1, .int v1_12), (2, .int v2_19)] → f_X4_findPaths_L113 F g_nodes v1_12 kk_154_17 n v2_19 c_gain_20 c_mark_21 = some (u_j_pathsKnown, u_c_gain, u_c_mark, u_j_reached) → W p l e (Rm 2) s m (([.ref a_j] : List Value).toArray) below meth c H locs 0 0 Q (F0 m 113 ls []) := by
              intro n
              induction n with
              | zero => intro v2_19 c_gain_20 c_mark_21 H locs ls hw hl hf; unfold f_X4_findPaths_L113 at hf; cases hf
              | succ n ih =>
                intro v2_19 c_gain_20 c_mark_21 H locs ls hw hl hf
                unfold f_X4_findPaths_L113 at hf
                refine lv_iload_n S.1 S.2.1 dX4_findPaths_113 rfl (lv_at hl 2 rfl) ?_
                refine lv_aload_n S.1 S.2.1 dX4_findPaths_114 rfl (lv_at hl 0 rfl) ?_
                refine g_get S hN hw (C := RX4) (T := TX4) (N := 7) (ci := 4) (v := .ref a_g) 0 0 iX4 k26 dX4_findPaths_115 rfl rfl (by decide) rfl ?_
                refine g_getN S hN hw (C := RX2) (T := TX2) (N := 9) (ci := 2) (v := .int g_nodes) 1 0 iX2 w96 dX4_findPaths_118 rfl rfl (by decide) rfl ?_
                refine lv_icmp_ge (tgt := 154) S.1 S.2.1 dX4_findPaths_121 (by decide) (fun h_22 => ?_) (fun h_22 => ?_)
                · replace hf := if_t h_22 hf
                  exact hJ_kk_154_17 c_gain_20 c_mark_21 _ _ _ hw (lv_sub hl [0, 1] rfl) hf
                · replace hf := if_f h_22 hf
                  refine lv_aload_n S.1 S.2.1 dX4_findPaths_124 rfl (lv_at hl 0 rfl) ?_
                  refine g_get S hN hw (C := RX4) (T := TX4) (N := 7) (ci := 4) (v := .ref a_c) 0 1 iX4 k12 dX4_findPaths_125 rfl rfl (by decide) rfl ?_
                  refine g_getN S hN hw (C := RX0) (T := TX0) (N := 5) (ci := 0) (v := .ref a_c_gain) 7 1 iX0 w99 dX4_findPaths_128 rfl rfl (by decide) rfl ?_
                  refine lv_iload_n S.1 S.2.1 dX4_findPaths_131 rfl (lv_at hl 2 rfl) ?_
                  refine lv_iload_n S.1 S.2.1 dX4_findPaths_132 rfl (lv_at hl 1 rfl) ?_
                  refine g_calli (r := (f_X11_cell v2_19 v1_12)) (wc := []) (wr := [oC a_j 4 [.ref a_g, .ref a_c, .ref a_j_reached, .long j_told, .int j_isTold, .int 1, .int j_age], oC a_g 2 [.int g_nodes, .int g_made, .int g_living, .int g_age, .ref a_g_oneEnd, .ref a_g_otherEnd, .ref a_g_weights, .ref a_g_alive, .ref a_g_joined], aI E a_g_oneEnd 60 g_oneEnd, aI E a_g_otherEnd 60 g_otherEnd, aI E a_g_weights 60 g_weights, aZ E a_g_alive 60 g_alive, aI E a_j_reached 16 j_reached, oC a_c 0 [.ref a_r, .ref a_c_gain, .ref a_c_mark, .ref a_c_bestGain, .ref a_c_bestMark], aI E a_c_gain 256 c_gain_20, aJ E a_c_mark 256 c_mark_21]) (w1 := []) (va_runSN (As := [.int v2_19, .int v1_12]) (rest := [.ref a_c_gain]) S (c_X11_cell l E v2_19 v1_12 (f_X11_cell v2_19 v1_12) rfl _) ⟨(va_cnB 2 S.2.2.2.2 gX4_findPaths_X11_cell_n102 rfl rfl rfl (hN.2 _ w102) kIX11 (by decide +kernel) (rm_le (by omega) (by decide))), kSX11_cell, trivial⟩ (preS hN hw [] rfl rfl) rfl rfl hl.1 rfl (lv_room (Nat.le_of_ble_eq_true rfl)) dX4_findPaths_133 ⟨Nat.le_refl _, Nat.le_refl _⟩) hw hA [] [0, 1, 2, 3, 4, 5, 6, 7, 8, 9] rfl rfl rfl (by decide) (fun H locs hw => ?_)
                  have hw : Wo E A s [oC a_j 4 [.ref a_g, .ref a_c, .ref a_j_reached, .long j_told, .int j_isTold, .int 1, .int j_age], oC a_g 2 [.int g_nodes, .int g_made, .int g_living, .int g_age, .ref a_g_oneEnd, .ref a_g_otherEnd, .ref a_g_weights, .ref a_g_alive, .ref a_g_joined], aI E a_g_oneEnd 60 g_oneEnd, aI E a_g_otherEnd 60 g_otherEnd, aI E a_g_weights 60 g_weights, aZ E a_g_alive 60 g_alive, aI E a_j_reached 16 j_reached, oC a_c 0 [.ref a_r, .ref a_c_gain, .ref a_c_mark, .ref a_c_bestGain, .ref a_c_bestMark], aI E a_c_gain 256 c_gain_20, aJ E a_c_mark 256 c_mark_21] H _ := hw
                  obtain ⟨hi_24, hf⟩ := rd_s hf
                  refine g_iald (n := 256) (f := c_gain_20) S hN hw 8 hi_24 dX4_findPaths_136 rfl ?_
                  generalize c_gain_20 ((f_X11_cell v2_19 v1_12) : Int32).toNatClampNeg = y_25 at hf ⊢
                  refine lv_ldc (v := (-1000000000)) S.1 S.2.1 S.2.2.2.1 k106 dX4_findPaths_137 ?_
                  refine lv_icmp_eq (tgt := 148) S.1 S.2.1 dX4_findPaths_139 (by decide) (fun h_26 => ?_) (fun h_26 => ?_)
                  · replace hf := if_t h_26 hf
                    refine lv_iinc (v := (v2_19 + 1)) (lv' := [(2, .int (v2_19 + 1)), (0, .ref a_j), (1, .int v1_12)]) S.1 S.2.1 dX4_findPaths_148 hl (k := 2) rfl rfl (by decide) rfl (fun ls hl => ?_)
                    refine lv_goto (tgt := 113) S.1 S.2.1 dX4_findPaths_151 (by decide) ?_
                    exact ih (v2_19 + 1) c_gain_20 c_mark_21 _ _ _ hw (lv_sub hl [1, 2, 0] rfl) hf
                  · replace hf := if_f h_26 hf
                    refine lv_aload_n S.1 S.2.1 dX4_findPaths_142 rfl (lv_at hl 0 rfl) ?_
                    refine lv_iload_n S.1 S.2.1 dX4_findPaths_143 rfl (lv_at hl 2 rfl) ?_
                    refine lv_iload_n S.1 S.2.1 dX4_findPaths_144 rfl (lv_at hl 1 rfl) ?_
                    obtain ⟨c_gain_27, c_mark_28, hc_28, hf⟩ := bd2_s hf
                    refine g_callv (wc := [oC a_j 4 [.ref a_g, .ref a_c, .ref a_j_reached, .long j_told, .int j_isTold, .int 1, .int j_age], oC a_g 2 [.int g_nodes, .int g_made, .int g_living, .int g_age, .ref a_g_oneEnd, .ref a_g_otherEnd, .ref a_g_weights, .ref a_g_alive, .ref a_g_joined], oC a_c 0 [.ref a_r, .ref a_c_gain, .ref a_c_mark, .ref a_c_bestGain, .ref a_c_bestMark], aI E a_c_gain 256 c_gain_20, aJ E a_c_mark 256 c_mark_21]) (wr := [aI E a_g_oneEnd 60 g_oneEnd, aI E a_g_otherEnd 60 g_otherEnd, aI E a_g_weights 60 g_weights, aZ E a_g_alive 60 g_alive, aI E a_j_reached 16 j_reached]) (w1 := [oC a_j 4 [.ref a_g, .ref a_c, .ref a_j_reached, .long j_told, .int j_isTold, .int 1, .int j_age], oC a_g 2 [.int g_nodes, .int g_made, .int g_living, .int g_age, .ref a_g_oneEnd, .ref a_g_otherEnd, .ref a_g_weights, .ref a_g_alive, .ref a_g_joined], oC a_c 0 [.ref a_r, .ref a_c_gain, .ref a_c_mark, .ref a_c_bestGain, .ref a_c_bestMark], aI E a_c_gain 256 c_gain_27, aJ E a_c_mark 256 c_mark_28]) (va_runV (As := [.int v2_19, .int v1_12]) (rest := []) S (c_X4_lengthen l E F g_nodes g_made g_living g_age a_g_oneEnd a_g_otherEnd a_g_weights a_g_alive a_g_joined a_g a_r c_gain_20 a_c_gain c_mark_21 a_c_mark a_c_bestGain a_c_bestMark a_c a_j_reached j_told j_isTold 1 j_age a_j v2_19 v1_12 c_gain_27 c_mark_28 hc_28 _) (cwV 2 S.2.2.2.2 gX4_findPaths_X4_lengthen rfl rfl rfl (by decide +kernel) (rm_le (by omega) (by decide))) (preV (q := (RX4, TX4, 7)) hN hw [0, 1, 7, 8, 9] rfl rfl rfl rfl) rfl rfl hl.1 rfl (lv_room (Nat.le_of_ble_eq_true rfl)) dX4_findPaths_145 ⟨Nat.le_refl _, Nat.le_refl _⟩) hw hA [0, 1, 7, 8, 9] [2, 3, 4, 5, 6] rfl rfl rfl (by decide) (fun H locs hw => ?_)
                    have hw : Wo E A s [aI E a_g_oneEnd 60 g_oneEnd, aI E a_g_otherEnd 60 g_otherEnd, aI E a_g_weights 60 g_weights, aZ E a_g_alive 60 g_alive, aI E a_j_reached 16 j_reached, oC a_j 4 [.ref a_g, .ref a_c, .ref a_j_reached, .long j_told, .int j_isTold, .int 1, .int j_age], oC a_g 2 [.int g_nodes, .int g_made, .int g_living, .int g_age, .ref a_g_oneEnd, .ref a_g_otherEnd, .ref a_g_weights, .ref a_g_alive, .ref a_g_joined], oC a_c 0 [.ref a_r, .ref a_c_gain, .ref a_c_mark, .ref a_c_bestGain, .ref a_c_bestMark], aI E a_c_gain 256 c_gain_27, aJ E a_c_mark 256 c_mark_28] H _ := hw
                    refine lv_iinc (v := (v2_19 + 1)) (lv' := [(2, .int (v2_19 + 1)), (0, .ref a_j), (1, .int v1_12)]) S.1 S.2.1 dX4_findPaths_148 hl (k := 2) rfl rfl (by decide) rfl (fun ls hl => ?_)
                    refine lv_goto (tgt := 113) S.1 S.2.1 dX4_findPaths_151 (by decide) ?_
                    exact ih (v2_19 + 1) c_gain_27 c_mark_28 _ _ _ (hw.sub [5, 6, 0, 1, 2, 3, 4, 7, 8, 9] rfl rfl) (lv_sub hl [1, 2, 0] rfl) hf
            exact hL_113_29 F 0 c_gain_13 c_mark_14 _ _ _ hw (lv_sub hl [1, 2, 0] rfl) hf
      exact hL_100_30 F 0 c_gain_5 c_mark_6 _ _ _ hw (lv_sub hl [1, 0] rfl) hf
    have hL_22_46 : ∀ (n : Nat) (v1_33 : Int32) (c_gain_34 : Nat → Int32) (c_mark_35 : Nat → Int64) (H : Heap) (locs : List Loc) (ls : Array Slot), Wo E A s [oC a_j 4 [.ref a_g, .ref a_c, .ref a_j_reached, .long j_told, .int j_isTold, .int 1, .int j_age], oC a_g 2 [.int g_nodes, .int g_made, .int g_living, .int g_age, .ref a_g_oneEnd, .ref a_g_otherEnd, .ref a_g_weights, .ref a_g_alive, .ref a_g_joined], aI E a_g_oneEnd 60 g_oneEnd, aI E a_g_otherEnd 60 g_otherEnd, aI E a_g_weights 60 g_weights, aZ E a_g_alive 60 g_alive, aI E a_j_reached 16 j_reached, oC a_c 0 [.ref a_r, .ref a_c_gain, .ref a_c_mark, .ref a_c_bestGain, .ref a_c_bestMark], aI E a_c_gain 256 c_gain_34, aJ E a_c_mark 256 c_mark_35] H locs → lv_has ls 3 [(0, .ref a_j), (1, .int v1_33)] → f_X4_findPaths_L22 g_made g_oneEnd g_otherEnd g_weights g_alive kk_98_31 n v1_33 c_gain_34 c_mark_35 = some (u_j_pathsKnown, u_c_gain, u_c_mark, u_j_reached) → W p l e (Rm 2) s m (([.ref a_j] : List Value).toArray) below meth c H locs 0 0 Q (F0 m 22 ls []) := by
      intro n
      induction n with
      | zero => intro v1_33 c_gain_34 c_mark_35 H locs ls hw hl hf; unfold f_X4_findPaths_L22 at hf; cases hf
      | succ n ih =>
        intro v1_33 c_gain_34 c_mark_35 H locs ls hw hl hf
        unfold f_X4_findPaths_L22 at hf
        refine lv_iload_n S.1 S.2.1 dX4_findPaths_22 rfl (lv_at hl 1 rfl) ?_
        refine lv_aload_n S.1 S.2.1 dX4_findPaths_23 rfl (lv_at hl 0 rfl) ?_
        refine g_get S hN hw (C := RX4) (T := TX4) (N := 7) (ci := 4) (v := .ref a_g) 0 0 iX4 k26 dX4_findPaths_24 rfl rfl (by decide) rfl ?_
        refine g_getN S hN hw (C := RX2) (T := TX2) (N := 9) (ci := 2) (v := .int g_made) 1 1 iX2 w72 dX4_findPaths_27 rfl rfl (by decide) rfl ?_
        refine lv_icmp_ge (tgt := 98) S.1 S.2.1 dX4_findPaths_30 (by decide) (fun h_36 => ?_) (fun h_36 => ?_)
        · replace hf := if_t h_36 hf
          exact hJ_kk_98_31 c_gain_34 c_mark_35 _ _ _ hw (lv_sub hl [0] rfl) hf
        · replace hf := if_f h_36 hf
          refine lv_aload_n S.1 S.2.1 dX4_findPaths_33 rfl (lv_at hl 0 rfl) ?_
          refine g_get S hN hw (C := RX4) (T := TX4) (N := 7) (ci := 4) (v := .ref a_g) 0 0 iX4 k26 dX4_findPaths_34 rfl rfl (by decide) rfl ?_
          refine g_getN S hN hw (C := RX2) (T := TX2) (N := 9) (ci := 2) (v := .ref a_g_alive) 1 7 iX2 w75 dX4_findPaths_37 rfl rfl (by decide) rfl ?_
          refine lv_iload_n S.1 S.2.1 dX4_findPaths_40 rfl (lv_at hl 1 rfl) ?_
          obtain ⟨hi_36, hf⟩ := rd_s hf
          refine g_zald (n := 60) (f := g_alive) S hN hw 5 hi_36 dX4_findPaths_41 rfl ?_
          generalize g_alive (v1_33 : Int32).toNatClampNeg = y_37 at hf ⊢
          refine lv_if_eq (tgt := 92) S.1 S.2.1 dX4_findPaths_42 (by decide) (fun h_38 => ?_) (fun h_38 => ?_)
          · replace hf := if_t h_38 hf
            refine lv_iinc (v := (v1_33 + 1)) (lv' := [(1, .int (v1_33 + 1)), (0, .ref a_j)]) S.1 S.2.1 dX4_findPaths_92 hl (k := 1) rfl rfl (by decide) rfl (fun ls hl => ?_)
            refine lv_goto (tgt := 22) S.1 S.2.1 dX4_findPaths_95 (by decide) ?_
            exact ih (v1_33 + 1) c_gain_34 c_mark_35 _ _ _ hw (lv_sub hl [1, 0] rfl) hf
          · replace hf := if_f h_38 hf
            refine lv_aload_n S.1 S.2.1 dX4_findPaths_45 rfl (lv_at hl 0 rfl) ?_
            refine g_get S hN hw (C := RX4) (T := TX4) (N := 7) (ci := 4) (v := .ref a_g) 0 0 iX4 k26 dX4_findPaths_46 rfl rfl (by decide) rfl ?_
            refine g_getN S hN hw (C := RX2) (T := TX2) (N := 9) (ci := 2) (v := .ref a_g_weights) 1 6 iX2 w79 dX4_findPaths_49 rfl rfl (by decide) rfl ?_
            refine lv_iload_n S.1 S.2.1 dX4_findPaths_52 rfl (lv_at hl 1 rfl) ?_
            obtain ⟨hi_38, hf⟩ := rd_s hf
            refine g_iald (n := 60) (f := g_weights) S hN hw 4 hi_38 dX4_findPaths_53 rfl ?_
            generalize g_weights (v1_33 : Int32).toNatClampNeg = y_39 at hf ⊢
            refine lv_sipush (v := 1024) S.1 S.2.1 dX4_findPaths_54 (by decide) ?_
            refine lv_imul S.1 S.2.1 dX4_findPaths_57 ?_
            refine lv_iconst (v := 1) S.1 S.2.1 dX4_findPaths_58 (by decide) ?_
            refine lv_iadd S.1 S.2.1 dX4_findPaths_59 ?_
            refine lv_ineg S.1 S.2.1 dX4_findPaths_60 ?_
            refine lv_istore_n (lv' := [(2, .int (-((y_39 * 1024) + 1))), (0, .ref a_j), (1, .int v1_33)]) S.1 S.2.1 dX4_findPaths_61 rfl hl (by decide) rfl (fun ls hl => ?_)
            refine lv_aload_n S.1 S.2.1 dX4_findPaths_62 rfl (lv_at hl 1 rfl) ?_
            refine g_get S hN hw (C := RX4) (T := TX4) (N := 7) (ci := 4) (v := .ref a_c) 0 1 iX4 k12 dX4_findPaths_63 rfl rfl (by decide) rfl ?_
            refine lv_aload_n S.1 S.2.1 dX4_findPaths_66 rfl (lv_at hl 1 rfl) ?_
            refine g_get S hN hw (C := RX4) (T := TX4) (N := 7) (ci := 4) (v := .ref a_g) 0 0 iX4 k26 dX4_findPaths_67 rfl rfl (by decide) rfl ?_
            refine g_getN S hN hw (C := RX2) (T := TX2) (N := 9) (ci := 2) (v := .ref a_g_oneEnd) 1 4 iX2 w82 dX4_findPaths_70 rfl rfl (by decide) rfl ?_
            refine lv_iload_n S.1 S.2.1 dX4_findPaths_73 rfl (lv_at hl 2 rfl) ?_
            obtain ⟨hi_39, hf⟩ := rd_s hf
            refine g_iald (n := 60) (f := g_oneEnd) S hN hw 2 hi_39 dX4_findPaths_74 rfl ?_
            generalize g_oneEnd (v1_33 : Int32).toNatClampNeg = y_40 at hf ⊢
            refine lv_aload_n S.1 S.2.1 dX4_findPaths_75 rfl (lv_at hl 1 rfl) ?_
            refine g_get S hN hw (C := RX4) (T := TX4) (N := 7) (ci := 4) (v := .ref a_g) 0 0 iX4 k26 dX4_findPaths_76 rfl rfl (by decide) rfl ?_
            refine g_getN S hN hw (C := RX2) (T := TX2) (N := 9) (ci := 2) (v := .ref a_g_otherEnd) 1 5 iX2 w85 dX4_findPaths_79 rfl rfl (by decide) rfl ?_
            refine lv_iload_n S.1 S.2.1 dX4_findPaths_82 rfl (lv_at hl 2 rfl) ?_
            obtain ⟨hi_40, hf⟩ := rd_s hf
            refine g_iald (n := 60) (f := g_otherEnd) S hN hw 3 hi_40 dX4_findPaths_83 rfl ?_
            generalize g_otherEnd (v1_33 : Int32).toNatClampNeg = y_41 at hf ⊢
            refine lv_iload_n S.1 S.2.1 dX4_findPaths_84 rfl (lv_at hl 0 rfl) ?_
            refine lv_iload_n S.1 S.2.1 dX4_findPaths_85 rfl (lv_at hl 2 rfl) ?_
            refine g_calll (r := (f_X11_markOf v1_33)) (wc := []) (wr := [oC a_j 4 [.ref a_g, .ref a_c, .ref a_j_reached, .long j_told, .int j_isTold, .int 1, .int j_age], oC a_g 2 [.int g_nodes, .int g_made, .int g_living, .int g_age, .ref a_g_oneEnd, .ref a_g_otherEnd, .ref a_g_weights, .ref a_g_alive, .ref a_g_joined], aI E a_g_oneEnd 60 g_oneEnd, aI E a_g_otherEnd 60 g_otherEnd, aI E a_g_weights 60 g_weights, aZ E a_g_alive 60 g_alive, aI E a_j_reached 16 j_reached, oC a_c 0 [.ref a_r, .ref a_c_gain, .ref a_c_mark, .ref a_c_bestGain, .ref a_c_bestMark], aI E a_c_gain 256 c_gain_34, aJ E a_c_mark 256 c_mark_35]) (w1 := []) (va_runSN (As := [.int v1_33]) (rest := [.int (-((y_39 * 1024) + 1)), .int y_41, .int y_40, .ref a_c]) S (c_X11_markOf l E v1_33 (f_X11_markOf v1_33) rfl _) ⟨(va_cnB 1 S.2.2.2.2 gX4_findPaths_X11_markOf_n88 rfl rfl rfl (hN.2 _ w88) kIX11 (by decide +kernel) (rm_le (by omega) (by decide))), kSX11_markOf, trivial⟩ (preS hN hw [] rfl rfl) rfl rfl hl.1 rfl (lv_room (Nat.le_of_ble_eq_true rfl)) dX4_findPaths_86 ⟨Nat.le_refl _, Nat.le_refl _⟩) hw hA [] [0, 1, 2, 3, 4, 5, 6, 7, 8, 9] rfl rfl rfl (by decide) (fun H locs hw => ?_)
            have hw : Wo E A s [oC a_j 4 [.ref a_g, .ref a_c, .ref a_j_reached, .long j_told, .int j_isTold, .int 1, .int j_age], oC a_g 2 [.int g_nodes, .int g_made, .int g_living, .int g_age, .ref a_g_oneEnd, .ref a_g_otherEnd, .ref a_g_weights, .ref a_g_alive, .ref a_g_joined], aI E a_g_oneEnd 60 g_oneEnd, aI E a_g_otherEnd 60 g_otherEnd, aI E a_g_weights 60 g_weights, aZ E a_g_alive 60 g_alive, aI E a_j_reached 16 j_reached, oC a_c 0 [.ref a_r, .ref a_c_gain, .ref a_c_mark, .ref a_c_bestGain, .ref a_c_bestMark], aI E a_c_gain 256 c_gain_34, aJ E a_c_mark 256 c_mark_35] H _ := hw
            obtain ⟨c_gain_44, c_mark_45, hc_45, hf⟩ := bd2_s hf
            refine g_callv (wc := [oC a_c 0 [.ref a_r, .ref a_c_gain, .ref a_c_mark, .ref a_c_bestGain, .ref a_c_bestMark], aI E a_c_gain 256 c_gain_34, aJ E a_c_mark 256 c_mark_35]) (wr := [oC a_j 4 [.ref a_g, .ref a_c, .ref a_j_reached, .long j_told, .int j_isTold, .int 1, .int j_age], oC a_g 2 [.int g_nodes, .int g_made, .int g_living, .int g_age, .ref a_g_oneEnd, .ref a_g_otherEnd, .ref a_g_weights, .ref a_g_alive, .ref a_g_joined], aI E a_g_oneEnd 60 g_oneEnd, aI E a_g_otherEnd 60 g_otherEnd, aI E a_g_weights 60 g_weights, aZ E a_g_alive 60 g_alive, aI E a_j_reached 16 j_reached]) (w1 := [oC a_c 0 [.ref a_r, .ref a_c_gain, .ref a_c_mark, .ref a_c_bestGain, .ref a_c_bestMark], aI E a_c_gain 256 c_gain_44, aJ E a_c_mark 256 c_mark_45]) (va_runV (As := [.int y_40, .int y_41, .int (-((y_39 * 1024) + 1)), .long (f_X11_markOf v1_33)]) (rest := []) S (c_X0_offer l E a_r c_gain_34 a_c_gain c_mark_35 a_c_mark a_c_bestGain a_c_bestMark a_c y_40 y_41 (-((y_39 * 1024) + 1)) (f_X11_markOf v1_33) c_gain_44 c_mark_45 hc_45 _) (cwV 4 S.2.2.2.2 gX4_findPaths_X0_offer rfl rfl rfl (by decide +kernel) (rm_le (by omega) (by decide))) (preV (q := (RX0, TX0, 5)) hN hw [7, 8, 9] rfl rfl rfl rfl) rfl rfl hl.1 rfl (lv_room (Nat.le_of_ble_eq_true rfl)) dX4_findPaths_89 ⟨Nat.le_refl _, Nat.le_refl _⟩) hw hA [7, 8, 9] [0, 1, 2, 3, 4, 5, 6] rfl rfl rfl (by decide) (fun H locs hw => ?_)
            have hw : Wo E A s [oC a_j 4 [.ref a_g, .ref a_c, .ref a_j_reached, .long j_told, .int j_isTold, .int 1, .int j_age], oC a_g 2 [.int g_nodes, .int g_made, .int g_living, .int g_age, .ref a_g_oneEnd, .ref a_g_otherEnd, .ref a_g_weights, .ref a_g_alive, .ref a_g_joined], aI E a_g_oneEnd 60 g_oneEnd, aI E a_g_otherEnd 60 g_otherEnd, aI E a_g_weights 60 g_weights, aZ E a_g_alive 60 g_alive, aI E a_j_reached 16 j_reached, oC a_c 0 [.ref a_r, .ref a_c_gain, .ref a_c_mark, .ref a_c_bestGain, .ref a_c_bestMark], aI E a_c_gain 256 c_gain_44, aJ E a_c_mark 256 c_mark_45] H _ := hw
            refine lv_iinc (v := (v1_33 + 1)) (lv' := [(1, .int (v1_33 + 1)), (2, .int (-((y_39 * 1024) + 1))), (0, .ref a_j)]) S.1 S.2.1 dX4_findPaths_92 hl (k := 2) rfl rfl (by decide) rfl (fun ls hl => ?_)
            refine lv_goto (tgt := 22) S.1 S.2.1 dX4_findPaths_95 (by decide) ?_
            exact ih (v1_33 + 1) c_gain_44 c_mark_45 _ _ _ hw (lv_sub hl [2, 0] rfl) hf
    exact hL_22_46 F 0 c_gain_2 c_mark_3 _ _ _ hw (lv_sub hl [1, 0] rfl) hf
  · replace hf := if_f h_1 hf
    cases hf
    exact hE _ _ _ _ hw dX4_findPaths_7
def f_X7_listLater_L7 (p1 : Int32) (p2 : Int32) (kk_44_3 : Int32 → (Nat → Int32) → Option ((Nat → Int32) × (Nat → Int32))) : Nat → Int32 → Int32 → (Nat → Int32) → Option ((Nat → Int32) × (Nat → Int32))
  | 0, _, _, _ => none
  | n + 1, v3_5, v4_6, r_later_7 => (if 16 ≤ v4_6 then (kk_44_3 v3_5 r_later_7) else (if (f_X11_has p2 v4_6) = 0 then (f_X7_listLater_L7 p1 p2 kk_44_3 n v3_5 (v4_6 + 1) r_later_7) else wr 256 r_later_7 (f_X11_cell p1 v3_5) v4_6 (fun r_later_14 => (f_X7_listLater_L7 p1 p2 kk_44_3 n (v3_5 + 1) (v4_6 + 1) r_later_14))))
def f_X7_listLater (F : Nat) (p1 : Int32) (p2 : Int32) (r_later : Nat → Int32) (r_laters : Nat → Int32) : Option ((Nat → Int32) × (Nat → Int32)) :=
  (jn (fun (v3_1 : Int32) (r_later_2 : Nat → Int32) => wr 16 r_laters p1 v3_1 (fun r_laters_3 => some (r_later_2, r_laters_3))) (fun kk_44_3 => (f_X7_listLater_L7 p1 p2 kk_44_3 F 0 (p1 + 1) r_later)))
set_option maxHeartbeats 4000000 in
set_option maxRecDepth 100000 in
theorem c_X7_listLater (l : Launch) (E : Ev) (F : Nat) (a_r_slots : Nat) (a_r_slotOf : Nat) (a_r_sets : Nat) (r_later : Nat → Int32) (a_r_later : Nat) (r_laters : Nat → Int32) (a_r_laters : Nat) (r_mayLeave : Int32) (r_amount : Int32) (a_r : Nat) (p1 : Int32) (p2 : Int32) (u_r_later : Nat → Int32) (u_r_laters : Nat → Int32) (hf : f_X7_listLater F p1 p2 r_later r_laters = some (u_r_later, u_r_laters)) :
    CtV l yX7_listLater wsX7_listLater (Rm 1) E [.ref a_r, .int p1, .int p2] [oC a_r 7 [.ref a_r_slots, .ref a_r_slotOf, .ref a_r_sets, .ref a_r_later, .ref a_r_laters, .int r_mayLeave, .int r_amount], aI E a_r_later 256 r_later, aI E a_r_laters 16 r_laters] [oC a_r 7 [.ref a_r_slots, .ref a_r_slotOf, .ref a_r_sets, .ref a_r_later, .ref a_r_laters, .int r_mayLeave, .int r_amount], aI E a_r_later 256 u_r_later, aI E a_r_laters 16 u_r_laters] := by
  refine ofV (cc := cX7_listLater) (maxL := 5) (own := RX7) rfl rfl (by decide) rfl rfl ?_
  intro p e s m below meth c A ls Q S hnm hN hw hA hl0 hE
  have hl : lv_has ls 5 [(0, .ref a_r), (1, .int p1), (2, .int p2)] := hl0 _ (lv_entry [.ref a_r, .int p1, .int p2] (n := 5) (Nat.le_of_ble_eq_true rfl))
  have iX7 : ∀ w ∈ wsX70, w ∈ wsX7_listLater := by decide +kernel
  have k21 := S.2.2.2.2 (.fieldLink RX7 21 "PairMatching$Rests" "later" "[I") (by decide +kernel)
  have k24 := S.2.2.2.2 (.fieldLink RX7 24 "PairMatching$Rests" "laters" "[I") (by decide +kernel)
  have kIX11 := S.2.2.2.2 (.initialized RX11) (by decide +kernel)
  have kSX11_cell := S.2.2.2.2 (.static yX11_cell) (by decide +kernel)
  have kSX11_has := S.2.2.2.2 (.static yX11_has) (by decide +kernel)
  have w43 : Cond.methodLinkNest RX7 43 yX11_has "PairMatching" ∈ nestW := List.mem_of_getElem? (i := 59) rfl
  have w47 : Cond.methodLinkNest RX7 47 yX11_cell "PairMatching" ∈ nestW := List.mem_of_getElem? (i := 60) rfl
  unfold f_X7_listLater at hf
  refine lv_iconst (v := 0) S.1 S.2.1 dX7_listLater_0 (by decide) ?_
  refine lv_istore_n (lv' := [(3, .int 0), (0, .ref a_r), (1, .int p1), (2, .int p2)]) S.1 S.2.1 dX7_listLater_1 rfl hl (by decide) rfl (fun ls hl => ?_)
  refine lv_iload_n S.1 S.2.1 dX7_listLater_2 rfl (lv_at hl 2 rfl) ?_
  refine lv_iconst (v := 1) S.1 S.2.1 dX7_listLater_3 (by decide) ?_
  refine lv_iadd S.1 S.2.1 dX7_listLater_4 ?_
  refine lv_istore (lv' := [(4, .int (p1 + 1)), (3, .int 0), (0, .ref a_r), (1, .int p1), (2, .int p2)]) S.1 S.2.1 dX7_listLater_5 hl (by decide) rfl (fun ls hl => ?_)
  obtain ⟨kk_44_3, ekk_44_3, hf⟩ := jn_s hf
  have hJ_kk_44_3 : ∀ (v3_1 : Int32) (r_later_2 : Nat → Int32) (H : Heap) (locs : List Loc) (ls : Array Slot), Wo E A s [oC a_r 7 [.ref a_r_slots, .ref a_r_slotOf, .ref a_r_sets, .ref a_r_later, .ref a_r_laters, .int r_mayLeave, .int r_amount], aI E a_r_later 256 r_later_2, aI E a_r_laters 16 r_laters] H locs → lv_has ls 5 [(0, .ref a_r), (1, .int p1), (3, .int v3_1)] → kk_44_3 v3_1 r_later_2 = some (u_r_later, u_r_laters) → W p l e (Rm 1) s m (([.ref a_r, .int p1, .int p2] : List Value).toArray) below meth c H locs 0 0 Q (F0 m 44 ls []) := by
    intro v3_1 r_later_2 H locs ls hw hl hf
    rw [ekk_44_3] at hf
    refine lv_aload_n S.1 S.2.1 dX7_listLater_44 rfl (lv_at hl 0 rfl) ?_
    refine g_get S hN hw (C := RX7) (T := TX7) (N := 7) (ci := 7) (v := .ref a_r_laters) 0 4 iX7 k24 dX7_listLater_45 rfl rfl (by decide) rfl ?_
    refine lv_iload_n S.1 S.2.1 dX7_listLater_48 rfl (lv_at hl 1 rfl) ?_
    refine lv_iload_n S.1 S.2.1 dX7_listLater_49 rfl (lv_at hl 2 rfl) ?_
    obtain ⟨hi_2, hf⟩ := wr_s hf
    refine g_iast (n := 16) (f := r_laters) (w1 := [oC a_r 7 [.ref a_r_slots, .ref a_r_slotOf, .ref a_r_sets, .ref a_r_later, .ref a_r_laters, .int r_mayLeave, .int r_amount], aI E a_r_later 256 r_later_2, aI E a_r_laters 16 (va_up r_laters (p1 : Int32).toNatClampNeg v3_1)]) S hN hw 2 hi_2 dX7_listLater_50 rfl rfl (fun H locs hw => ?_)
    generalize va_up r_laters (p1 : Int32).toNatClampNeg v3_1 = r_laters_3 at hf hw
    cases hf
    exact hE _ _ _ _ hw dX7_listLater_51
  have hL_7_14 : ∀ (n : Nat) (v3_5 : Int32) (v4_6 : Int32) (r_later_7 : Nat → Int32) (H : Heap) (locs : List Loc) (ls : Array Slot), Wo E A s [oC a_r 7 [.ref a_r_slots, .ref a_r_slotOf, .ref a_r_sets, .ref a_r_later, .ref a_r_laters, .int r_mayLeave, .int r_amount], aI E a_r_later 256 r_later_7, aI E a_r_laters 16 r_laters] H locs → lv_has ls 5 [(0, .ref a_r), (1, .int p1), (2, .int p2), (3, .int v3_5), (4, .int v4_6)] → f_X7_listLater_L7 p1 p2 kk_44_3 n v3_5 v4_6 r_later_7 = some (u_r_later, u_r_laters) → W p l e (Rm 1) s m (([.ref a_r, .int p1, .int p2] : List Value).toArray) below meth c H locs 0 0 Q (F0 m 7 ls []) := by
    intro n
    induction n with
    | zero => intro v3_5 v4_6 r_later_7 H locs ls hw hl hf; unfold f_X7_listLater_L7 at hf; cases hf
    | succ n ih =>
      intro v3_5 v4_6 r_later_7 H locs ls hw hl hf
      unfold f_X7_listLater_L7 at hf
      refine lv_iload S.1 S.2.1 dX7_listLater_7 (lv_at hl 4 rfl) ?_
      refine lv_bipush (v := 16) S.1 S.2.1 dX7_listLater_9 (by decide) ?_
      refine lv_icmp_ge (tgt := 44) S.1 S.2.1 dX7_listLater_11 (by decide) (fun h_8 => ?_) (fun h_8 => ?_)
      · replace hf := if_t h_8 hf
        exact hJ_kk_44_3 v3_5 r_later_7 _ _ _ hw (lv_sub hl [0, 1, 3] rfl) hf
      · replace hf := if_f h_8 hf
        refine lv_iload_n S.1 S.2.1 dX7_listLater_14 rfl (lv_at hl 2 rfl) ?_
        refine lv_iload S.1 S.2.1 dX7_listLater_15 (lv_at hl 4 rfl) ?_
        refine g_calli (r := (f_X11_has p2 v4_6)) (wc := []) (wr := [oC a_r 7 [.ref a_r_slots, .ref a_r_slotOf, .ref a_r_sets, .ref a_r_later, .ref a_r_laters, .int r_mayLeave, .int r_amount], aI E a_r_later 256 r_later_7, aI E a_r_laters 16 r_laters]) (w1 := []) (va_runSN (As := [.int p2, .int v4_6]) (rest := []) S (c_X11_has l E p2 v4_6 (f_X11_has p2 v4_6) rfl _) ⟨(va_cnB 2 S.2.2.2.2 gX7_listLater_X11_has_n43 rfl rfl rfl (hN.2 _ w43) kIX11 (by decide +kernel) (rm_le (by omega) (by decide))), kSX11_has, trivial⟩ (preS hN hw [] rfl rfl) rfl rfl hl.1 rfl (lv_room (Nat.le_of_ble_eq_true rfl)) dX7_listLater_17 ⟨Nat.le_refl _, Nat.le_refl _⟩) hw hA [] [0, 1, 2] rfl rfl rfl (by decide) (fun H locs hw => ?_)
        have hw : Wo E A s [oC a_r 7 [.ref a_r_slots, .ref a_r_slotOf, .ref a_r_sets, .ref a_r_later, .ref a_r_laters, .int r_mayLeave, .int r_amount], aI E a_r_later 256 r_later_7, aI E a_r_laters 16 r_laters] H _ := hw
        refine lv_if_eq (tgt := 38) S.1 S.2.1 dX7_listLater_20 (by decide) (fun h_11 => ?_) (fun h_11 => ?_)
        · replace hf := if_t h_11 hf
          refine lv_iinc (v := (v4_6 + 1)) (lv' := [(4, .int (v4_6 + 1)), (0, .ref a_r), (1, .int p1), (2, .int p2), (3, .int v3_5)]) S.1 S.2.1 dX7_listLater_38 hl (k := 4) rfl rfl (by decide) rfl (fun ls hl => ?_)
          refine lv_goto (tgt := 7) S.1 S.2.1 dX7_listLater_41 (by decide) ?_
          exact ih v3_5 (v4_6 + 1) r_later_7 _ _ _ hw (lv_sub hl [1, 2, 3, 4, 0] rfl) hf
        · replace hf := if_f h_11 hf
          refine lv_aload_n S.1 S.2.1 dX7_listLater_23 rfl (lv_at hl 0 rfl) ?_
          refine g_get S hN hw (C := RX7) (T := TX7) (N := 7) (ci := 7) (v := .ref a_r_later) 0 3 iX7 k21 dX7_listLater_24 rfl rfl (by decide) rfl ?_
          refine lv_iload_n S.1 S.2.1 dX7_listLater_27 rfl (lv_at hl 1 rfl) ?_
          refine lv_iload_n S.1 S.2.1 dX7_listLater_28 rfl (lv_at hl 3 rfl) ?_
          refine g_calli (r := (f_X11_cell p1 v3_5)) (wc := []) (wr := [oC a_r 7 [.ref a_r_slots, .ref a_r_slotOf, .ref a_r_sets, .ref a_r_later, .ref a_r_laters, .int r_mayLeave, .int r_amount], aI E a_r_later 256 r_later_7, aI E a_r_laters 16 r_laters]) (w1 := []) (va_runSN (As := [.int p1, .int v3_5]) (rest := [.ref a_r_later]) S (c_X11_cell l E p1 v3_5 (f_X11_cell p1 v3_5) rfl _) ⟨(va_cnB 2 S.2.2.2.2 gX7_listLater_X11_cell_n47 rfl rfl rfl (hN.2 _ w47) kIX11 (by decide +kernel) (rm_le (by omega) (by decide))), kSX11_cell, trivial⟩ (preS hN hw [] rfl rfl) rfl rfl hl.1 rfl (lv_room (Nat.le_of_ble_eq_true rfl)) dX7_listLater_29 ⟨Nat.le_refl _, Nat.le_refl _⟩) hw hA [] [0, 1, 2] rfl rfl rfl (by decide) (fun H locs hw => ?_)
          have hw : Wo E A s [oC a_r 7 [.ref a_r_slots, .ref a_r_slotOf, .ref a_r_sets, .ref a_r_later, .ref a_r_laters, .int r_mayLeave, .int r_amount], aI E a_r_later 256 r_later_7, aI E a_r_laters 16 r_laters] H _ := hw
          refine lv_iload S.1 S.2.1 dX7_listLater_32 (lv_at hl 4 rfl) ?_
          obtain ⟨hi_13, hf⟩ := wr_s hf
          refine g_iast (n := 256) (f := r_later_7) (w1 := [oC a_r 7 [.ref a_r_slots, .ref a_r_slotOf, .ref a_r_sets, .ref a_r_later, .ref a_r_laters, .int r_mayLeave, .int r_amount], aI E a_r_later 256 (va_up r_later_7 ((f_X11_cell p1 v3_5) : Int32).toNatClampNeg v4_6), aI E a_r_laters 16 r_laters]) S hN hw 1 hi_13 dX7_listLater_34 rfl rfl (fun H locs hw => ?_)
          generalize va_up r_later_7 ((f_X11_cell p1 v3_5) : Int32).toNatClampNeg v4_6 = r_later_14 at hf hw
          refine lv_iinc (v := (v3_5 + 1)) (lv' := [(3, .int (v3_5 + 1)), (0, .ref a_r), (1, .int p1), (2, .int p2), (4, .int v4_6)]) S.1 S.2.1 dX7_listLater_35 hl (k := 3) rfl rfl (by decide) rfl (fun ls hl => ?_)
          refine lv_iinc (v := (v4_6 + 1)) (lv' := [(4, .int (v4_6 + 1)), (3, .int (v3_5 + 1)), (0, .ref a_r), (1, .int p1), (2, .int p2)]) S.1 S.2.1 dX7_listLater_38 hl (k := 4) rfl rfl (by decide) rfl (fun ls hl => ?_)
          refine lv_goto (tgt := 7) S.1 S.2.1 dX7_listLater_41 (by decide) ?_
          exact ih (v3_5 + 1) (v4_6 + 1) r_later_14 _ _ _ hw (lv_sub hl [2, 3, 4, 1, 0] rfl) hf
  exact hL_7_14 F 0 (p1 + 1) r_later _ _ _ hw (lv_sub hl [2, 3, 4, 1, 0] rfl) hf
def f_X7_isTaken (p1 : Int32) (r_slots : Nat → Int32) (r_slotOf : Nat → Int32) (r_amount : Int32) : Option (Int32) :=
  rd 4096 r_slots p1 (fun y_1 => (if r_amount ≤ y_1 then some 0 else rd 2584 r_slotOf y_1 (fun y_3 => (if y_3 = p1 then some 1 else some 0))))
set_option maxHeartbeats 4000000 in
set_option maxRecDepth 100000 in
theorem c_X7_isTaken (l : Launch) (E : Ev) (r_slots : Nat → Int32) (a_r_slots : Nat) (r_slotOf : Nat → Int32) (a_r_slotOf : Nat) (a_r_sets : Nat) (a_r_later : Nat) (a_r_laters : Nat) (r_mayLeave : Int32) (r_amount : Int32) (a_r : Nat) (p1 : Int32) (ro : Int32) (hf : f_X7_isTaken p1 r_slots r_slotOf r_amount = some ro) :
    CtI l yX7_isTaken wsX7_isTaken (Rm 0) E [.ref a_r, .int p1] [oC a_r 7 [.ref a_r_slots, .ref a_r_slotOf, .ref a_r_sets, .ref a_r_later, .ref a_r_laters, .int r_mayLeave, .int r_amount], aI E a_r_slots 4096 r_slots, aI E a_r_slotOf 2584 r_slotOf] ro [oC a_r 7 [.ref a_r_slots, .ref a_r_slotOf, .ref a_r_sets, .ref a_r_later, .ref a_r_laters, .int r_mayLeave, .int r_amount], aI E a_r_slots 4096 r_slots, aI E a_r_slotOf 2584 r_slotOf] := by
  refine ofZ (cc := cX7_isTaken) (maxL := 3) (own := RX7) rfl rfl (by decide) rfl rfl ?_
  intro p e s m below meth c A ls Q S hnm hN hw hA hl0 hE
  have hl : lv_has ls 3 [(0, .ref a_r), (1, .int p1)] := hl0 _ (lv_entry [.ref a_r, .int p1] (n := 3) (Nat.le_of_ble_eq_true rfl))
  have iX7 : ∀ w ∈ wsX70, w ∈ wsX7_isTaken := by decide +kernel
  have k11 := S.2.2.2.2 (.fieldLink RX7 11 "PairMatching$Rests" "slots" "[I") (by decide +kernel)
  have k15 := S.2.2.2.2 (.fieldLink RX7 15 "PairMatching$Rests" "slotOf" "[I") (by decide +kernel)
  have k31 := S.2.2.2.2 (.fieldLink RX7 31 "PairMatching$Rests" "amount" "I") (by decide +kernel)
  unfold f_X7_isTaken at hf
  refine lv_aload_n S.1 S.2.1 dX7_isTaken_0 rfl (lv_at hl 0 rfl) ?_
  refine g_get S hN hw (C := RX7) (T := TX7) (N := 7) (ci := 7) (v := .ref a_r_slots) 0 0 iX7 k11 dX7_isTaken_1 rfl rfl (by decide) rfl ?_
  refine lv_iload_n S.1 S.2.1 dX7_isTaken_4 rfl (lv_at hl 1 rfl) ?_
  obtain ⟨hi_0, hf⟩ := rd_s hf
  refine g_iald (n := 4096) (f := r_slots) S hN hw 1 hi_0 dX7_isTaken_5 rfl ?_
  generalize r_slots (p1 : Int32).toNatClampNeg = y_1 at hf ⊢
  refine lv_istore_n (lv' := [(2, .int y_1), (0, .ref a_r), (1, .int p1)]) S.1 S.2.1 dX7_isTaken_6 rfl hl (by decide) rfl (fun ls hl => ?_)
  refine lv_iload_n S.1 S.2.1 dX7_isTaken_7 rfl (lv_at hl 0 rfl) ?_
  refine lv_aload_n S.1 S.2.1 dX7_isTaken_8 rfl (lv_at hl 1 rfl) ?_
  refine g_get S hN hw (C := RX7) (T := TX7) (N := 7) (ci := 7) (v := .int r_amount) 0 6 iX7 k31 dX7_isTaken_9 rfl rfl (by decide) rfl ?_
  refine lv_icmp_ge (tgt := 29) S.1 S.2.1 dX7_isTaken_12 (by decide) (fun h_2 => ?_) (fun h_2 => ?_)
  · replace hf := if_t h_2 hf
    refine lv_iconst (v := 0) S.1 S.2.1 dX7_isTaken_29 (by decide) ?_
    cases hf
    exact hE _ _ _ _ hw dX7_isTaken_30 (by decide)
  · replace hf := if_f h_2 hf
    refine lv_aload_n S.1 S.2.1 dX7_isTaken_15 rfl (lv_at hl 1 rfl) ?_
    refine g_get S hN hw (C := RX7) (T := TX7) (N := 7) (ci := 7) (v := .ref a_r_slotOf) 0 1 iX7 k15 dX7_isTaken_16 rfl rfl (by decide) rfl ?_
    refine lv_iload_n S.1 S.2.1 dX7_isTaken_19 rfl (lv_at hl 0 rfl) ?_
    obtain ⟨hi_2, hf⟩ := rd_s hf
    refine g_iald (n := 2584) (f := r_slotOf) S hN hw 2 hi_2 dX7_isTaken_20 rfl ?_
    generalize r_slotOf (y_1 : Int32).toNatClampNeg = y_3 at hf ⊢
    refine lv_iload_n S.1 S.2.1 dX7_isTaken_21 rfl (lv_at hl 2 rfl) ?_
    refine lv_icmp_ne (tgt := 29) S.1 S.2.1 dX7_isTaken_22 (by decide) (fun h_4 => ?_) (fun h_4 => ?_)
    · replace hf := if_f h_4 hf
      refine lv_iconst (v := 0) S.1 S.2.1 dX7_isTaken_29 (by decide) ?_
      cases hf
      exact hE _ _ _ _ hw dX7_isTaken_30 (by decide)
    · replace hf := if_t h_4 hf
      refine lv_iconst (v := 1) S.1 S.2.1 dX7_isTaken_25 (by decide) ?_
      refine lv_goto (tgt := 30) S.1 S.2.1 dX7_isTaken_26 (by decide) ?_
      cases hf
      exact hE _ _ _ _ hw dX7_isTaken_30 (by decide)
def f_X7_append_L21 (r_slots : Nat → Int32) (r_slotOf : Nat → Int32) (r_amount : Int32) (kk_50_6 : Int32 → Option (Int32 × (Nat → Int32) × (Nat → Int32) × (Nat → Int32))) : Nat → Int32 → Int32 → Option (Int32 × (Nat → Int32) × (Nat → Int32) × (Nat → Int32))
  | 0, _, _ => none
  | n + 1, v2_8, v3_9 => (if 4096 ≤ v3_9 then (kk_50_6 v2_8) else (f_X7_isTaken v2_8 r_slots r_slotOf r_amount).bind (fun r_11 => (if r_11 = 0 then (kk_50_6 v2_8) else (f_X7_append_L21 r_slots r_slotOf r_amount kk_50_6 n ((v2_8 + 1) &&& 4095) (v3_9 + 1)))))
def f_X7_append (F : Nat) (p1 : Int32) (r_slots : Nat → Int32) (r_slotOf : Nat → Int32) (r_sets : Nat → Int32) (r_amount : Int32) : Option (Int32 × (Nat → Int32) × (Nat → Int32) × (Nat → Int32)) :=
  (if r_amount = 2584 then some (r_amount, r_slots, r_slotOf, r_sets) else ltt ((((p1 * (-1640531535)) : Int32).toUInt32 >>> ((20 : Int32).toUInt32 &&& Int32.toUInt32 31)).toInt32) (fun x_2 => (jn (fun (v2_3 : Int32) => wr 4096 r_slots v2_3 r_amount (fun r_slots_4 => wr 2584 r_slotOf r_amount v2_3 (fun r_slotOf_5 => wr 2584 r_sets r_amount p1 (fun r_sets_6 => some ((r_amount + 1), r_slots_4, r_slotOf_5, r_sets_6))))) (fun kk_50_6 => (f_X7_append_L21 r_slots r_slotOf r_amount kk_50_6 F x_2 0)))))
set_option maxHeartbeats 4000000 in
set_option maxRecDepth 100000 in
theorem c_X7_append (l : Launch) (E : Ev) (F : Nat) (r_slots : Nat → Int32) (a_r_slots : Nat) (r_slotOf : Nat → Int32) (a_r_slotOf : Nat) (r_sets : Nat → Int32) (a_r_sets : Nat) (a_r_later : Nat) (a_r_laters : Nat) (r_mayLeave : Int32) (r_amount : Int32) (a_r : Nat) (p1 : Int32) (u_r_amount : Int32) (u_r_slots : Nat → Int32) (u_r_slotOf : Nat → Int32) (u_r_sets : Nat → Int32) (hf : f_X7_append F p1 r_slots r_slotOf r_sets r_amount = some (u_r_amount, u_r_slots, u_r_slotOf, u_r_sets)) :
    CtV l yX7_append wsX7_append (Rm 1) E [.ref a_r, .int p1] [oC a_r 7 [.ref a_r_slots, .ref a_r_slotOf, .ref a_r_sets, .ref a_r_later, .ref a_r_laters, .int r_mayLeave, .int r_amount], aI E a_r_slots 4096 r_slots, aI E a_r_slotOf 2584 r_slotOf, aI E a_r_sets 2584 r_sets] [oC a_r 7 [.ref a_r_slots, .ref a_r_slotOf, .ref a_r_sets, .ref a_r_later, .ref a_r_laters, .int r_mayLeave, .int u_r_amount], aI E a_r_slots 4096 u_r_slots, aI E a_r_slotOf 2584 u_r_slotOf, aI E a_r_sets 2584 u_r_sets] := by
  refine ofV (cc := cX7_append) (maxL := 4) (own := RX7) rfl rfl (by decide) rfl rfl ?_
  intro p e s m below meth c A ls Q S hnm hN hw hA hl0 hE
  have hl : lv_has ls 4 [(0, .ref a_r), (1, .int p1)] := hl0 _ (lv_entry [.ref a_r, .int p1] (n := 4) (Nat.le_of_ble_eq_true rfl))
  have iX7 : ∀ w ∈ wsX70, w ∈ wsX7_append := by decide +kernel
  have k11 := S.2.2.2.2 (.fieldLink RX7 11 "PairMatching$Rests" "slots" "[I") (by decide +kernel)
  have k15 := S.2.2.2.2 (.fieldLink RX7 15 "PairMatching$Rests" "slotOf" "[I") (by decide +kernel)
  have k18 := S.2.2.2.2 (.fieldLink RX7 18 "PairMatching$Rests" "sets" "[I") (by decide +kernel)
  have k31 := S.2.2.2.2 (.fieldLink RX7 31 "PairMatching$Rests" "amount" "I") (by decide +kernel)
  have k42 := S.2.2.2.2 (.constant RX7 42 (-1640531535)) (by decide +kernel)
  unfold f_X7_append at hf
  refine lv_aload_n S.1 S.2.1 dX7_append_0 rfl (lv_at hl 0 rfl) ?_
  refine g_get S hN hw (C := RX7) (T := TX7) (N := 7) (ci := 7) (v := .int r_amount) 0 6 iX7 k31 dX7_append_1 rfl rfl (by decide) rfl ?_
  refine lv_sipush (v := 2584) S.1 S.2.1 dX7_append_4 (by decide) ?_
  refine lv_icmp_ne (tgt := 11) S.1 S.2.1 dX7_append_7 (by decide) (fun h_1 => ?_) (fun h_1 => ?_)
  · replace hf := if_f h_1 hf
    refine lv_iload_n S.1 S.2.1 dX7_append_11 rfl (lv_at hl 1 rfl) ?_
    refine lv_ldc (v := (-1640531535)) S.1 S.2.1 S.2.2.2.1 k42 dX7_append_12 ?_
    refine lv_imul S.1 S.2.1 dX7_append_14 ?_
    refine lv_bipush (v := 20) S.1 S.2.1 dX7_append_15 (by decide) ?_
    refine lv_iushr S.1 S.2.1 dX7_append_17 rfl ?_
    obtain ⟨x_2, he_2, hf⟩ := ltt_s hf
    rw [← he_2]
    refine lv_istore_n (lv' := [(2, .int x_2), (0, .ref a_r), (1, .int p1)]) S.1 S.2.1 dX7_append_18 rfl hl (by decide) rfl (fun ls hl => ?_)
    refine lv_iconst (v := 0) S.1 S.2.1 dX7_append_19 (by decide) ?_
    refine lv_istore_n (lv' := [(3, .int 0), (2, .int x_2), (0, .ref a_r), (1, .int p1)]) S.1 S.2.1 dX7_append_20 rfl hl (by decide) rfl (fun ls hl => ?_)
    obtain ⟨kk_50_6, ekk_50_6, hf⟩ := jn_s hf
    have hJ_kk_50_6 : ∀ (v2_3 : Int32) (H : Heap) (locs : List Loc) (ls : Array Slot), Wo E A s [oC a_r 7 [.ref a_r_slots, .ref a_r_slotOf, .ref a_r_sets, .ref a_r_later, .ref a_r_laters, .int r_mayLeave, .int r_amount], aI E a_r_slots 4096 r_slots, aI E a_r_slotOf 2584 r_slotOf, aI E a_r_sets 2584 r_sets] H locs → lv_has ls 4 [(0, .ref a_r), (1, .int p1), (2, .int v2_3)] → kk_50_6 v2_3 = some (u_r_amount, u_r_slots, u_r_slotOf, u_r_sets) → W p l e (Rm 1) s m (([.ref a_r, .int p1] : List Value).toArray) below meth c H locs 0 0 Q (F0 m 50 ls []) := by
      intro v2_3 H locs ls hw hl hf
      rw [ekk_50_6] at hf
      refine lv_aload_n S.1 S.2.1 dX7_append_50 rfl (lv_at hl 0 rfl) ?_
      refine g_get S hN hw (C := RX7) (T := TX7) (N := 7) (ci := 7) (v := .ref a_r_slots) 0 0 iX7 k11 dX7_append_51 rfl rfl (by decide) rfl ?_
      refine lv_iload_n S.1 S.2.1 dX7_append_54 rfl (lv_at hl 2 rfl) ?_
      refine lv_aload_n S.1 S.2.1 dX7_append_55 rfl (lv_at hl 0 rfl) ?_
      refine g_get S hN hw (C := RX7) (T := TX7) (N := 7) (ci := 7) (v := .int r_amount) 0 6 iX7 k31 dX7_append_56 rfl rfl (by decide) rfl ?_
      obtain ⟨hi_3, hf⟩ := wr_s hf
      refine g_iast (n := 4096) (f := r_slots) (w1 := [oC a_r 7 [.ref a_r_slots, .ref a_r_slotOf, .ref a_r_sets, .ref a_r_later, .ref a_r_laters, .int r_mayLeave, .int r_amount], aI E a_r_slots 4096 (va_up r_slots (v2_3 : Int32).toNatClampNeg r_amount), aI E a_r_slotOf 2584 r_slotOf, aI E a_r_sets 2584 r_sets]) S hN hw 1 hi_3 dX7_append_59 rfl rfl (fun H locs hw => ?_)
      generalize va_up r_slots (v2_3 : Int32).toNatClampNeg r_amount = r_slots_4 at hf hw
      refine lv_aload_n S.1 S.2.1 dX7_append_60 rfl (lv_at hl 0 rfl) ?_
      refine g_get S hN hw (C := RX7) (T := TX7) (N := 7) (ci := 7) (v := .ref a_r_slotOf) 0 1 iX7 k15 dX7_append_61 rfl rfl (by decide) rfl ?_
      refine lv_aload_n S.1 S.2.1 dX7_append_64 rfl (lv_at hl 0 rfl) ?_
      refine g_get S hN hw (C := RX7) (T := TX7) (N := 7) (ci := 7) (v := .int r_amount) 0 6 iX7 k31 dX7_append_65 rfl rfl (by decide) rfl ?_
      refine lv_iload_n S.1 S.2.1 dX7_append_68 rfl (lv_at hl 2 rfl) ?_
      obtain ⟨hi_4, hf⟩ := wr_s hf
      refine g_iast (n := 2584) (f := r_slotOf) (w1 := [oC a_r 7 [.ref a_r_slots, .ref a_r_slotOf, .ref a_r_sets, .ref a_r_later, .ref a_r_laters, .int r_mayLeave, .int r_amount], aI E a_r_slots 4096 r_slots_4, aI E a_r_slotOf 2584 (va_up r_slotOf (r_amount : Int32).toNatClampNeg v2_3), aI E a_r_sets 2584 r_sets]) S hN hw 2 hi_4 dX7_append_69 rfl rfl (fun H locs hw => ?_)
      generalize va_up r_slotOf (r_amount : Int32).toNatClampNeg v2_3 = r_slotOf_5 at hf hw
      refine lv_aload_n S.1 S.2.1 dX7_append_70 rfl (lv_at hl 0 rfl) ?_
      refine g_get S hN hw (C := RX7) (T := TX7) (N := 7) (ci := 7) (v := .ref a_r_sets) 0 2 iX7 k18 dX7_append_71 rfl rfl (by decide) rfl ?_
      refine lv_aload_n S.1 S.2.1 dX7_append_74 rfl (lv_at hl 0 rfl) ?_
      refine g_get S hN hw (C := RX7) (T := TX7) (N := 7) (ci := 7) (v := .int r_amount) 0 6 iX7 k31 dX7_append_75 rfl rfl (by decide) rfl ?_
      refine lv_iload_n S.1 S.2.1 dX7_append_78 rfl (lv_at hl 1 rfl) ?_
      obtain ⟨hi_5, hf⟩ := wr_s hf
      refine g_iast (n := 2584) (f := r_sets) (w1 := [oC a_r 7 [.ref a_r_slots, .ref a_r_slotOf, .ref a_r_sets, .ref a_r_later, .ref a_r_laters, .int r_mayLeave, .int r_amount], aI E a_r_slots 4096 r_slots_4, aI E a_r_slotOf 2584 r_slotOf_5, aI E a_r_sets 2584 (va_up r_sets (r_amount : Int32).toNatClampNeg p1)]) S hN hw 3 hi_5 dX7_append_79 rfl rfl (fun H locs hw => ?_)
      generalize va_up r_sets (r_amount : Int32).toNatClampNeg p1 = r_sets_6 at hf hw
      refine lv_aload_n S.1 S.2.1 dX7_append_80 rfl (lv_at hl 0 rfl) ?_
      refine lv_dup S.1 S.2.1 dX7_append_81 rfl ?_
      refine g_get S hN hw (C := RX7) (T := TX7) (N := 7) (ci := 7) (v := .int r_amount) 0 6 iX7 k31 dX7_append_82 rfl rfl (by decide) rfl ?_
      refine lv_iconst (v := 1) S.1 S.2.1 dX7_append_85 (by decide) ?_
      refine lv_iadd S.1 S.2.1 dX7_append_86 ?_
      refine g_put S hN hw (C := RX7) (T := TX7) (N := 7) (ci := 7) (ty := .int) (w1 := [oC a_r 7 [.ref a_r_slots, .ref a_r_slotOf, .ref a_r_sets, .ref a_r_later, .ref a_r_laters, .int r_mayLeave, .int (r_amount + 1)], aI E a_r_slots 4096 r_slots_4, aI E a_r_slotOf 2584 r_slotOf_5, aI E a_r_sets 2584 r_sets_6]) 0 6 iX7 k31 tyX7 tyX7_ok nmX7 dX7_append_87 rfl rfl (by decide) rfl (by decide +kernel) rfl rfl (Nat.le_of_ble_eq_true rfl) rfl (fun H locs hw => ?_)
      cases hf
      exact hE _ _ _ _ hw dX7_append_90
    have hL_21_13 : ∀ (n : Nat) (v2_8 : Int32) (v3_9 : Int32) (H : Heap) (locs : List Loc) (ls : Array Slot), Wo E A s [oC a_r 7 [.ref a_r_slots, .ref a_r_slotOf, .ref a_r_sets, .ref a_r_later, .ref a_r_laters, .int r_mayLeave, .int r_amount], aI E a_r_slots 4096 r_slots, aI E a_r_slotOf 2584 r_slotOf, aI E a_r_sets 2584 r_sets] H locs → lv_has ls 4 [(0, .ref a_r), (1, .int p1), (2, .int v2_8), (3, .int v3_9)] → f_X7_append_L21 r_slots r_slotOf r_amount kk_50_6 n v2_8 v3_9 = some (u_r_amount, u_r_slots, u_r_slotOf, u_r_sets) → W p l e (Rm 1) s m (([.ref a_r, .int p1] : List Value).toArray) below meth c H locs 0 0 Q (F0 m 21 ls []) := by
      intro n
      induction n with
      | zero => intro v2_8 v3_9 H locs ls hw hl hf; unfold f_X7_append_L21 at hf; cases hf
      | succ n ih =>
        intro v2_8 v3_9 H locs ls hw hl hf
        unfold f_X7_append_L21 at hf
        refine lv_iload_n S.1 S.2.1 dX7_append_21 rfl (lv_at hl 3 rfl) ?_
        refine lv_sipush (v := 4096) S.1 S.2.1 dX7_append_22 (by decide) ?_
        refine lv_icmp_ge (tgt := 50) S.1 S.2.1 dX7_append_25 (by decide) (fun h_10 => ?_) (fun h_10 => ?_)
        · replace hf := if_t h_10 hf
          exact hJ_kk_50_6 v2_8 _ _ _ hw (lv_sub hl [0, 1, 2] rfl) hf
        · replace hf := if_f h_10 hf
          refine lv_aload_n S.1 S.2.1 dX7_append_28 rfl (lv_at hl 0 rfl) ?_
          refine lv_iload_n S.1 S.2.1 dX7_append_29 rfl (lv_at hl 2 rfl) ?_
          obtain ⟨r_11, hc_11, hf⟩ := bd_s hf
          refine g_calli (r := r_11) (wc := [oC a_r 7 [.ref a_r_slots, .ref a_r_slotOf, .ref a_r_sets, .ref a_r_later, .ref a_r_laters, .int r_mayLeave, .int r_amount], aI E a_r_slots 4096 r_slots, aI E a_r_slotOf 2584 r_slotOf]) (wr := [aI E a_r_sets 2584 r_sets]) (w1 := [oC a_r 7 [.ref a_r_slots, .ref a_r_slotOf, .ref a_r_sets, .ref a_r_later, .ref a_r_laters, .int r_mayLeave, .int r_amount], aI E a_r_slots 4096 r_slots, aI E a_r_slotOf 2584 r_slotOf]) (va_runV (As := [.int v2_8]) (rest := []) S (c_X7_isTaken l E r_slots a_r_slots r_slotOf a_r_slotOf a_r_sets a_r_later a_r_laters r_mayLeave r_amount a_r v2_8 r_11 hc_11 _) (cwV 1 S.2.2.2.2 gX7_append_X7_isTaken rfl rfl rfl (by decide +kernel) (rm_le (by omega) (by decide))) (preV (q := (RX7, TX7, 7)) hN hw [0, 1, 2] rfl rfl rfl rfl) rfl rfl hl.1 rfl (lv_room (Nat.le_of_ble_eq_true rfl)) dX7_append_30 ⟨Nat.le_refl _, Nat.le_refl _⟩) hw hA [0, 1, 2] [3] rfl rfl rfl (by decide) (fun H locs hw => ?_)
          have hw : Wo E A s [aI E a_r_sets 2584 r_sets, oC a_r 7 [.ref a_r_slots, .ref a_r_slotOf, .ref a_r_sets, .ref a_r_later, .ref a_r_laters, .int r_mayLeave, .int r_amount], aI E a_r_slots 4096 r_slots, aI E a_r_slotOf 2584 r_slotOf] H _ := hw
          refine lv_if_eq (tgt := 50) S.1 S.2.1 dX7_append_33 (by decide) (fun h_13 => ?_) (fun h_13 => ?_)
          · replace hf := if_t h_13 hf
            exact hJ_kk_50_6 v2_8 _ _ _ (hw.sub [1, 2, 3, 0] rfl rfl) (lv_sub hl [0, 1, 2] rfl) hf
          · replace hf := if_f h_13 hf
            refine lv_iload_n S.1 S.2.1 dX7_append_36 rfl (lv_at hl 2 rfl) ?_
            refine lv_iconst (v := 1) S.1 S.2.1 dX7_append_37 (by decide) ?_
            refine lv_iadd S.1 S.2.1 dX7_append_38 ?_
            refine lv_sipush (v := 4095) S.1 S.2.1 dX7_append_39 (by decide) ?_
            refine lv_iand S.1 S.2.1 dX7_append_42 ?_
            refine lv_istore_n (lv' := [(2, .int ((v2_8 + 1) &&& 4095)), (0, .ref a_r), (1, .int p1), (3, .int v3_9)]) S.1 S.2.1 dX7_append_43 rfl hl (by decide) rfl (fun ls hl => ?_)
            refine lv_iinc (v := (v3_9 + 1)) (lv' := [(3, .int (v3_9 + 1)), (2, .int ((v2_8 + 1) &&& 4095)), (0, .ref a_r), (1, .int p1)]) S.1 S.2.1 dX7_append_44 hl (k := 3) rfl rfl (by decide) rfl (fun ls hl => ?_)
            refine lv_goto (tgt := 21) S.1 S.2.1 dX7_append_47 (by decide) ?_
            exact ih ((v2_8 + 1) &&& 4095) (v3_9 + 1) _ _ _ (hw.sub [1, 2, 3, 0] rfl rfl) (lv_sub hl [2, 3, 1, 0] rfl) hf
    exact hL_21_13 F x_2 0 _ _ _ hw (lv_sub hl [2, 3, 1, 0] rfl) hf
  · replace hf := if_t h_1 hf
    cases hf
    exact hE _ _ _ _ hw dX7_append_10
def f_X7_visit_L51 (r_later : Nat → Int32) (r_laters : Nat → Int32) (p1 : Int32) (p2 : Int32) (rec : Int32 → Int32 → Int32 → (Nat → Int32) → (Nat → Int32) → (Nat → Int32) → Option (Int32 × (Nat → Int32) × (Nat → Int32) × (Nat → Int32))) (kk_107_26 : Int32 → (Nat → Int32) → (Nat → Int32) → (Nat → Int32) → Option (Int32 × (Nat → Int32) × (Nat → Int32) × (Nat → Int32))) : Nat → Int32 → (Nat → Int32) → (Nat → Int32) → (Nat → Int32) → Int32 → Option (Int32 × (Nat → Int32) × (Nat → Int32) × (Nat → Int32))
  | 0, _, _, _, _, _ => none
  | n + 1, v5_28, r_sets_29, r_slotOf_30, r_slots_31, r_amount_32 => rd 16 r_laters (f_X11_leastNode p1) (fun y_33 => (if y_33 ≤ v5_28 then (kk_107_26 r_amount_32 r_slots_31 r_slotOf_30 r_sets_29) else rd 256 r_later (f_X11_cell (f_X11_leastNode p1) v5_28) (fun y_37 => (if (f_X11_has (p1 &&& (p1 - 1)) y_37) = 0 then (f_X7_visit_L51 r_later r_laters p1 p2 rec kk_107_26 n (v5_28 + 1) r_sets_29 r_slotOf_30 r_slots_31 r_amount_32) else bd4 (rec ((p1 &&& (p1 - 1)) &&& (((1 : Int32) <<< (y_37 &&& 31)) ^^^ (-1))) (p2 + 1) r_amount_32 r_slots_31 r_slotOf_30 r_sets_29) (fun r_amount_41 r_slots_42 r_slotOf_43 r_sets_44 => (f_X7_visit_L51 r_later r_laters p1 p2 rec kk_107_26 n (v5_28 + 1) r_sets_44 r_slotOf_43 r_slots_42 r_amount_41))))))
def f_X7_visit (F : Nat) (r_later : Nat → Int32) (r_laters : Nat → Int32) (r_mayLeave : Int32) : Nat → Int32 → Int32 → Int32 → (Nat → Int32) → (Nat → Int32) → (Nat → Int32) → Option (Int32 × (Nat → Int32) × (Nat → Int32) × (Nat → Int32))
  | 0, _, _, _, _, _, _ => none
  | n + 1, p1, p2, r_amount, r_slots, r_slotOf, r_sets => (if 16 < p2 then some (r_amount, r_slots, r_slotOf, r_sets) else (f_X7_placeOf F p1 r_slots r_slotOf r_sets r_amount).bind (fun r_2 => (if r_2 = (-1) then (jn (fun (r_amount_5 : Int32) (r_slots_6 : Nat → Int32) (r_slotOf_7 : Nat → Int32) (r_sets_8 : Nat → Int32) => bd4 (f_X7_append F p1 r_slots_6 r_slotOf_7 r_sets_8 r_amount_5) (fun r_amount_10 r_slots_11 r_slotOf_12 r_sets_13 => some (r_amount_10, r_slots_11, r_slotOf_12, r_sets_13))) (fun jj_107_8 => (if p1 = 0 then (jj_107_8 r_amount r_slots r_slotOf r_sets) else (jn (fun (r_amount_18 : Int32) (r_slots_19 : Nat → Int32) (r_slotOf_20 : Nat → Int32) (r_sets_21 : Nat → Int32) => (jn (fun (r_amount_23 : Int32) (r_slots_24 : Nat → Int32) (r_slotOf_25 : Nat → Int32) (r_sets_26 : Nat → Int32) => (jj_107_8 r_amount_23 r_slots_24 r_slotOf_25 r_sets_26)) (fun kk_107_26 => (f_X7_visit_L51 r_later r_laters p1 p2 (f_X7_visit F r_later r_laters r_mayLeave n) kk_107_26 F 0 r_sets_21 r_slotOf_20 r_slots_19 r_amount_18)))) (fun jj_48_21 => (if r_mayLeave = 0 then (jj_48_21 r_amount r_slots r_slotOf r_sets) else bd4 ((f_X7_visit F r_later r_laters r_mayLeave n) (p1 &&& (p1 - 1)) (p2 + 1) r_amount r_slots r_slotOf r_sets) (fun r_amount_48 r_slots_49 r_slotOf_50 r_sets_51 => (jj_48_21 r_amount_48 r_slots_49 r_slotOf_50 r_sets_51)))))))) else some (r_amount, r_slots, r_slotOf, r_sets))))
set_option maxHeartbeats 4000000 in
set_option maxRecDepth 100000 in
theorem c_X7_visit (l : Launch) (E : Ev) (F : Nat) (a_r_slots : Nat) (a_r_slotOf : Nat) (a_r_sets : Nat) (r_later : Nat → Int32) (a_r_later : Nat) (r_laters : Nat → Int32) (a_r_laters : Nat) (r_mayLeave : Int32) (a_r : Nat) : ∀ (d : Nat) (p1 : Int32) (p2 : Int32) (r_amount : Int32) (r_slots : Nat → Int32) (r_slotOf : Nat → Int32) (r_sets : Nat → Int32) (u_r_amount : Int32) (u_r_slots : Nat → Int32) (u_r_slotOf : Nat → Int32) (u_r_sets : Nat → Int32) (hf : f_X7_visit F r_later r_laters r_mayLeave d p1 p2 r_amount r_slots r_slotOf r_sets = some (u_r_amount, u_r_slots, u_r_slotOf, u_r_sets)),
    CtV l yX7_visit wsX7_visit (Rm (2 + d)) E [.ref a_r, .int p1, .int p2] [oC a_r 7 [.ref a_r_slots, .ref a_r_slotOf, .ref a_r_sets, .ref a_r_later, .ref a_r_laters, .int r_mayLeave, .int r_amount], aI E a_r_slots 4096 r_slots, aI E a_r_slotOf 2584 r_slotOf, aI E a_r_sets 2584 r_sets, aI E a_r_later 256 r_later, aI E a_r_laters 16 r_laters] [oC a_r 7 [.ref a_r_slots, .ref a_r_slotOf, .ref a_r_sets, .ref a_r_later, .ref a_r_laters, .int r_mayLeave, .int u_r_amount], aI E a_r_slots 4096 u_r_slots, aI E a_r_slotOf 2584 u_r_slotOf, aI E a_r_sets 2584 u_r_sets, aI E a_r_later 256 r_later, aI E a_r_laters 16 r_laters] := by
  intro d
  induction d with
  | zero => intro p1 p2 r_amount r_slots r_slotOf r_sets u_r_amount u_r_slots u_r_slotOf u_r_sets hf; unfold f_X7_visit at hf; cases hf
  | succ d ihd =>
    intro p1 p2 r_amount r_slots r_slotOf r_sets u_r_amount u_r_slots u_r_slotOf u_r_sets hf
    refine ofV (cc := cX7_visit) (maxL := 7) (own := RX7) rfl rfl (by decide) rfl rfl ?_
    intro p e s m below meth c A ls Q S hnm hN hw hA hl0 hE
    have hl : lv_has ls 7 [(0, .ref a_r), (1, .int p1), (2, .int p2)] := hl0 _ (lv_entry [.ref a_r, .int p1, .int p2] (n := 7) (Nat.le_of_ble_eq_true rfl))
    have iX7 : ∀ w ∈ wsX70, w ∈ wsX7_visit := by decide +kernel
    have k21 := S.2.2.2.2 (.fieldLink RX7 21 "PairMatching$Rests" "later" "[I") (by decide +kernel)
    have k24 := S.2.2.2.2 (.fieldLink RX7 24 "PairMatching$Rests" "laters" "[I") (by decide +kernel)
    have k27 := S.2.2.2.2 (.fieldLink RX7 27 "PairMatching$Rests" "mayLeave" "Z") (by decide +kernel)
    have kIX11 := S.2.2.2.2 (.initialized RX11) (by decide +kernel)
    have kSX11_cell := S.2.2.2.2 (.static yX11_cell) (by decide +kernel)
    have kSX11_has := S.2.2.2.2 (.static yX11_has) (by decide +kernel)
    have kSX11_leastNode := S.2.2.2.2 (.static yX11_leastNode) (by decide +kernel)
    have w43 : Cond.methodLinkNest RX7 43 yX11_has "PairMatching" ∈ nestW := List.mem_of_getElem? (i := 59) rfl
    have w47 : Cond.methodLinkNest RX7 47 yX11_cell "PairMatching" ∈ nestW := List.mem_of_getElem? (i := 60) rfl
    have w55 : Cond.methodLinkNest RX7 55 yX11_leastNode "PairMatching" ∈ nestW := List.mem_of_getElem? (i := 61) rfl
    unfold f_X7_visit at hf
    refine lv_iload_n S.1 S.2.1 dX7_visit_0 rfl (lv_at hl 2 rfl) ?_
    refine lv_bipush (v := 16) S.1 S.2.1 dX7_visit_1 (by decide) ?_
    refine lv_icmp_gt (tgt := 15) S.1 S.2.1 dX7_visit_3 (by decide) (fun h_1 => ?_) (fun h_1 => ?_)
    · replace hf := if_t h_1 hf
      cases hf
      exact hE _ _ _ _ hw dX7_visit_15
    · replace hf := if_f h_1 hf
      refine lv_aload_n S.1 S.2.1 dX7_visit_6 rfl (lv_at hl 0 rfl) ?_
      refine lv_iload_n S.1 S.2.1 dX7_visit_7 rfl (lv_at hl 1 rfl) ?_
      obtain ⟨r_2, hc_2, hf⟩ := bd_s hf
      refine g_calli (r := r_2) (wc := [oC a_r 7 [.ref a_r_slots, .ref a_r_slotOf, .ref a_r_sets, .ref a_r_later, .ref a_r_laters, .int r_mayLeave, .int r_amount], aI E a_r_slots 4096 r_slots, aI E a_r_slotOf 2584 r_slotOf, aI E a_r_sets 2584 r_sets]) (wr := [aI E a_r_later 256 r_later, aI E a_r_laters 16 r_laters]) (w1 := [oC a_r 7 [.ref a_r_slots, .ref a_r_slotOf, .ref a_r_sets, .ref a_r_later, .ref a_r_laters, .int r_mayLeave, .int r_amount], aI E a_r_slots 4096 r_slots, aI E a_r_slotOf 2584 r_slotOf, aI E a_r_sets 2584 r_sets]) (va_runV (As := [.int p1]) (rest := []) S (c_X7_placeOf l E F r_slots a_r_slots r_slotOf a_r_slotOf r_sets a_r_sets a_r_later a_r_laters r_mayLeave r_amount a_r p1 r_2 hc_2 _) (cwV 1 S.2.2.2.2 gX7_visit_X7_placeOf rfl rfl rfl (by decide +kernel) (rm_le (by omega) (by decide))) (preV (q := (RX7, TX7, 7)) hN hw [0, 1, 2, 3] rfl rfl rfl rfl) rfl rfl hl.1 rfl (lv_room (Nat.le_of_ble_eq_true rfl)) dX7_visit_8 ⟨Nat.le_refl _, Nat.le_refl _⟩) hw hA [0, 1, 2, 3] [4, 5] rfl rfl rfl (by decide) (fun H locs hw => ?_)
      have hw : Wo E A s [aI E a_r_later 256 r_later, aI E a_r_laters 16 r_laters, oC a_r 7 [.ref a_r_slots, .ref a_r_slotOf, .ref a_r_sets, .ref a_r_later, .ref a_r_laters, .int r_mayLeave, .int r_amount], aI E a_r_slots 4096 r_slots, aI E a_r_slotOf 2584 r_slotOf, aI E a_r_sets 2584 r_sets] H _ := hw
      refine lv_iconst (v := (-1)) S.1 S.2.1 dX7_visit_11 (by decide) ?_
      refine lv_icmp_eq (tgt := 16) S.1 S.2.1 dX7_visit_12 (by decide) (fun h_4 => ?_) (fun h_4 => ?_)
      · replace hf := if_t h_4 hf
        refine lv_iload_n S.1 S.2.1 dX7_visit_16 rfl (lv_at hl 1 rfl) ?_
        obtain ⟨jj_107_8, ejj_107_8, hf⟩ := jn_s hf
        have hJ_jj_107_8 : ∀ (r_amount_5 : Int32) (r_slots_6 : Nat → Int32) (r_slotOf_7 : Nat → Int32) (r_sets_8 : Nat → Int32) (H : Heap) (locs : List Loc) (ls : Array Slot), Wo E A s [aI E a_r_later 256 r_later, aI E a_r_laters 16 r_laters, oC a_r 7 [.ref a_r_slots, .ref a_r_slotOf, .ref a_r_sets, .ref a_r_later, .ref a_r_laters, .int r_mayLeave, .int r_amount_5], aI E a_r_slots 4096 r_slots_6, aI E a_r_slotOf 2584 r_slotOf_7, aI E a_r_sets 2584 r_sets_8] H locs → lv_has ls 7 [(0, .ref a_r), (1, .int p1)] → jj_107_8 r_amount_5 r_slots_6 r_slotOf_7 r_sets_8 = some (u_r_amount, u_r_slots, u_r_slotOf, u_r_sets) → W p l e (Rm (2 + (d + 1))) s m (([.ref a_r, .int p1, .int p2] : List Value).toArray) below meth c H locs 0 0 Q (F0 m 107 ls []) := by
          intro r_amount_5 r_slots_6 r_slotOf_7 r_sets_8 H locs ls hw hl hf
          rw [ejj_107_8] at hf
          refine lv_aload_n S.1 S.2.1 dX7_visit_107 rfl (lv_at hl 0 rfl) ?_
          refine lv_iload_n S.1 S.2.1 dX7_visit_108 rfl (lv_at hl 1 rfl) ?_
          obtain ⟨r_amount_10, r_slots_11, r_slotOf_12, r_sets_13, hc_13, hf⟩ := bd4_s hf
          refine g_callv (wc := [oC a_r 7 [.ref a_r_slots, .ref a_r_slotOf, .ref a_r_sets, .ref a_r_later, .ref a_r_laters, .int r_mayLeave, .int r_amount_5], aI E a_r_slots 4096 r_slots_6, aI E a_r_slotOf 2584 r_slotOf_7, aI E a_r_sets 2584 r_sets_8]) (wr := [aI E a_r_later 256 r_later, aI E a_r_laters 16 r_laters]) (w1 := [oC a_r 7 [.ref a_r_slots, .ref a_r_slotOf, .ref a_r_sets, .ref a_r_later, .ref a_r_laters, .int r_mayLeave, .int r_amount_10], aI E a_r_slots 4096 r_slots_11, aI E a_r_slotOf 2584 r_slotOf_12, aI E a_r_sets 2584 r_sets_13]) (va_runV (As := [.int p1]) (rest := []) S (c_X7_append l E F r_slots_6 a_r_slots r_slotOf_7 a_r_slotOf r_sets_8 a_r_sets a_r_later a_r_laters r_mayLeave r_amount_5 a_r p1 r_amount_10 r_slots_11 r_slotOf_12 r_sets_13 hc_13 _) (cwV 1 S.2.2.2.2 gX7_visit_X7_append rfl rfl rfl (by decide +kernel) (rm_le (by omega) (by decide))) (preV (q := (RX7, TX7, 7)) hN hw [2, 3, 4, 5] rfl rfl rfl rfl) rfl rfl hl.1 rfl (lv_room (Nat.le_of_ble_eq_true rfl)) dX7_visit_109 ⟨Nat.le_refl _, Nat.le_refl _⟩) hw hA [2, 3, 4, 5] [0, 1] rfl rfl rfl (by decide) (fun H locs hw => ?_)
          have hw : Wo E A s [aI E a_r_later 256 r_later, aI E a_r_laters 16 r_laters, oC a_r 7 [.ref a_r_slots, .ref a_r_slotOf, .ref a_r_sets, .ref a_r_later, .ref a_r_laters, .int r_mayLeave, .int r_amount_10], aI E a_r_slots 4096 r_slots_11, aI E a_r_slotOf 2584 r_slotOf_12, aI E a_r_sets 2584 r_sets_13] H _ := hw
          cases hf
          exact hE _ _ _ _ (hw.sub [2, 3, 4, 5, 0, 1] rfl rfl) dX7_visit_112
        refine lv_if_eq (tgt := 107) S.1 S.2.1 dX7_visit_17 (by decide) (fun h_15 => ?_) (fun h_15 => ?_)
        · replace hf := if_t h_15 hf
          exact hJ_jj_107_8 r_amount r_slots r_slotOf r_sets _ _ _ hw (lv_sub hl [0, 1] rfl) hf
        · replace hf := if_f h_15 hf
          refine lv_iload_n S.1 S.2.1 dX7_visit_20 rfl (lv_at hl 1 rfl) ?_
          refine g_calli (r := (f_X11_leastNode p1)) (wc := []) (wr := [aI E a_r_later 256 r_later, aI E a_r_laters 16 r_laters, oC a_r 7 [.ref a_r_slots, .ref a_r_slotOf, .ref a_r_sets, .ref a_r_later, .ref a_r_laters, .int r_mayLeave, .int r_amount], aI E a_r_slots 4096 r_slots, aI E a_r_slotOf 2584 r_slotOf, aI E a_r_sets 2584 r_sets]) (w1 := []) (va_runSN (As := [.int p1]) (rest := []) S (c_X11_leastNode l E p1 (f_X11_leastNode p1) rfl _) ⟨(va_cnB 1 S.2.2.2.2 gX7_visit_X11_leastNode_n55 rfl rfl rfl (hN.2 _ w55) kIX11 (by decide +kernel) (rm_le (by omega) (by decide))), kSX11_leastNode, trivial⟩ (preS hN hw [] rfl rfl) rfl rfl hl.1 rfl (lv_room (Nat.le_of_ble_eq_true rfl)) dX7_visit_21 ⟨Nat.le_refl _, Nat.le_refl _⟩) hw hA [] [0, 1, 2, 3, 4, 5] rfl rfl rfl (by decide) (fun H locs hw => ?_)
          have hw : Wo E A s [aI E a_r_later 256 r_later, aI E a_r_laters 16 r_laters, oC a_r 7 [.ref a_r_slots, .ref a_r_slotOf, .ref a_r_sets, .ref a_r_later, .ref a_r_laters, .int r_mayLeave, .int r_amount], aI E a_r_slots 4096 r_slots, aI E a_r_slotOf 2584 r_slotOf, aI E a_r_sets 2584 r_sets] H _ := hw
          refine lv_istore_n (lv' := [(3, .int (f_X11_leastNode p1)), (0, .ref a_r), (1, .int p1), (2, .int p2)]) S.1 S.2.1 dX7_visit_24 rfl hl (by decide) rfl (fun ls hl => ?_)
          refine lv_iload_n S.1 S.2.1 dX7_visit_25 rfl (lv_at hl 2 rfl) ?_
          refine lv_iload_n S.1 S.2.1 dX7_visit_26 rfl (lv_at hl 2 rfl) ?_
          refine lv_iconst (v := 1) S.1 S.2.1 dX7_visit_27 (by decide) ?_
          refine lv_isub S.1 S.2.1 dX7_visit_28 ?_
          refine lv_iand S.1 S.2.1 dX7_visit_29 ?_
          refine lv_istore (lv' := [(4, .int (p1 &&& (p1 - 1))), (3, .int (f_X11_leastNode p1)), (0, .ref a_r), (1, .int p1), (2, .int p2)]) S.1 S.2.1 dX7_visit_30 hl (by decide) rfl (fun ls hl => ?_)
          refine lv_aload_n S.1 S.2.1 dX7_visit_32 rfl (lv_at hl 2 rfl) ?_
          refine g_get S hN hw (C := RX7) (T := TX7) (N := 7) (ci := 7) (v := .int r_mayLeave) 2 5 iX7 k27 dX7_visit_33 rfl rfl (by decide) rfl ?_
          obtain ⟨jj_48_21, ejj_48_21, hf⟩ := jn_s hf
          have hJ_jj_48_21 : ∀ (r_amount_18 : Int32) (r_slots_19 : Nat → Int32) (r_slotOf_20 : Nat → Int32) (r_sets_21 : Nat → Int32) (H : Heap) (locs : List Loc) (ls : Array Slot), Wo E A s [aI E a_r_later 256 r_later, aI E a_r_laters 16 r_laters, oC a_r 7 [.ref a_r_slots, .ref a_r_slotOf, .ref a_r_sets, .ref a_r_later, .ref a_r_laters, .int r_mayLeave, .int r_amount_18], aI E a_r_slots 4096 r_slots_19, aI E a_r_slotOf 2584 r_slotOf_20, aI E a_r_sets 2584 r_sets_21] H locs → lv_has ls 7 [(0, .ref a_r), (1, .int p1), (2, .int p2), (3, .int (f_X11_leastNode p1)), (4, .int (p1 &&& (p1 - 1)))] → jj_48_21 r_amount_18 r_slots_19 r_slotOf_20 r_sets_21 = some (u_r_amount, u_r_slots, u_r_slotOf, u_r_sets) → W p l e (Rm (2 + (d + 1))) s m (([.ref a_r, .int p1, .int p2] : List Value).toArray) below meth c H locs 0 0 Q (F0 m 48 ls []) := by
            intro r_amount_18 r_slots_19 r_slotOf_20 r_sets_21 H locs ls hw hl hf
            rw [ejj_48_21] at hf
            refine lv_iconst (v := 0) S.1 S.2.1 dX7_visit_48 (by decide) ?_
            refine lv_istore (lv' := [(5, .int 0), (0, .ref a_r), (1, .int p1), (2, .int p2), (3, .int (f_X11_leastNode p1)), (4, .int (p1 &&& (p1 - 1)))]) S.1 S.2.1 dX7_visit_49 hl (by decide) rfl (fun ls hl => ?_)
            obtain ⟨kk_107_26, ekk_107_26, hf⟩ := jn_s hf
            have hJ_kk_107_26 : ∀ (r_amount_23 : Int32) (r_slots_24 : Nat → Int32) (r_slotOf_25 : Nat → Int32) (r_sets_26 : Nat → Int32) (H : Heap) (locs : List Loc) (ls : Array Slot), Wo E A s [aI E a_r_later 256 r_later, aI E a_r_laters 16 r_laters, oC a_r 7 [.ref a_r_slots, .ref a_r_slotOf, .ref a_r_sets, .ref a_r_later, .ref a_r_laters, .int r_mayLeave, .int r_amount_23], aI E a_r_slots 4096 r_slots_24, aI E a_r_slotOf 2584 r_slotOf_25, aI E a_r_sets 2584 r_sets_26] H locs → lv_has ls 7 [(0, .ref a_r), (1, .int p1)] → kk_107_26 r_amount_23 r_slots_24 r_slotOf_25 r_sets_26 = some (u_r_amount, u_r_slots, u_r_slotOf, u_r_sets) → W p l e (Rm (2 + (d + 1))) s m (([.ref a_r, .int p1, .int p2] : List Value).toArray) below meth c H locs 0 0 Q (F0 m 107 ls []) := by
              intro r_amount_23 r_slots_24 r_slotOf_25 r_sets_26 H locs ls hw hl hf
              rw [ekk_107_26] at hf
              exact hJ_jj_107_8 r_amount_23 r_slots_24 r_slotOf_25 r_sets_26 _ _ _ hw hl hf
            have hL_51_45 : ∀ (n : Nat) (v5_28 : Int32) (r_sets_29 : Nat → Int32) (r_slotOf_30 : Nat → Int32) (r_slots_31 : Nat → Int32) (r_amount_32 : Int32) (H : Heap) (locs : List Loc) (ls : Array Slot), Wo E A s [aI E a_r_later 256 r_later, aI E a_r_laters 16 r_laters, oC a_r 7 [.ref a_r_slots, .ref a_r_slotOf, .ref a_r_sets, .ref a_r_later, .ref a_r_laters, .int r_mayLeave, .int r_amount_32], aI E a_r_slots 4096 r_slots_31, aI E a_r_slotOf 2584 r_slotOf_30, aI E a_r_sets 2584 r_sets_29] H locs → lv_has ls 7 [(0, .ref a_r), (1, .int p1), (2, .int p2), (3, .int (f_X11_leastNode p1)), (4, .int (p1 &&& (p1 - 1))), (5, .int v5_28)] → f_X7_visit_L51 r_later r_laters p1 p2 (f_X7_visit F r_later r_laters r_mayLeave d) kk_107_26 n v5_28 r_sets_29 r_slotOf_30 r_slots_31 r_amount_32 = some (u_r_amount, u_r_slots, u_r_slotOf, u_r_sets) → W p l e (Rm (2 + (d + 1))) s m (([.ref a_r, .int p1, .int p2] : List Value).toArray) below meth c H locs 0 0 Q (F0 m 51 ls []) := by
              intro n
              induction n with
              | zero => intro v5_28 r_sets_29 r_slotOf_30 r_slots_31 r_amount_32 H locs ls hw hl hf; unfold f_X7_visit_L51 at hf; cases hf
              | succ n ih =>
                intro v5_28 r_sets_29 r_slotOf_30 r_slots_31 r_amount_32 H locs ls hw hl hf
                unfold f_X7_visit_L51 at hf
                refine lv_iload S.1 S.2.1 dX7_visit_51 (lv_at hl 5 rfl) ?_
                refine lv_aload_n S.1 S.2.1 dX7_visit_53 rfl (lv_at hl 0 rfl) ?_
                refine g_get S hN hw (C := RX7) (T := TX7) (N := 7) (ci := 7) (v := .ref a_r_laters) 2 4 iX7 k24 dX7_visit_54 rfl rfl (by decide) rfl ?_
                refine lv_iload_n S.1 S.2.1 dX7_visit_57 rfl (lv_at hl 3 rfl) ?_
                obtain ⟨hi_32, hf⟩ := rd_s hf
                refine g_iald (n := 16) (f := r_laters) S hN hw 1 hi_32 dX7_visit_58 rfl ?_
                generalize r_laters ((f_X11_leastNode p1) : Int32).toNatClampNeg = y_33 at hf ⊢
                refine lv_icmp_ge (tgt := 107) S.1 S.2.1 dX7_visit_59 (by decide) (fun h_34 => ?_) (fun h_34 => ?_)
                · replace hf := if_t h_34 hf
                  exact hJ_kk_107_26 r_amount_32 r_slots_31 r_slotOf_30 r_sets_29 _ _ _ hw (lv_sub hl [0, 1] rfl) hf
                · replace hf := if_f h_34 hf
                  refine lv_aload_n S.1 S.2.1 dX7_visit_62 rfl (lv_at hl 0 rfl) ?_
                  refine g_get S hN hw (C := RX7) (T := TX7) (N := 7) (ci := 7) (v := .ref a_r_later) 2 3 iX7 k21 dX7_visit_63 rfl rfl (by decide) rfl ?_
                  refine lv_iload_n S.1 S.2.1 dX7_visit_66 rfl (lv_at hl 3 rfl) ?_
                  refine lv_iload S.1 S.2.1 dX7_visit_67 (lv_at hl 5 rfl) ?_
                  refine g_calli (r := (f_X11_cell (f_X11_leastNode p1) v5_28)) (wc := []) (wr := [aI E a_r_later 256 r_later, aI E a_r_laters 16 r_laters, oC a_r 7 [.ref a_r_slots, .ref a_r_slotOf, .ref a_r_sets, .ref a_r_later, .ref a_r_laters, .int r_mayLeave, .int r_amount_32], aI E a_r_slots 4096 r_slots_31, aI E a_r_slotOf 2584 r_slotOf_30, aI E a_r_sets 2584 r_sets_29]) (w1 := []) (va_runSN (As := [.int (f_X11_leastNode p1), .int v5_28]) (rest := [.ref a_r_later]) S (c_X11_cell l E (f_X11_leastNode p1) v5_28 (f_X11_cell (f_X11_leastNode p1) v5_28) rfl _) ⟨(va_cnB 2 S.2.2.2.2 gX7_visit_X11_cell_n47 rfl rfl rfl (hN.2 _ w47) kIX11 (by decide +kernel) (rm_le (by omega) (by decide))), kSX11_cell, trivial⟩ (preS hN hw [] rfl rfl) rfl rfl hl.1 rfl (lv_room (Nat.le_of_ble_eq_true rfl)) dX7_visit_69 ⟨Nat.le_refl _, Nat.le_refl _⟩) hw hA [] [0, 1, 2, 3, 4, 5] rfl rfl rfl (by decide) (fun H locs hw => ?_)
                  have hw : Wo E A s [aI E a_r_later 256 r_later, aI E a_r_laters 16 r_laters, oC a_r 7 [.ref a_r_slots, .ref a_r_slotOf, .ref a_r_sets, .ref a_r_later, .ref a_r_laters, .int r_mayLeave, .int r_amount_32], aI E a_r_slots 4096 r_slots_31, aI E a_r_slotOf 2584 r_slotOf_30, aI E a_r_sets 2584 r_sets_29] H _ := hw
                  obtain ⟨hi_36, hf⟩ := rd_s hf
                  refine g_iald (n := 256) (f := r_later) S hN hw 0 hi_36 dX7_visit_72 rfl ?_
                  generalize r_later ((f_X11_cell (f_X11_leastNode p1) v5_28) : Int32).toNatClampNeg = y_37 at hf ⊢
                  refine lv_istore (lv' := [(6, .int y_37), (0, .ref a_r), (1, .int p1), (2, .int p2), (3, .int (f_X11_leastNode p1)), (4, .int (p1 &&& (p1 - 1))), (5, .int v5_28)]) S.1 S.2.1 dX7_visit_73 hl (by decide) rfl (fun ls hl => ?_)
                  refine lv_iload S.1 S.2.1 dX7_visit_75 (lv_at hl 5 rfl) ?_
                  refine lv_iload S.1 S.2.1 dX7_visit_77 (lv_at hl 0 rfl) ?_
                  refine g_calli (r := (f_X11_has (p1 &&& (p1 - 1)) y_37)) (wc := []) (wr := [aI E a_r_later 256 r_later, aI E a_r_laters 16 r_laters, oC a_r 7 [.ref a_r_slots, .ref a_r_slotOf, .ref a_r_sets, .ref a_r_later, .ref a_r_laters, .int r_mayLeave, .int r_amount_32], aI E a_r_slots 4096 r_slots_31, aI E a_r_slotOf 2584 r_slotOf_30, aI E a_r_sets 2584 r_sets_29]) (w1 := []) (va_runSN (As := [.int (p1 &&& (p1 - 1)), .int y_37]) (rest := []) S (c_X11_has l E (p1 &&& (p1 - 1)) y_37 (f_X11_has (p1 &&& (p1 - 1)) y_37) rfl _) ⟨(va_cnB 2 S.2.2.2.2 gX7_visit_X11_has_n43 rfl rfl rfl (hN.2 _ w43) kIX11 (by decide +kernel) (rm_le (by omega) (by decide))), kSX11_has, trivial⟩ (preS hN hw [] rfl rfl) rfl rfl hl.1 rfl (lv_room (Nat.le_of_ble_eq_true rfl)) dX7_visit_79 ⟨Nat.le_refl _, Nat.le_refl _⟩) hw hA [] [0, 1, 2, 3, 4, 5] rfl rfl rfl (by decide) (fun H locs hw => ?_)
                  have hw : Wo E A s [aI E a_r_later 256 r_later, aI E a_r_laters 16 r_laters, oC a_r 7 [.ref a_r_slots, .ref a_r_slotOf, .ref a_r_sets, .ref a_r_later, .ref a_r_laters, .int r_mayLeave, .int r_amount_32], aI E a_r_slots 4096 r_slots_31, aI E a_r_slotOf 2584 r_slotOf_30, aI E a_r_sets 2584 r_sets_29] H _ := hw
                  refine lv_if_eq (tgt := 101) S.1 S.2.1 dX7_visit_82 (by decide) (fun h_40 => ?_) (fun h_40 => ?_)
                  · replace hf := if_t h_40 hf
                    refine lv_iinc (v := (v5_28 + 1)) (lv' := [(5, .int (v5_28 + 1)), (6, .int y_37), (0, .ref a_r), (1, .int p1), (2, .int p2), (3, .int (f_X11_leastNode p1)), (4, .int (p1 &&& (p1 - 1)))]) S.1 S.2.1 dX7_visit_101 hl (k := 6) rfl rfl (by decide) rfl (fun ls hl => ?_)
                    refine lv_goto (tgt := 51) S.1 S.2.1 dX7_visit_104 (by decide) ?_
                    exact ih (v5_28 + 1) r_sets_29 r_slotOf_30 r_slots_31 r_amount_32 _ _ _ hw (lv_sub hl [2, 3, 4, 5, 6, 0] rfl) hf
                  · replace hf := if_f h_40 hf
                    refine lv_aload_n S.1 S.2.1 dX7_visit_85 rfl (lv_at hl 1 rfl) ?_
                    refine lv_iload S.1 S.2.1 dX7_visit_86 (lv_at hl 5 rfl) ?_
                    refine lv_iconst (v := 1) S.1 S.2.1 dX7_visit_88 (by decide) ?_
                    refine lv_iload S.1 S.2.1 dX7_visit_89 (lv_at hl 0 rfl) ?_
                    refine lv_ishl S.1 S.2.1 dX7_visit_91 ?_
                    refine lv_iconst (v := (-1)) S.1 S.2.1 dX7_visit_92 (by decide) ?_
                    refine lv_ixor S.1 S.2.1 dX7_visit_93 ?_
                    refine lv_iand S.1 S.2.1 dX7_visit_94 ?_
                    refine lv_iload_n S.1 S.2.1 dX7_visit_95 rfl (lv_at hl 3 rfl) ?_
                    refine lv_iconst (v := 1) S.1 S.2.1 dX7_visit_96 (by decide) ?_
                    refine lv_iadd S.1 S.2.1 dX7_visit_97 ?_
                    obtain ⟨r_amount_41, r_slots_42, r_slotOf_43, r_sets_44, hc_44, hf⟩ := bd4_s hf
                    refine g_callv (wc := [oC a_r 7 [.ref a_r_slots, .ref a_r_slotOf, .ref a_r_sets, .ref a_r_later, .ref a_r_laters, .int r_mayLeave, .int r_amount_32], aI E a_r_slots 4096 r_slots_31, aI E a_r_slotOf 2584 r_slotOf_30, aI E a_r_sets 2584 r_sets_29, aI E a_r_later 256 r_later, aI E a_r_laters 16 r_laters]) (wr := []) (w1 := [oC a_r 7 [.ref a_r_slots, .ref a_r_slotOf, .ref a_r_sets, .ref a_r_later, .ref a_r_laters, .int r_mayLeave, .int r_amount_41], aI E a_r_slots 4096 r_slots_42, aI E a_r_slotOf 2584 r_slotOf_43, aI E a_r_sets 2584 r_sets_44, aI E a_r_later 256 r_later, aI E a_r_laters 16 r_laters]) (va_runV (As := [.int ((p1 &&& (p1 - 1)) &&& (((1 : Int32) <<< (y_37 &&& 31)) ^^^ (-1))), .int (p2 + 1)]) (rest := []) S (ihd ((p1 &&& (p1 - 1)) &&& (((1 : Int32) <<< (y_37 &&& 31)) ^^^ (-1))) (p2 + 1) r_amount_32 r_slots_31 r_slotOf_30 r_sets_29 r_amount_41 r_slots_42 r_slotOf_43 r_sets_44 hc_44 _) (cwV 2 S.2.2.2.2 gX7_visit_X7_visit rfl rfl rfl (by decide +kernel) (rm_le (by omega) (by decide))) (preV (q := (RX7, TX7, 7)) hN hw [2, 3, 4, 5, 0, 1] rfl rfl rfl rfl) rfl rfl hl.1 rfl (lv_room (Nat.le_of_ble_eq_true rfl)) dX7_visit_98 ⟨Nat.le_refl _, Nat.le_refl _⟩) hw hA [2, 3, 4, 5, 0, 1] [] rfl rfl rfl (by decide) (fun H locs hw => ?_)
                    have hw : Wo E A s [oC a_r 7 [.ref a_r_slots, .ref a_r_slotOf, .ref a_r_sets, .ref a_r_later, .ref a_r_laters, .int r_mayLeave, .int r_amount_41], aI E a_r_slots 4096 r_slots_42, aI E a_r_slotOf 2584 r_slotOf_43, aI E a_r_sets 2584 r_sets_44, aI E a_r_later 256 r_later, aI E a_r_laters 16 r_laters] H _ := hw
                    refine lv_iinc (v := (v5_28 + 1)) (lv' := [(5, .int (v5_28 + 1)), (6, .int y_37), (0, .ref a_r), (1, .int p1), (2, .int p2), (3, .int (f_X11_leastNode p1)), (4, .int (p1 &&& (p1 - 1)))]) S.1 S.2.1 dX7_visit_101 hl (k := 6) rfl rfl (by decide) rfl (fun ls hl => ?_)
                    refine lv_goto (tgt := 51) S.1 S.2.1 dX7_visit_104 (by decide) ?_
                    exact ih (v5_28 + 1) r_sets_44 r_slotOf_43 r_slots_42 r_amount_41 _ _ _ (hw.sub [4, 5, 0, 1, 2, 3] rfl rfl) (lv_sub hl [2, 3, 4, 5, 6, 0] rfl) hf
            exact hL_51_45 F 0 r_sets_21 r_slotOf_20 r_slots_19 r_amount_18 _ _ _ hw (lv_sub hl [1, 2, 3, 4, 5, 0] rfl) hf
          refine lv_if_eq (tgt := 48) S.1 S.2.1 dX7_visit_36 (by decide) (fun h_47 => ?_) (fun h_47 => ?_)
          · replace hf := if_t h_47 hf
            exact hJ_jj_48_21 r_amount r_slots r_slotOf r_sets _ _ _ hw (lv_sub hl [2, 3, 4, 1, 0] rfl) hf
          · replace hf := if_f h_47 hf
            refine lv_aload_n S.1 S.2.1 dX7_visit_39 rfl (lv_at hl 2 rfl) ?_
            refine lv_iload S.1 S.2.1 dX7_visit_40 (lv_at hl 0 rfl) ?_
            refine lv_iload_n S.1 S.2.1 dX7_visit_42 rfl (lv_at hl 4 rfl) ?_
            refine lv_iconst (v := 1) S.1 S.2.1 dX7_visit_43 (by decide) ?_
            refine lv_iadd S.1 S.2.1 dX7_visit_44 ?_
            obtain ⟨r_amount_48, r_slots_49, r_slotOf_50, r_sets_51, hc_51, hf⟩ := bd4_s hf
            refine g_callv (wc := [oC a_r 7 [.ref a_r_slots, .ref a_r_slotOf, .ref a_r_sets, .ref a_r_later, .ref a_r_laters, .int r_mayLeave, .int r_amount], aI E a_r_slots 4096 r_slots, aI E a_r_slotOf 2584 r_slotOf, aI E a_r_sets 2584 r_sets, aI E a_r_later 256 r_later, aI E a_r_laters 16 r_laters]) (wr := []) (w1 := [oC a_r 7 [.ref a_r_slots, .ref a_r_slotOf, .ref a_r_sets, .ref a_r_later, .ref a_r_laters, .int r_mayLeave, .int r_amount_48], aI E a_r_slots 4096 r_slots_49, aI E a_r_slotOf 2584 r_slotOf_50, aI E a_r_sets 2584 r_sets_51, aI E a_r_later 256 r_later, aI E a_r_laters 16 r_laters]) (va_runV (As := [.int (p1 &&& (p1 - 1)), .int (p2 + 1)]) (rest := []) S (ihd (p1 &&& (p1 - 1)) (p2 + 1) r_amount r_slots r_slotOf r_sets r_amount_48 r_slots_49 r_slotOf_50 r_sets_51 hc_51 _) (cwV 2 S.2.2.2.2 gX7_visit_X7_visit rfl rfl rfl (by decide +kernel) (rm_le (by omega) (by decide))) (preV (q := (RX7, TX7, 7)) hN hw [2, 3, 4, 5, 0, 1] rfl rfl rfl rfl) rfl rfl hl.1 rfl (lv_room (Nat.le_of_ble_eq_true rfl)) dX7_visit_45 ⟨Nat.le_refl _, Nat.le_refl _⟩) hw hA [2, 3, 4, 5, 0, 1] [] rfl rfl rfl (by decide) (fun H locs hw => ?_)
            have hw : Wo E A s [oC a_r 7 [.ref a_r_slots, .ref a_r_slotOf, .ref a_r_sets, .ref a_r_later, .ref a_r_laters, .int r_mayLeave, .int r_amount_48], aI E a_r_slots 4096 r_slots_49, aI E a_r_slotOf 2584 r_slotOf_50, aI E a_r_sets 2584 r_sets_51, aI E a_r_later 256 r_later, aI E a_r_laters 16 r_laters] H _ := hw
            exact hJ_jj_48_21 r_amount_48 r_slots_49 r_slotOf_50 r_sets_51 _ _ _ (hw.sub [4, 5, 0, 1, 2, 3] rfl rfl) (lv_sub hl [2, 3, 4, 1, 0] rfl) hf
      · replace hf := if_f h_4 hf
        cases hf
        exact hE _ _ _ _ (hw.sub [2, 3, 4, 5, 0, 1] rfl rfl) dX7_visit_15
def f_X7_build_L13 (F : Nat) (p2 : Nat → Int32) (n2 : Nat) (kk_36_8 : (Nat → Int32) → (Nat → Int32) → Option (Int32 × Int32 × (Nat → Int32) × (Nat → Int32) × (Nat → Int32) × (Nat → Int32) × (Nat → Int32))) : Nat → Int32 → (Nat → Int32) → (Nat → Int32) → Option (Int32 × Int32 × (Nat → Int32) × (Nat → Int32) × (Nat → Int32) × (Nat → Int32) × (Nat → Int32))
  | 0, _, _, _ => none
  | n + 1, v4_10, r_later_11, r_laters_12 => (if 16 ≤ v4_10 then (kk_36_8 r_later_11 r_laters_12) else rd n2 p2 v4_10 (fun y_14 => bd2 (f_X7_listLater F v4_10 y_14 r_later_11 r_laters_12) (fun r_later_15 r_laters_16 => (f_X7_build_L13 F p2 n2 kk_36_8 n (v4_10 + 1) r_later_15 r_laters_16))))
def f_X7_build (F : Nat) (p1 : Int32) (p3 : Int32) (r_slots : Nat → Int32) (r_slotOf : Nat → Int32) (r_sets : Nat → Int32) (r_later : Nat → Int32) (r_laters : Nat → Int32) (p2 : Nat → Int32) (n2 : Nat) : Option (Int32 × Int32 × (Nat → Int32) × (Nat → Int32) × (Nat → Int32) × (Nat → Int32) × (Nat → Int32)) :=
  gd (p3 = 0 ∨ p3 = 1) ((jn (fun (r_later_2 : Nat → Int32) (r_laters_3 : Nat → Int32) => bd4 (f_X7_visit F r_later_2 r_laters_3 p3 18 p1 0 0 r_slots r_slotOf r_sets) (fun r_amount_4 r_slots_5 r_slotOf_6 r_sets_7 => some (p3, r_amount_4, r_slots_5, r_slotOf_6, r_sets_7, r_later_2, r_laters_3))) (fun kk_36_8 => (f_X7_build_L13 F p2 n2 kk_36_8 F 0 r_later r_laters))))
set_option maxHeartbeats 4000000 in
set_option maxRecDepth 100000 in
theorem c_X7_build (l : Launch) (E : Ev) (F : Nat) (r_slots : Nat → Int32) (a_r_slots : Nat) (r_slotOf : Nat → Int32) (a_r_slotOf : Nat) (r_sets : Nat → Int32) (a_r_sets : Nat) (r_later : Nat → Int32) (a_r_later : Nat) (r_laters : Nat → Int32) (a_r_laters : Nat) (r_mayLeave : Int32) (r_amount : Int32) (a_r : Nat) (p1 : Int32) (a_p2 : Nat) (p2 : Nat → Int32) (n2 : Nat) (p3 : Int32) (u_r_mayLeave : Int32) (u_r_amount : Int32) (u_r_slots : Nat → Int32) (u_r_slotOf : Nat → Int32) (u_r_sets : Nat → Int32) (u_r_later : Nat → Int32) (u_r_laters : Nat → Int32) (hf : f_X7_build F p1 p3 r_slots r_slotOf r_sets r_later r_laters p2 n2 = some (u_r_mayLeave, u_r_amount, u_r_slots, u_r_slotOf, u_r_sets, u_r_later, u_r_laters)) :
    CtV l yX7_build wsX7_build (Rm 21) E [.ref a_r, .int p1, .ref a_p2, .int p3] [oC a_r 7 [.ref a_r_slots, .ref a_r_slotOf, .ref a_r_sets, .ref a_r_later, .ref a_r_laters, .int r_mayLeave, .int r_amount], aI E a_r_slots 4096 r_slots, aI E a_r_slotOf 2584 r_slotOf, aI E a_r_sets 2584 r_sets, aI E a_r_later 256 r_later, aI E a_r_laters 16 r_laters, aI E a_p2 n2 p2] [oC a_r 7 [.ref a_r_slots, .ref a_r_slotOf, .ref a_r_sets, .ref a_r_later, .ref a_r_laters, .int u_r_mayLeave, .int u_r_amount], aI E a_r_slots 4096 u_r_slots, aI E a_r_slotOf 2584 u_r_slotOf, aI E a_r_sets 2584 u_r_sets, aI E a_r_later 256 u_r_later, aI E a_r_laters 16 u_r_laters, aI E a_p2 n2 p2] := by
  refine ofV (cc := cX7_build) (maxL := 5) (own := RX7) rfl rfl (by decide) rfl rfl ?_
  intro p e s m below meth c A ls Q S hnm hN hw hA hl0 hE
  have hl : lv_has ls 5 [(0, .ref a_r), (1, .int p1), (2, .ref a_p2), (3, .int p3)] := hl0 _ (lv_entry [.ref a_r, .int p1, .ref a_p2, .int p3] (n := 5) (Nat.le_of_ble_eq_true rfl))
  have iX7 : ∀ w ∈ wsX70, w ∈ wsX7_build := by decide +kernel
  have k27 := S.2.2.2.2 (.fieldLink RX7 27 "PairMatching$Rests" "mayLeave" "Z") (by decide +kernel)
  have k31 := S.2.2.2.2 (.fieldLink RX7 31 "PairMatching$Rests" "amount" "I") (by decide +kernel)
  unfold f_X7_build at hf
  refine lv_aload_n S.1 S.2.1 dX7_build_0 rfl (lv_at hl 0 rfl) ?_
  refine lv_iload_n S.1 S.2.1 dX7_build_1 rfl (lv_at hl 3 rfl) ?_
  obtain ⟨hz_0, hf⟩ := gd_s hf
  refine g_put S hN hw (C := RX7) (T := TX7) (N := 7) (ci := 7) (ty := .boolean) (w1 := [oC a_r 7 [.ref a_r_slots, .ref a_r_slotOf, .ref a_r_sets, .ref a_r_later, .ref a_r_laters, .int p3, .int r_amount], aI E a_r_slots 4096 r_slots, aI E a_r_slotOf 2584 r_slotOf, aI E a_r_sets 2584 r_sets, aI E a_r_later 256 r_later, aI E a_r_laters 16 r_laters, aI E a_p2 n2 p2]) 0 5 iX7 k27 tyX7 tyX7_ok nmX7 dX7_build_2 rfl rfl (by decide) rfl (by decide +kernel) (by rcases hz_0 with h | h <;> rw [h] <;> rfl) (by rcases hz_0 with h | h <;> rw [h] <;> rfl) (Nat.le_of_ble_eq_true rfl) rfl (fun H locs hw => ?_)
  refine lv_aload_n S.1 S.2.1 dX7_build_5 rfl (lv_at hl 0 rfl) ?_
  refine lv_iconst (v := 0) S.1 S.2.1 dX7_build_6 (by decide) ?_
  refine g_put S hN hw (C := RX7) (T := TX7) (N := 7) (ci := 7) (ty := .int) (w1 := [oC a_r 7 [.ref a_r_slots, .ref a_r_slotOf, .ref a_r_sets, .ref a_r_later, .ref a_r_laters, .int p3, .int 0], aI E a_r_slots 4096 r_slots, aI E a_r_slotOf 2584 r_slotOf, aI E a_r_sets 2584 r_sets, aI E a_r_later 256 r_later, aI E a_r_laters 16 r_laters, aI E a_p2 n2 p2]) 0 6 iX7 k31 tyX7 tyX7_ok nmX7 dX7_build_7 rfl rfl (by decide) rfl (by decide +kernel) rfl rfl (Nat.le_of_ble_eq_true rfl) rfl (fun H locs hw => ?_)
  refine lv_iconst (v := 0) S.1 S.2.1 dX7_build_10 (by decide) ?_
  refine lv_istore (lv' := [(4, .int 0), (0, .ref a_r), (1, .int p1), (2, .ref a_p2), (3, .int p3)]) S.1 S.2.1 dX7_build_11 hl (by decide) rfl (fun ls hl => ?_)
  obtain ⟨kk_36_8, ekk_36_8, hf⟩ := jn_s hf
  have hJ_kk_36_8 : ∀ (r_later_2 : Nat → Int32) (r_laters_3 : Nat → Int32) (H : Heap) (locs : List Loc) (ls : Array Slot), Wo E A s [oC a_r 7 [.ref a_r_slots, .ref a_r_slotOf, .ref a_r_sets, .ref a_r_later, .ref a_r_laters, .int p3, .int 0], aI E a_r_slots 4096 r_slots, aI E a_r_slotOf 2584 r_slotOf, aI E a_r_sets 2584 r_sets, aI E a_r_later 256 r_later_2, aI E a_r_laters 16 r_laters_3, aI E a_p2 n2 p2] H locs → lv_has ls 5 [(0, .ref a_r), (1, .int p1)] → kk_36_8 r_later_2 r_laters_3 = some (u_r_mayLeave, u_r_amount, u_r_slots, u_r_slotOf, u_r_sets, u_r_later, u_r_laters) → W p l e (Rm 21) s m (([.ref a_r, .int p1, .ref a_p2, .int p3] : List Value).toArray) below meth c H locs 0 0 Q (F0 m 36 ls []) := by
    intro r_later_2 r_laters_3 H locs ls hw hl hf
    rw [ekk_36_8] at hf
    refine lv_aload_n S.1 S.2.1 dX7_build_36 rfl (lv_at hl 0 rfl) ?_
    refine lv_iload_n S.1 S.2.1 dX7_build_37 rfl (lv_at hl 1 rfl) ?_
    refine lv_iconst (v := 0) S.1 S.2.1 dX7_build_38 (by decide) ?_
    obtain ⟨r_amount_4, r_slots_5, r_slotOf_6, r_sets_7, hc_7, hf⟩ := bd4_s hf
    refine g_callv (wc := [oC a_r 7 [.ref a_r_slots, .ref a_r_slotOf, .ref a_r_sets, .ref a_r_later, .ref a_r_laters, .int p3, .int 0], aI E a_r_slots 4096 r_slots, aI E a_r_slotOf 2584 r_slotOf, aI E a_r_sets 2584 r_sets, aI E a_r_later 256 r_later_2, aI E a_r_laters 16 r_laters_3]) (wr := [aI E a_p2 n2 p2]) (w1 := [oC a_r 7 [.ref a_r_slots, .ref a_r_slotOf, .ref a_r_sets, .ref a_r_later, .ref a_r_laters, .int p3, .int r_amount_4], aI E a_r_slots 4096 r_slots_5, aI E a_r_slotOf 2584 r_slotOf_6, aI E a_r_sets 2584 r_sets_7, aI E a_r_later 256 r_later_2, aI E a_r_laters 16 r_laters_3]) (va_runV (As := [.int p1, .int 0]) (rest := []) S (c_X7_visit l E F a_r_slots a_r_slotOf a_r_sets r_later_2 a_r_later r_laters_3 a_r_laters p3 a_r 18 p1 0 0 r_slots r_slotOf r_sets r_amount_4 r_slots_5 r_slotOf_6 r_sets_7 hc_7 _) (cwV 2 S.2.2.2.2 gX7_build_X7_visit rfl rfl rfl (by decide +kernel) (rm_le (by omega) (by decide))) (preV (q := (RX7, TX7, 7)) hN hw [0, 1, 2, 3, 4, 5] rfl rfl rfl rfl) rfl rfl hl.1 rfl (lv_room (Nat.le_of_ble_eq_true rfl)) dX7_build_39 ⟨Nat.le_refl _, Nat.le_refl _⟩) hw hA [0, 1, 2, 3, 4, 5] [6] rfl rfl rfl (by decide) (fun H locs hw => ?_)
    have hw : Wo E A s [aI E a_p2 n2 p2, oC a_r 7 [.ref a_r_slots, .ref a_r_slotOf, .ref a_r_sets, .ref a_r_later, .ref a_r_laters, .int p3, .int r_amount_4], aI E a_r_slots 4096 r_slots_5, aI E a_r_slotOf 2584 r_slotOf_6, aI E a_r_sets 2584 r_sets_7, aI E a_r_later 256 r_later_2, aI E a_r_laters 16 r_laters_3] H _ := hw
    cases hf
    exact hE _ _ _ _ (hw.sub [1, 2, 3, 4, 5, 6, 0] rfl rfl) dX7_build_42
  have hL_13_17 : ∀ (n : Nat) (v4_10 : Int32) (r_later_11 : Nat → Int32) (r_laters_12 : Nat → Int32) (H : Heap) (locs : List Loc) (ls : Array Slot), Wo E A s [oC a_r 7 [.ref a_r_slots, .ref a_r_slotOf, .ref a_r_sets, .ref a_r_later, .ref a_r_laters, .int p3, .int 0], aI E a_r_slots 4096 r_slots, aI E a_r_slotOf 2584 r_slotOf, aI E a_r_sets 2584 r_sets, aI E a_r_later 256 r_later_11, aI E a_r_laters 16 r_laters_12, aI E a_p2 n2 p2] H locs → lv_has ls 5 [(0, .ref a_r), (1, .int p1), (2, .ref a_p2), (4, .int v4_10)] → f_X7_build_L13 F p2 n2 kk_36_8 n v4_10 r_later_11 r_laters_12 = some (u_r_mayLeave, u_r_amount, u_r_slots, u_r_slotOf, u_r_sets, u_r_later, u_r_laters) → W p l e (Rm 21) s m (([.ref a_r, .int p1, .ref a_p2, .int p3] : List Value).toArray) below meth c H locs 0 0 Q (F0 m 13 ls []) := by
    intro n
    induction n with
    | zero => intro v4_10 r_later_11 r_laters_12 H locs ls hw hl hf; unfold f_X7_build_L13 at hf; cases hf
    | succ n ih =>
      intro v4_10 r_later_11 r_laters_12 H locs ls hw hl hf
      unfold f_X7_build_L13 at hf
      refine lv_iload S.1 S.2.1 dX7_build_13 (lv_at hl 3 rfl) ?_
      refine lv_bipush (v := 16) S.1 S.2.1 dX7_build_15 (by decide) ?_
      refine lv_icmp_ge (tgt := 36) S.1 S.2.1 dX7_build_17 (by decide) (fun h_13 => ?_) (fun h_13 => ?_)
      · replace hf := if_t h_13 hf
        exact hJ_kk_36_8 r_later_11 r_laters_12 _ _ _ hw (lv_sub hl [0, 1] rfl) hf
      · replace hf := if_f h_13 hf
        refine lv_aload_n S.1 S.2.1 dX7_build_20 rfl (lv_at hl 0 rfl) ?_
        refine lv_iload S.1 S.2.1 dX7_build_21 (lv_at hl 3 rfl) ?_
        refine lv_aload_n S.1 S.2.1 dX7_build_23 rfl (lv_at hl 2 rfl) ?_
        refine lv_iload S.1 S.2.1 dX7_build_24 (lv_at hl 3 rfl) ?_
        obtain ⟨hi_13, hf⟩ := rd_s hf
        refine g_iald (n := n2) (f := p2) S hN hw 6 hi_13 dX7_build_26 rfl ?_
        generalize p2 (v4_10 : Int32).toNatClampNeg = y_14 at hf ⊢
        obtain ⟨r_later_15, r_laters_16, hc_16, hf⟩ := bd2_s hf
        refine g_callv (wc := [oC a_r 7 [.ref a_r_slots, .ref a_r_slotOf, .ref a_r_sets, .ref a_r_later, .ref a_r_laters, .int p3, .int 0], aI E a_r_later 256 r_later_11, aI E a_r_laters 16 r_laters_12]) (wr := [aI E a_r_slots 4096 r_slots, aI E a_r_slotOf 2584 r_slotOf, aI E a_r_sets 2584 r_sets, aI E a_p2 n2 p2]) (w1 := [oC a_r 7 [.ref a_r_slots, .ref a_r_slotOf, .ref a_r_sets, .ref a_r_later, .ref a_r_laters, .int p3, .int 0], aI E a_r_later 256 r_later_15, aI E a_r_laters 16 r_laters_16]) (va_runV (As := [.int v4_10, .int y_14]) (rest := []) S (c_X7_listLater l E F a_r_slots a_r_slotOf a_r_sets r_later_11 a_r_later r_laters_12 a_r_laters p3 0 a_r v4_10 y_14 r_later_15 r_laters_16 hc_16 _) (cwV 2 S.2.2.2.2 gX7_build_X7_listLater rfl rfl rfl (by decide +kernel) (rm_le (by omega) (by decide))) (preV (q := (RX7, TX7, 7)) hN hw [0, 4, 5] rfl rfl rfl rfl) rfl rfl hl.1 rfl (lv_room (Nat.le_of_ble_eq_true rfl)) dX7_build_27 ⟨Nat.le_refl _, Nat.le_refl _⟩) hw hA [0, 4, 5] [1, 2, 3, 6] rfl rfl rfl (by decide) (fun H locs hw => ?_)
        have hw : Wo E A s [aI E a_r_slots 4096 r_slots, aI E a_r_slotOf 2584 r_slotOf, aI E a_r_sets 2584 r_sets, aI E a_p2 n2 p2, oC a_r 7 [.ref a_r_slots, .ref a_r_slotOf, .ref a_r_sets, .ref a_r_later, .ref a_r_laters, .int p3, .int 0], aI E a_r_later 256 r_later_15, aI E a_r_laters 16 r_laters_16] H _ := hw
        refine lv_iinc (v := (v4_10 + 1)) (lv' := [(4, .int (v4_10 + 1)), (0, .ref a_r), (1, .int p1), (2, .ref a_p2)]) S.1 S.2.1 dX7_build_30 hl (k := 3) rfl rfl (by decide) rfl (fun ls hl => ?_)
        refine lv_goto (tgt := 13) S.1 S.2.1 dX7_build_33 (by decide) ?_
        exact ih (v4_10 + 1) r_later_15 r_laters_16 _ _ _ (hw.sub [4, 0, 1, 2, 5, 6, 3] rfl rfl) (lv_sub hl [1, 2, 3, 0] rfl) hf
  exact hL_13_17 F 0 r_later r_laters _ _ _ hw (lv_sub hl [1, 2, 3, 0] rfl) hf
def f_X4_tell (F : Nat) (p1 : Int32) (g_nodes : Int32) (g_made : Int32) (g_oneEnd : Nat → Int32) (g_otherEnd : Nat → Int32) (g_weights : Nat → Int32) (g_alive : Nat → Int32) (r_slots : Nat → Int32) (r_slotOf : Nat → Int32) (r_sets : Nat → Int32) (r_later : Nat → Int32) (r_laters : Nat → Int32) (c_gain : Nat → Int32) (c_mark : Nat → Int64) (c_bestGain : Nat → Int32) (c_bestMark : Nat → Int64) (j_reached : Nat → Int32) (j_told : Int64) (j_isTold : Int32) (j_pathsKnown : Int32) : Option (Int32 × Int64 × Int32 × Int32 × Int32 × Int32 × (Nat → Int32) × (Nat → Int32) × (Nat → Int32) × (Nat → Int32) × (Nat → Int32) × (Nat → Int32) × (Nat → Int64) × (Nat → Int32) × (Nat → Int64) × (Nat → Int32)) :=
  bd4 (f_X4_findPaths F g_nodes g_made g_oneEnd g_otherEnd g_weights g_alive c_gain c_mark j_reached j_pathsKnown) (fun j_pathsKnown_1 c_gain_2 c_mark_3 j_reached_4 => bd7 (f_X7_build F p1 0 r_slots r_slotOf r_sets r_later r_laters j_reached_4 16) (fun r_mayLeave_6 r_amount_7 r_slots_8 r_slotOf_9 r_sets_10 r_later_11 r_laters_12 => bd2 (f_X0_choose F 1 r_slots_8 r_slotOf_9 r_sets_10 r_later_11 r_laters_12 r_amount_7 c_gain_2 c_mark_3 c_bestGain c_bestMark) (fun c_bestGain_14 c_bestMark_15 => (f_X0_found r_amount_7 c_bestGain_14).bind (fun r_17 => (if r_17 = 0 then some (0, j_told, j_isTold, j_pathsKnown_1, r_mayLeave_6, r_amount_7, r_slots_8, r_slotOf_9, r_sets_10, r_later_11, r_laters_12, c_gain_2, c_mark_3, c_bestGain_14, c_bestMark_15, j_reached_4) else (f_X0_chosen r_amount_7 c_bestMark_15).bind (fun r_20 => some (1, r_20, 1, j_pathsKnown_1, r_mayLeave_6, r_amount_7, r_slots_8, r_slotOf_9, r_sets_10, r_later_11, r_laters_12, c_gain_2, c_mark_3, c_bestGain_14, c_bestMark_15, j_reached_4)))))))
set_option maxHeartbeats 4000000 in
set_option maxRecDepth 100000 in
theorem c_X4_tell (l : Launch) (E : Ev) (F : Nat) (g_nodes : Int32) (g_made : Int32) (g_living : Int32) (g_age : Int32) (g_oneEnd : Nat → Int32) (a_g_oneEnd : Nat) (g_otherEnd : Nat → Int32) (a_g_otherEnd : Nat) (g_weights : Nat → Int32) (a_g_weights : Nat) (g_alive : Nat → Int32) (a_g_alive : Nat) (a_g_joined : Nat) (a_g : Nat) (r_slots : Nat → Int32) (a_r_slots : Nat) (r_slotOf : Nat → Int32) (a_r_slotOf : Nat) (r_sets : Nat → Int32) (a_r_sets : Nat) (r_later : Nat → Int32) (a_r_later : Nat) (r_laters : Nat → Int32) (a_r_laters : Nat) (r_mayLeave : Int32) (r_amount : Int32) (a_r : Nat) (c_gain : Nat → Int32) (a_c_gain : Nat) (c_mark : Nat → Int64) (a_c_mark : Nat) (c_bestGain : Nat → Int32) (a_c_bestGain : Nat) (c_bestMark : Nat → Int64) (a_c_bestMark : Nat) (a_c : Nat) (j_reached : Nat → Int32) (a_j_reached : Nat) (j_told : Int64) (j_isTold : Int32) (j_pathsKnown : Int32) (j_age : Int32) (a_j : Nat) (p1 : Int32) (ro : Int32) (u_j_told : Int64) (u_j_isTold : Int32) (u_j_pathsKnown : Int32) (u_r_mayLeave : Int32) (u_r_amount : Int32) (u_r_slots : Nat → Int32) (u_r_slotOf : Nat → Int32) (u_r_sets : Nat → Int32) (u_r_later : Nat → Int32) (u_r_laters : Nat → Int32) (u_c_gain : Nat → Int32) (u_c_mark : Nat → Int64) (u_c_bestGain : Nat → Int32) (u_c_bestMark : Nat → Int64) (u_j_reached : Nat → Int32) (hf : f_X4_tell F p1 g_nodes g_made g_oneEnd g_otherEnd g_weights g_alive r_slots r_slotOf r_sets r_later r_laters c_gain c_mark c_bestGain c_bestMark j_reached j_told j_isTold j_pathsKnown = some (ro, u_j_told, u_j_isTold, u_j_pathsKnown, u_r_mayLeave, u_r_amount, u_r_slots, u_r_slotOf, u_r_sets, u_r_later, u_r_laters, u_c_gain, u_c_mark, u_c_bestGain, u_c_bestMark, u_j_reached)) :
    CtI l yX4_tell wsX4_tell (Rm 22) E [.ref a_j, .int p1] [oC a_j 4 [.ref a_g, .ref a_c, .ref a_j_reached, .long j_told, .int j_isTold, .int j_pathsKnown, .int j_age], oC a_g 2 [.int g_nodes, .int g_made, .int g_living, .int g_age, .ref a_g_oneEnd, .ref a_g_otherEnd, .ref a_g_weights, .ref a_g_alive, .ref a_g_joined], aI E a_g_oneEnd 60 g_oneEnd, aI E a_g_otherEnd 60 g_otherEnd, aI E a_g_weights 60 g_weights, aZ E a_g_alive 60 g_alive, oC a_c 0 [.ref a_r, .ref a_c_gain, .ref a_c_mark, .ref a_c_bestGain, .ref a_c_bestMark], oC a_r 7 [.ref a_r_slots, .ref a_r_slotOf, .ref a_r_sets, .ref a_r_later, .ref a_r_laters, .int r_mayLeave, .int r_amount], aI E a_r_slots 4096 r_slots, aI E a_r_slotOf 2584 r_slotOf, aI E a_r_sets 2584 r_sets, aI E a_r_later 256 r_later, aI E a_r_laters 16 r_laters, aI E a_c_gain 256 c_gain, aJ E a_c_mark 256 c_mark, aI E a_c_bestGain 2584 c_bestGain, aJ E a_c_bestMark 2584 c_bestMark, aI E a_j_reached 16 j_reached] ro [oC a_j 4 [.ref a_g, .ref a_c, .ref a_j_reached, .long u_j_told, .int u_j_isTold, .int u_j_pathsKnown, .int j_age], oC a_g 2 [.int g_nodes, .int g_made, .int g_living, .int g_age, .ref a_g_oneEnd, .ref a_g_otherEnd, .ref a_g_weights, .ref a_g_alive, .ref a_g_joined], aI E a_g_oneEnd 60 g_oneEnd, aI E a_g_otherEnd 60 g_otherEnd, aI E a_g_weights 60 g_weights, aZ E a_g_alive 60 g_alive, oC a_c 0 [.ref a_r, .ref a_c_gain, .ref a_c_mark, .ref a_c_bestGain, .ref a_c_bestMark], oC a_r 7 [.ref a_r_slots, .ref a_r_slotOf, .ref a_r_sets, .ref a_r_later, .ref a_r_laters, .int u_r_mayLeave, .int u_r_amount], aI E a_r_slots 4096 u_r_slots, aI E a_r_slotOf 2584 u_r_slotOf, aI E a_r_sets 2584 u_r_sets, aI E a_r_later 256 u_r_later, aI E a_r_laters 16 u_r_laters, aI E a_c_gain 256 u_c_gain, aJ E a_c_mark 256 u_c_mark, aI E a_c_bestGain 2584 u_c_bestGain, aJ E a_c_bestMark 2584 u_c_bestMark, aI E a_j_reached 16 u_j_reached] := by
  refine ofZ (cc := cX4_tell) (maxL := 2) (own := RX4) rfl rfl (by decide) rfl rfl ?_
  intro p e s m below meth c A ls Q S hnm hN hw hA hl0 hE
  have hl : lv_has ls 2 [(0, .ref a_j), (1, .int p1)] := hl0 _ (lv_entry [.ref a_j, .int p1] (n := 2) (Nat.le_of_ble_eq_true rfl))
  have iX0 : ∀ w ∈ wsX00, w ∈ wsX4_tell := by decide +kernel
  have iX4 : ∀ w ∈ wsX40, w ∈ wsX4_tell := by decide +kernel
  have k12 := S.2.2.2.2 (.fieldLink RX4 12 "PairMatching$Joins" "chooser" "LPairMatching$Chooser;") (by decide +kernel)
  have k18 := S.2.2.2.2 (.fieldLink RX4 18 "PairMatching$Joins" "reached" "[I") (by decide +kernel)
  have k33 := S.2.2.2.2 (.fieldLink RX4 33 "PairMatching$Joins" "isTold" "Z") (by decide +kernel)
  have k65 := S.2.2.2.2 (.fieldLink RX4 65 "PairMatching$Joins" "told" "J") (by decide +kernel)
  have w43 : Cond.fieldLinkNest RX4 43 "PairMatching$Chooser" "rests" "LPairMatching$Rests;" "PairMatching" ∈ nestW := List.mem_of_getElem? (i := 54) rfl
  unfold f_X4_tell at hf
  refine lv_aload_n S.1 S.2.1 dX4_tell_0 rfl (lv_at hl 0 rfl) ?_
  obtain ⟨j_pathsKnown_1, c_gain_2, c_mark_3, j_reached_4, hc_4, hf⟩ := bd4_s hf
  refine g_callv (wc := [oC a_j 4 [.ref a_g, .ref a_c, .ref a_j_reached, .long j_told, .int j_isTold, .int j_pathsKnown, .int j_age], oC a_g 2 [.int g_nodes, .int g_made, .int g_living, .int g_age, .ref a_g_oneEnd, .ref a_g_otherEnd, .ref a_g_weights, .ref a_g_alive, .ref a_g_joined], aI E a_g_oneEnd 60 g_oneEnd, aI E a_g_otherEnd 60 g_otherEnd, aI E a_g_weights 60 g_weights, aZ E a_g_alive 60 g_alive, oC a_c 0 [.ref a_r, .ref a_c_gain, .ref a_c_mark, .ref a_c_bestGain, .ref a_c_bestMark], aI E a_c_gain 256 c_gain, aJ E a_c_mark 256 c_mark, aI E a_j_reached 16 j_reached]) (wr := [oC a_r 7 [.ref a_r_slots, .ref a_r_slotOf, .ref a_r_sets, .ref a_r_later, .ref a_r_laters, .int r_mayLeave, .int r_amount], aI E a_r_slots 4096 r_slots, aI E a_r_slotOf 2584 r_slotOf, aI E a_r_sets 2584 r_sets, aI E a_r_later 256 r_later, aI E a_r_laters 16 r_laters, aI E a_c_bestGain 2584 c_bestGain, aJ E a_c_bestMark 2584 c_bestMark]) (w1 := [oC a_j 4 [.ref a_g, .ref a_c, .ref a_j_reached, .long j_told, .int j_isTold, .int j_pathsKnown_1, .int j_age], oC a_g 2 [.int g_nodes, .int g_made, .int g_living, .int g_age, .ref a_g_oneEnd, .ref a_g_otherEnd, .ref a_g_weights, .ref a_g_alive, .ref a_g_joined], aI E a_g_oneEnd 60 g_oneEnd, aI E a_g_otherEnd 60 g_otherEnd, aI E a_g_weights 60 g_weights, aZ E a_g_alive 60 g_alive, oC a_c 0 [.ref a_r, .ref a_c_gain, .ref a_c_mark, .ref a_c_bestGain, .ref a_c_bestMark], aI E a_c_gain 256 c_gain_2, aJ E a_c_mark 256 c_mark_3, aI E a_j_reached 16 j_reached_4]) (va_runV (As := []) (rest := []) S (c_X4_findPaths l E F g_nodes g_made g_living g_age g_oneEnd a_g_oneEnd g_otherEnd a_g_otherEnd g_weights a_g_weights g_alive a_g_alive a_g_joined a_g a_r c_gain a_c_gain c_mark a_c_mark a_c_bestGain a_c_bestMark a_c j_reached a_j_reached j_told j_isTold j_pathsKnown j_age a_j j_pathsKnown_1 c_gain_2 c_mark_3 j_reached_4 hc_4 _) (cwV 0 S.2.2.2.2 gX4_tell_X4_findPaths rfl rfl rfl (by decide +kernel) (rm_le (by omega) (by decide))) (preV (q := (RX4, TX4, 7)) hN hw [0, 1, 2, 3, 4, 5, 6, 13, 14, 17] rfl rfl rfl rfl) rfl rfl hl.1 rfl (lv_room (Nat.le_of_ble_eq_true rfl)) dX4_tell_1 ⟨Nat.le_refl _, Nat.le_refl _⟩) hw hA [0, 1, 2, 3, 4, 5, 6, 13, 14, 17] [7, 8, 9, 10, 11, 12, 15, 16] rfl rfl rfl (by decide) (fun H locs hw => ?_)
  have hw : Wo E A s [oC a_r 7 [.ref a_r_slots, .ref a_r_slotOf, .ref a_r_sets, .ref a_r_later, .ref a_r_laters, .int r_mayLeave, .int r_amount], aI E a_r_slots 4096 r_slots, aI E a_r_slotOf 2584 r_slotOf, aI E a_r_sets 2584 r_sets, aI E a_r_later 256 r_later, aI E a_r_laters 16 r_laters, aI E a_c_bestGain 2584 c_bestGain, aJ E a_c_bestMark 2584 c_bestMark, oC a_j 4 [.ref a_g, .ref a_c, .ref a_j_reached, .long j_told, .int j_isTold, .int j_pathsKnown_1, .int j_age], oC a_g 2 [.int g_nodes, .int g_made, .int g_living, .int g_age, .ref a_g_oneEnd, .ref a_g_otherEnd, .ref a_g_weights, .ref a_g_alive, .ref a_g_joined], aI E a_g_oneEnd 60 g_oneEnd, aI E a_g_otherEnd 60 g_otherEnd, aI E a_g_weights 60 g_weights, aZ E a_g_alive 60 g_alive, oC a_c 0 [.ref a_r, .ref a_c_gain, .ref a_c_mark, .ref a_c_bestGain, .ref a_c_bestMark], aI E a_c_gain 256 c_gain_2, aJ E a_c_mark 256 c_mark_3, aI E a_j_reached 16 j_reached_4] H _ := hw
  refine lv_aload_n S.1 S.2.1 dX4_tell_4 rfl (lv_at hl 0 rfl) ?_
  refine g_get S hN hw (C := RX4) (T := TX4) (N := 7) (ci := 4) (v := .ref a_c) 8 1 iX4 k12 dX4_tell_5 rfl rfl (by decide) rfl ?_
  refine g_getN S hN hw (C := RX0) (T := TX0) (N := 5) (ci := 0) (v := .ref a_r) 14 0 iX0 w43 dX4_tell_8 rfl rfl (by decide) rfl ?_
  refine lv_iload_n S.1 S.2.1 dX4_tell_11 rfl (lv_at hl 1 rfl) ?_
  refine lv_aload_n S.1 S.2.1 dX4_tell_12 rfl (lv_at hl 0 rfl) ?_
  refine g_get S hN hw (C := RX4) (T := TX4) (N := 7) (ci := 4) (v := .ref a_j_reached) 8 2 iX4 k18 dX4_tell_13 rfl rfl (by decide) rfl ?_
  refine lv_iconst (v := 0) S.1 S.2.1 dX4_tell_16 (by decide) ?_
  obtain ⟨r_mayLeave_6, r_amount_7, r_slots_8, r_slotOf_9, r_sets_10, r_later_11, r_laters_12, hc_12, hf⟩ := bd7_s hf
  refine g_callv (wc := [oC a_r 7 [.ref a_r_slots, .ref a_r_slotOf, .ref a_r_sets, .ref a_r_later, .ref a_r_laters, .int r_mayLeave, .int r_amount], aI E a_r_slots 4096 r_slots, aI E a_r_slotOf 2584 r_slotOf, aI E a_r_sets 2584 r_sets, aI E a_r_later 256 r_later, aI E a_r_laters 16 r_laters, aI E a_j_reached 16 j_reached_4]) (wr := [aI E a_c_bestGain 2584 c_bestGain, aJ E a_c_bestMark 2584 c_bestMark, oC a_j 4 [.ref a_g, .ref a_c, .ref a_j_reached, .long j_told, .int j_isTold, .int j_pathsKnown_1, .int j_age], oC a_g 2 [.int g_nodes, .int g_made, .int g_living, .int g_age, .ref a_g_oneEnd, .ref a_g_otherEnd, .ref a_g_weights, .ref a_g_alive, .ref a_g_joined], aI E a_g_oneEnd 60 g_oneEnd, aI E a_g_otherEnd 60 g_otherEnd, aI E a_g_weights 60 g_weights, aZ E a_g_alive 60 g_alive, oC a_c 0 [.ref a_r, .ref a_c_gain, .ref a_c_mark, .ref a_c_bestGain, .ref a_c_bestMark], aI E a_c_gain 256 c_gain_2, aJ E a_c_mark 256 c_mark_3]) (w1 := [oC a_r 7 [.ref a_r_slots, .ref a_r_slotOf, .ref a_r_sets, .ref a_r_later, .ref a_r_laters, .int r_mayLeave_6, .int r_amount_7], aI E a_r_slots 4096 r_slots_8, aI E a_r_slotOf 2584 r_slotOf_9, aI E a_r_sets 2584 r_sets_10, aI E a_r_later 256 r_later_11, aI E a_r_laters 16 r_laters_12, aI E a_j_reached 16 j_reached_4]) (va_runV (As := [.int p1, .ref a_j_reached, .int 0]) (rest := []) S (c_X7_build l E F r_slots a_r_slots r_slotOf a_r_slotOf r_sets a_r_sets r_later a_r_later r_laters a_r_laters r_mayLeave r_amount a_r p1 a_j_reached j_reached_4 16 0 r_mayLeave_6 r_amount_7 r_slots_8 r_slotOf_9 r_sets_10 r_later_11 r_laters_12 hc_12 _) (cwV 3 S.2.2.2.2 gX4_tell_X7_build rfl rfl rfl (by decide +kernel) (rm_le (by omega) (by decide))) (preV (q := (RX7, TX7, 7)) hN hw [0, 1, 2, 3, 4, 5, 17] rfl rfl rfl rfl) rfl rfl hl.1 rfl (lv_room (Nat.le_of_ble_eq_true rfl)) dX4_tell_17 ⟨Nat.le_refl _, Nat.le_refl _⟩) hw hA [0, 1, 2, 3, 4, 5, 17] [6, 7, 8, 9, 10, 11, 12, 13, 14, 15, 16] rfl rfl rfl (by decide) (fun H locs hw => ?_)
  have hw : Wo E A s [aI E a_c_bestGain 2584 c_bestGain, aJ E a_c_bestMark 2584 c_bestMark, oC a_j 4 [.ref a_g, .ref a_c, .ref a_j_reached, .long j_told, .int j_isTold, .int j_pathsKnown_1, .int j_age], oC a_g 2 [.int g_nodes, .int g_made, .int g_living, .int g_age, .ref a_g_oneEnd, .ref a_g_otherEnd, .ref a_g_weights, .ref a_g_alive, .ref a_g_joined], aI E a_g_oneEnd 60 g_oneEnd, aI E a_g_otherEnd 60 g_otherEnd, aI E a_g_weights 60 g_weights, aZ E a_g_alive 60 g_alive, oC a_c 0 [.ref a_r, .ref a_c_gain, .ref a_c_mark, .ref a_c_bestGain, .ref a_c_bestMark], aI E a_c_gain 256 c_gain_2, aJ E a_c_mark 256 c_mark_3, oC a_r 7 [.ref a_r_slots, .ref a_r_slotOf, .ref a_r_sets, .ref a_r_later, .ref a_r_laters, .int r_mayLeave_6, .int r_amount_7], aI E a_r_slots 4096 r_slots_8, aI E a_r_slotOf 2584 r_slotOf_9, aI E a_r_sets 2584 r_sets_10, aI E a_r_later 256 r_later_11, aI E a_r_laters 16 r_laters_12, aI E a_j_reached 16 j_reached_4] H _ := hw
  refine lv_aload_n S.1 S.2.1 dX4_tell_20 rfl (lv_at hl 0 rfl) ?_
  refine g_get S hN hw (C := RX4) (T := TX4) (N := 7) (ci := 4) (v := .ref a_c) 2 1 iX4 k12 dX4_tell_21 rfl rfl (by decide) rfl ?_
  refine lv_iconst (v := 1) S.1 S.2.1 dX4_tell_24 (by decide) ?_
  obtain ⟨c_bestGain_14, c_bestMark_15, hc_15, hf⟩ := bd2_s hf
  refine g_callv (wc := [oC a_c 0 [.ref a_r, .ref a_c_gain, .ref a_c_mark, .ref a_c_bestGain, .ref a_c_bestMark], oC a_r 7 [.ref a_r_slots, .ref a_r_slotOf, .ref a_r_sets, .ref a_r_later, .ref a_r_laters, .int r_mayLeave_6, .int r_amount_7], aI E a_r_slots 4096 r_slots_8, aI E a_r_slotOf 2584 r_slotOf_9, aI E a_r_sets 2584 r_sets_10, aI E a_r_later 256 r_later_11, aI E a_r_laters 16 r_laters_12, aI E a_c_gain 256 c_gain_2, aJ E a_c_mark 256 c_mark_3, aI E a_c_bestGain 2584 c_bestGain, aJ E a_c_bestMark 2584 c_bestMark]) (wr := [oC a_j 4 [.ref a_g, .ref a_c, .ref a_j_reached, .long j_told, .int j_isTold, .int j_pathsKnown_1, .int j_age], oC a_g 2 [.int g_nodes, .int g_made, .int g_living, .int g_age, .ref a_g_oneEnd, .ref a_g_otherEnd, .ref a_g_weights, .ref a_g_alive, .ref a_g_joined], aI E a_g_oneEnd 60 g_oneEnd, aI E a_g_otherEnd 60 g_otherEnd, aI E a_g_weights 60 g_weights, aZ E a_g_alive 60 g_alive, aI E a_j_reached 16 j_reached_4]) (w1 := [oC a_c 0 [.ref a_r, .ref a_c_gain, .ref a_c_mark, .ref a_c_bestGain, .ref a_c_bestMark], oC a_r 7 [.ref a_r_slots, .ref a_r_slotOf, .ref a_r_sets, .ref a_r_later, .ref a_r_laters, .int r_mayLeave_6, .int r_amount_7], aI E a_r_slots 4096 r_slots_8, aI E a_r_slotOf 2584 r_slotOf_9, aI E a_r_sets 2584 r_sets_10, aI E a_r_later 256 r_later_11, aI E a_r_laters 16 r_laters_12, aI E a_c_gain 256 c_gain_2, aJ E a_c_mark 256 c_mark_3, aI E a_c_bestGain 2584 c_bestGain_14, aJ E a_c_bestMark 2584 c_bestMark_15]) (va_runV (As := [.int 1]) (rest := []) S (c_X0_choose l E F r_slots_8 a_r_slots r_slotOf_9 a_r_slotOf r_sets_10 a_r_sets r_later_11 a_r_later r_laters_12 a_r_laters r_mayLeave_6 r_amount_7 a_r c_gain_2 a_c_gain c_mark_3 a_c_mark c_bestGain a_c_bestGain c_bestMark a_c_bestMark a_c 1 c_bestGain_14 c_bestMark_15 hc_15 _) (cwV 1 S.2.2.2.2 gX4_tell_X0_choose rfl rfl rfl (by decide +kernel) (rm_le (by omega) (by decide))) (preV (q := (RX0, TX0, 5)) hN hw [8, 11, 12, 13, 14, 15, 16, 9, 10, 0, 1] rfl rfl rfl rfl) rfl rfl hl.1 rfl (lv_room (Nat.le_of_ble_eq_true rfl)) dX4_tell_25 ⟨Nat.le_refl _, Nat.le_refl _⟩) hw hA [8, 11, 12, 13, 14, 15, 16, 9, 10, 0, 1] [2, 3, 4, 5, 6, 7, 17] rfl rfl rfl (by decide) (fun H locs hw => ?_)
  have hw : Wo E A s [oC a_j 4 [.ref a_g, .ref a_c, .ref a_j_reached, .long j_told, .int j_isTold, .int j_pathsKnown_1, .int j_age], oC a_g 2 [.int g_nodes, .int g_made, .int g_living, .int g_age, .ref a_g_oneEnd, .ref a_g_otherEnd, .ref a_g_weights, .ref a_g_alive, .ref a_g_joined], aI E a_g_oneEnd 60 g_oneEnd, aI E a_g_otherEnd 60 g_otherEnd, aI E a_g_weights 60 g_weights, aZ E a_g_alive 60 g_alive, aI E a_j_reached 16 j_reached_4, oC a_c 0 [.ref a_r, .ref a_c_gain, .ref a_c_mark, .ref a_c_bestGain, .ref a_c_bestMark], oC a_r 7 [.ref a_r_slots, .ref a_r_slotOf, .ref a_r_sets, .ref a_r_later, .ref a_r_laters, .int r_mayLeave_6, .int r_amount_7], aI E a_r_slots 4096 r_slots_8, aI E a_r_slotOf 2584 r_slotOf_9, aI E a_r_sets 2584 r_sets_10, aI E a_r_later 256 r_later_11, aI E a_r_laters 16 r_laters_12, aI E a_c_gain 256 c_gain_2, aJ E a_c_mark 256 c_mark_3, aI E a_c_bestGain 2584 c_bestGain_14, aJ E a_c_bestMark 2584 c_bestMark_15] H _ := hw
  refine lv_aload_n S.1 S.2.1 dX4_tell_28 rfl (lv_at hl 0 rfl) ?_
  refine g_get S hN hw (C := RX4) (T := TX4) (N := 7) (ci := 4) (v := .ref a_c) 0 1 iX4 k12 dX4_tell_29 rfl rfl (by decide) rfl ?_
  obtain ⟨r_17, hc_17, hf⟩ := bd_s hf
  refine g_calli (r := r_17) (wc := [oC a_c 0 [.ref a_r, .ref a_c_gain, .ref a_c_mark, .ref a_c_bestGain, .ref a_c_bestMark], oC a_r 7 [.ref a_r_slots, .ref a_r_slotOf, .ref a_r_sets, .ref a_r_later, .ref a_r_laters, .int r_mayLeave_6, .int r_amount_7], aI E a_c_bestGain 2584 c_bestGain_14]) (wr := [oC a_j 4 [.ref a_g, .ref a_c, .ref a_j_reached, .long j_told, .int j_isTold, .int j_pathsKnown_1, .int j_age], oC a_g 2 [.int g_nodes, .int g_made, .int g_living, .int g_age, .ref a_g_oneEnd, .ref a_g_otherEnd, .ref a_g_weights, .ref a_g_alive, .ref a_g_joined], aI E a_g_oneEnd 60 g_oneEnd, aI E a_g_otherEnd 60 g_otherEnd, aI E a_g_weights 60 g_weights, aZ E a_g_alive 60 g_alive, aI E a_j_reached 16 j_reached_4, aI E a_r_slots 4096 r_slots_8, aI E a_r_slotOf 2584 r_slotOf_9, aI E a_r_sets 2584 r_sets_10, aI E a_r_later 256 r_later_11, aI E a_r_laters 16 r_laters_12, aI E a_c_gain 256 c_gain_2, aJ E a_c_mark 256 c_mark_3, aJ E a_c_bestMark 2584 c_bestMark_15]) (w1 := [oC a_c 0 [.ref a_r, .ref a_c_gain, .ref a_c_mark, .ref a_c_bestGain, .ref a_c_bestMark], oC a_r 7 [.ref a_r_slots, .ref a_r_slotOf, .ref a_r_sets, .ref a_r_later, .ref a_r_laters, .int r_mayLeave_6, .int r_amount_7], aI E a_c_bestGain 2584 c_bestGain_14]) (va_runV (As := []) (rest := []) S (c_X0_found l E a_r_slots a_r_slotOf a_r_sets a_r_later a_r_laters r_mayLeave_6 r_amount_7 a_r a_c_gain a_c_mark c_bestGain_14 a_c_bestGain a_c_bestMark a_c r_17 hc_17 _) (cwV 0 S.2.2.2.2 gX4_tell_X0_found rfl rfl rfl (by decide +kernel) (rm_le (by omega) (by decide))) (preV (q := (RX0, TX0, 5)) hN hw [7, 8, 16] rfl rfl rfl rfl) rfl rfl hl.1 rfl (lv_room (Nat.le_of_ble_eq_true rfl)) dX4_tell_32 ⟨Nat.le_refl _, Nat.le_refl _⟩) hw hA [7, 8, 16] [0, 1, 2, 3, 4, 5, 6, 9, 10, 11, 12, 13, 14, 15, 17] rfl rfl rfl (by decide) (fun H locs hw => ?_)
  have hw : Wo E A s [oC a_j 4 [.ref a_g, .ref a_c, .ref a_j_reached, .long j_told, .int j_isTold, .int j_pathsKnown_1, .int j_age], oC a_g 2 [.int g_nodes, .int g_made, .int g_living, .int g_age, .ref a_g_oneEnd, .ref a_g_otherEnd, .ref a_g_weights, .ref a_g_alive, .ref a_g_joined], aI E a_g_oneEnd 60 g_oneEnd, aI E a_g_otherEnd 60 g_otherEnd, aI E a_g_weights 60 g_weights, aZ E a_g_alive 60 g_alive, aI E a_j_reached 16 j_reached_4, aI E a_r_slots 4096 r_slots_8, aI E a_r_slotOf 2584 r_slotOf_9, aI E a_r_sets 2584 r_sets_10, aI E a_r_later 256 r_later_11, aI E a_r_laters 16 r_laters_12, aI E a_c_gain 256 c_gain_2, aJ E a_c_mark 256 c_mark_3, aJ E a_c_bestMark 2584 c_bestMark_15, oC a_c 0 [.ref a_r, .ref a_c_gain, .ref a_c_mark, .ref a_c_bestGain, .ref a_c_bestMark], oC a_r 7 [.ref a_r_slots, .ref a_r_slotOf, .ref a_r_sets, .ref a_r_later, .ref a_r_laters, .int r_mayLeave_6, .int r_amount_7], aI E a_c_bestGain 2584 c_bestGain_14] H _ := hw
  refine lv_if_ne (tgt := 40) S.1 S.2.1 dX4_tell_35 (by decide) (fun h_19 => ?_) (fun h_19 => ?_)
  · replace hf := if_f h_19 hf
    refine lv_aload_n S.1 S.2.1 dX4_tell_40 rfl (lv_at hl 0 rfl) ?_
    refine lv_iconst (v := 1) S.1 S.2.1 dX4_tell_41 (by decide) ?_
    refine g_put S hN hw (C := RX4) (T := TX4) (N := 7) (ci := 4) (ty := .boolean) (w1 := [oC a_j 4 [.ref a_g, .ref a_c, .ref a_j_reached, .long j_told, .int 1, .int j_pathsKnown_1, .int j_age], oC a_g 2 [.int g_nodes, .int g_made, .int g_living, .int g_age, .ref a_g_oneEnd, .ref a_g_otherEnd, .ref a_g_weights, .ref a_g_alive, .ref a_g_joined], aI E a_g_oneEnd 60 g_oneEnd, aI E a_g_otherEnd 60 g_otherEnd, aI E a_g_weights 60 g_weights, aZ E a_g_alive 60 g_alive, aI E a_j_reached 16 j_reached_4, aI E a_r_slots 4096 r_slots_8, aI E a_r_slotOf 2584 r_slotOf_9, aI E a_r_sets 2584 r_sets_10, aI E a_r_later 256 r_later_11, aI E a_r_laters 16 r_laters_12, aI E a_c_gain 256 c_gain_2, aJ E a_c_mark 256 c_mark_3, aJ E a_c_bestMark 2584 c_bestMark_15, oC a_c 0 [.ref a_r, .ref a_c_gain, .ref a_c_mark, .ref a_c_bestGain, .ref a_c_bestMark], oC a_r 7 [.ref a_r_slots, .ref a_r_slotOf, .ref a_r_sets, .ref a_r_later, .ref a_r_laters, .int r_mayLeave_6, .int r_amount_7], aI E a_c_bestGain 2584 c_bestGain_14]) 0 4 iX4 k33 tyX4 tyX4_ok nmX4 dX4_tell_42 rfl rfl (by decide) rfl (by decide +kernel) rfl rfl (Nat.le_of_ble_eq_true rfl) rfl (fun H locs hw => ?_)
    refine lv_aload_n S.1 S.2.1 dX4_tell_45 rfl (lv_at hl 0 rfl) ?_
    refine lv_aload_n S.1 S.2.1 dX4_tell_46 rfl (lv_at hl 0 rfl) ?_
    refine g_get S hN hw (C := RX4) (T := TX4) (N := 7) (ci := 4) (v := .ref a_c) 0 1 iX4 k12 dX4_tell_47 rfl rfl (by decide) rfl ?_
    obtain ⟨r_20, hc_20, hf⟩ := bd_s hf
    refine g_calll (r := r_20) (wc := [oC a_c 0 [.ref a_r, .ref a_c_gain, .ref a_c_mark, .ref a_c_bestGain, .ref a_c_bestMark], oC a_r 7 [.ref a_r_slots, .ref a_r_slotOf, .ref a_r_sets, .ref a_r_later, .ref a_r_laters, .int r_mayLeave_6, .int r_amount_7], aJ E a_c_bestMark 2584 c_bestMark_15]) (wr := [oC a_j 4 [.ref a_g, .ref a_c, .ref a_j_reached, .long j_told, .int 1, .int j_pathsKnown_1, .int j_age], oC a_g 2 [.int g_nodes, .int g_made, .int g_living, .int g_age, .ref a_g_oneEnd, .ref a_g_otherEnd, .ref a_g_weights, .ref a_g_alive, .ref a_g_joined], aI E a_g_oneEnd 60 g_oneEnd, aI E a_g_otherEnd 60 g_otherEnd, aI E a_g_weights 60 g_weights, aZ E a_g_alive 60 g_alive, aI E a_j_reached 16 j_reached_4, aI E a_r_slots 4096 r_slots_8, aI E a_r_slotOf 2584 r_slotOf_9, aI E a_r_sets 2584 r_sets_10, aI E a_r_later 256 r_later_11, aI E a_r_laters 16 r_laters_12, aI E a_c_gain 256 c_gain_2, aJ E a_c_mark 256 c_mark_3, aI E a_c_bestGain 2584 c_bestGain_14]) (w1 := [oC a_c 0 [.ref a_r, .ref a_c_gain, .ref a_c_mark, .ref a_c_bestGain, .ref a_c_bestMark], oC a_r 7 [.ref a_r_slots, .ref a_r_slotOf, .ref a_r_sets, .ref a_r_later, .ref a_r_laters, .int r_mayLeave_6, .int r_amount_7], aJ E a_c_bestMark 2584 c_bestMark_15]) (va_runV (As := []) (rest := [.ref a_j]) S (c_X0_chosen l E a_r_slots a_r_slotOf a_r_sets a_r_later a_r_laters r_mayLeave_6 r_amount_7 a_r a_c_gain a_c_mark a_c_bestGain c_bestMark_15 a_c_bestMark a_c r_20 hc_20 _) (cwV 0 S.2.2.2.2 gX4_tell_X0_chosen rfl rfl rfl (by decide +kernel) (rm_le (by omega) (by decide))) (preV (q := (RX0, TX0, 5)) hN hw [15, 16, 14] rfl rfl rfl rfl) rfl rfl hl.1 rfl (lv_room (Nat.le_of_ble_eq_true rfl)) dX4_tell_50 ⟨Nat.le_refl _, Nat.le_refl _⟩) hw hA [15, 16, 14] [0, 1, 2, 3, 4, 5, 6, 7, 8, 9, 10, 11, 12, 13, 17] rfl rfl rfl (by decide) (fun H locs hw => ?_)
    have hw : Wo E A s [oC a_j 4 [.ref a_g, .ref a_c, .ref a_j_reached, .long j_told, .int 1, .int j_pathsKnown_1, .int j_age], oC a_g 2 [.int g_nodes, .int g_made, .int g_living, .int g_age, .ref a_g_oneEnd, .ref a_g_otherEnd, .ref a_g_weights, .ref a_g_alive, .ref a_g_joined], aI E a_g_oneEnd 60 g_oneEnd, aI E a_g_otherEnd 60 g_otherEnd, aI E a_g_weights 60 g_weights, aZ E a_g_alive 60 g_alive, aI E a_j_reached 16 j_reached_4, aI E a_r_slots 4096 r_slots_8, aI E a_r_slotOf 2584 r_slotOf_9, aI E a_r_sets 2584 r_sets_10, aI E a_r_later 256 r_later_11, aI E a_r_laters 16 r_laters_12, aI E a_c_gain 256 c_gain_2, aJ E a_c_mark 256 c_mark_3, aI E a_c_bestGain 2584 c_bestGain_14, oC a_c 0 [.ref a_r, .ref a_c_gain, .ref a_c_mark, .ref a_c_bestGain, .ref a_c_bestMark], oC a_r 7 [.ref a_r_slots, .ref a_r_slotOf, .ref a_r_sets, .ref a_r_later, .ref a_r_laters, .int r_mayLeave_6, .int r_amount_7], aJ E a_c_bestMark 2584 c_bestMark_15] H _ := hw
    refine g_put S hN hw (C := RX4) (T := TX4) (N := 7) (ci := 4) (ty := .long) (w1 := [oC a_j 4 [.ref a_g, .ref a_c, .ref a_j_reached, .long r_20, .int 1, .int j_pathsKnown_1, .int j_age], oC a_g 2 [.int g_nodes, .int g_made, .int g_living, .int g_age, .ref a_g_oneEnd, .ref a_g_otherEnd, .ref a_g_weights, .ref a_g_alive, .ref a_g_joined], aI E a_g_oneEnd 60 g_oneEnd, aI E a_g_otherEnd 60 g_otherEnd, aI E a_g_weights 60 g_weights, aZ E a_g_alive 60 g_alive, aI E a_j_reached 16 j_reached_4, aI E a_r_slots 4096 r_slots_8, aI E a_r_slotOf 2584 r_slotOf_9, aI E a_r_sets 2584 r_sets_10, aI E a_r_later 256 r_later_11, aI E a_r_laters 16 r_laters_12, aI E a_c_gain 256 c_gain_2, aJ E a_c_mark 256 c_mark_3, aI E a_c_bestGain 2584 c_bestGain_14, oC a_c 0 [.ref a_r, .ref a_c_gain, .ref a_c_mark, .ref a_c_bestGain, .ref a_c_bestMark], oC a_r 7 [.ref a_r_slots, .ref a_r_slotOf, .ref a_r_sets, .ref a_r_later, .ref a_r_laters, .int r_mayLeave_6, .int r_amount_7], aJ E a_c_bestMark 2584 c_bestMark_15]) 0 3 iX4 k65 tyX4 tyX4_ok nmX4 dX4_tell_53 rfl rfl (by decide) rfl (by decide +kernel) rfl rfl (Nat.le_of_ble_eq_true rfl) rfl (fun H locs hw => ?_)
    refine lv_iconst (v := 1) S.1 S.2.1 dX4_tell_56 (by decide) ?_
    cases hf
    exact hE _ _ _ _ (hw.sub [0, 1, 2, 3, 4, 5, 15, 16, 7, 8, 9, 10, 11, 12, 13, 14, 17, 6] rfl rfl) dX4_tell_57 (by decide)
  · replace hf := if_t h_19 hf
    refine lv_iconst (v := 0) S.1 S.2.1 dX4_tell_38 (by decide) ?_
    cases hf
    exact hE _ _ _ _ (hw.sub [0, 1, 2, 3, 4, 5, 15, 16, 7, 8, 9, 10, 11, 12, 13, 17, 14, 6] rfl rfl) dX4_tell_39 (by decide)
def f_X5_partOf (p1 : Int32) (q_part : Nat → Int32) : Option (Int32) :=
  rd 16 q_part p1 (fun y_1 => some y_1)
set_option maxHeartbeats 4000000 in
set_option maxRecDepth 100000 in
theorem c_X5_partOf (l : Launch) (E : Ev) (q_part : Nat → Int32) (a_q_part : Nat) (q_amount : Int32) (q_odd : Int32) (q_twoSided : Int32) (a_q : Nat) (p1 : Int32) (ro : Int32) (hf : f_X5_partOf p1 q_part = some ro) :
    CtI l yX5_partOf wsX5_partOf (Rm 0) E [.ref a_q, .int p1] [oC a_q 5 [.ref a_q_part, .int q_amount, .int q_odd, .int q_twoSided], aI E a_q_part 16 q_part] ro [oC a_q 5 [.ref a_q_part, .int q_amount, .int q_odd, .int q_twoSided], aI E a_q_part 16 q_part] := by
  refine ofI (cc := cX5_partOf) (maxL := 2) (own := RX5) rfl rfl (by decide) rfl rfl ?_
  intro p e s m below meth c A ls Q S hnm hN hw hA hl0 hE
  have hl : lv_has ls 2 [(0, .ref a_q), (1, .int p1)] := hl0 _ (lv_entry [.ref a_q, .int p1] (n := 2) (Nat.le_of_ble_eq_true rfl))
  have iX5 : ∀ w ∈ wsX50, w ∈ wsX5_partOf := by decide +kernel
  have k9 := S.2.2.2.2 (.fieldLink RX5 9 "PairMatching$Parts" "part" "[I") (by decide +kernel)
  unfold f_X5_partOf at hf
  refine lv_aload_n S.1 S.2.1 dX5_partOf_0 rfl (lv_at hl 0 rfl) ?_
  refine g_get S hN hw (C := RX5) (T := TX5) (N := 4) (ci := 5) (v := .ref a_q_part) 0 0 iX5 k9 dX5_partOf_1 rfl rfl (by decide) rfl ?_
  refine lv_iload_n S.1 S.2.1 dX5_partOf_4 rfl (lv_at hl 1 rfl) ?_
  obtain ⟨hi_0, hf⟩ := rd_s hf
  refine g_iald (n := 16) (f := q_part) S hN hw 1 hi_0 dX5_partOf_5 rfl ?_
  generalize q_part (p1 : Int32).toNatClampNeg = y_1 at hf ⊢
  cases hf
  exact hE _ _ _ _ hw dX5_partOf_6
def f_X5_besideLayer_L4 (g_nodes : Int32) (g_joined : Nat → Int32) (p2 : Int32) (kk_35_1 : Int32 → Option (Int32)) : Nat → Int32 → Int32 → Option (Int32)
  | 0, _, _ => none
  | n + 1, v2_3, v3_4 => (if g_nodes ≤ v3_4 then (kk_35_1 v2_3) else (if (f_X11_has p2 v3_4) = 0 then (f_X5_besideLayer_L4 g_nodes g_joined p2 kk_35_1 n v2_3 (v3_4 + 1)) else rd 16 g_joined v3_4 (fun y_9 => (f_X5_besideLayer_L4 g_nodes g_joined p2 kk_35_1 n (v2_3 ||| y_9) (v3_4 + 1)))))
def f_X5_besideLayer (F : Nat) (p2 : Int32) (g_nodes : Int32) (g_joined : Nat → Int32) : Option (Int32) :=
  (jn (fun (v2_1 : Int32) => some v2_1) (fun kk_35_1 => (f_X5_besideLayer_L4 g_nodes g_joined p2 kk_35_1 F 0 0)))
set_option maxHeartbeats 4000000 in
set_option maxRecDepth 100000 in
theorem c_X5_besideLayer (l : Launch) (E : Ev) (F : Nat) (g_nodes : Int32) (g_made : Int32) (g_living : Int32) (g_age : Int32) (a_g_oneEnd : Nat) (a_g_otherEnd : Nat) (a_g_weights : Nat) (a_g_alive : Nat) (g_joined : Nat → Int32) (a_g_joined : Nat) (a_g : Nat) (p2 : Int32) (ro : Int32) (hf : f_X5_besideLayer F p2 g_nodes g_joined = some ro) :
    CtI l yX5_besideLayer wsX5_besideLayer (Rm 1) E [.ref a_g, .int p2] [oC a_g 2 [.int g_nodes, .int g_made, .int g_living, .int g_age, .ref a_g_oneEnd, .ref a_g_otherEnd, .ref a_g_weights, .ref a_g_alive, .ref a_g_joined], aI E a_g_joined 16 g_joined] ro [oC a_g 2 [.int g_nodes, .int g_made, .int g_living, .int g_age, .ref a_g_oneEnd, .ref a_g_otherEnd, .ref a_g_weights, .ref a_g_alive, .ref a_g_joined], aI E a_g_joined 16 g_joined] := by
  refine ofI (cc := cX5_besideLayer) (maxL := 4) (own := RX5) rfl rfl (by decide) rfl rfl ?_
  intro p e s m below meth c A ls Q S hnm hN hw hA hl0 hE
  have hl : lv_has ls 4 [(0, .ref a_g), (1, .int p2)] := hl0 _ (lv_entry [.ref a_g, .int p2] (n := 4) (Nat.le_of_ble_eq_true rfl))
  have iX2 : ∀ w ∈ wsX20, w ∈ wsX5_besideLayer := by decide +kernel
  have kIX11 := S.2.2.2.2 (.initialized RX11) (by decide +kernel)
  have kSX11_has := S.2.2.2.2 (.static yX11_has) (by decide +kernel)
  have w26 : Cond.fieldLinkNest RX5 26 "PairMatching$Graph" "nodes" "I" "PairMatching" ∈ nestW := List.mem_of_getElem? (i := 3) rfl
  have w31 : Cond.methodLinkNest RX5 31 yX11_has "PairMatching" ∈ nestW := List.mem_of_getElem? (i := 78) rfl
  have w53 : Cond.fieldLinkNest RX5 53 "PairMatching$Graph" "joined" "[I" "PairMatching" ∈ nestW := List.mem_of_getElem? (i := 35) rfl
  unfold f_X5_besideLayer at hf
  refine lv_iconst (v := 0) S.1 S.2.1 dX5_besideLayer_0 (by decide) ?_
  refine lv_istore_n (lv' := [(2, .int 0), (0, .ref a_g), (1, .int p2)]) S.1 S.2.1 dX5_besideLayer_1 rfl hl (by decide) rfl (fun ls hl => ?_)
  refine lv_iconst (v := 0) S.1 S.2.1 dX5_besideLayer_2 (by decide) ?_
  refine lv_istore_n (lv' := [(3, .int 0), (2, .int 0), (0, .ref a_g), (1, .int p2)]) S.1 S.2.1 dX5_besideLayer_3 rfl hl (by decide) rfl (fun ls hl => ?_)
  obtain ⟨kk_35_1, ekk_35_1, hf⟩ := jn_s hf
  have hJ_kk_35_1 : ∀ (v2_1 : Int32) (H : Heap) (locs : List Loc) (ls : Array Slot), Wo E A s [oC a_g 2 [.int g_nodes, .int g_made, .int g_living, .int g_age, .ref a_g_oneEnd, .ref a_g_otherEnd, .ref a_g_weights, .ref a_g_alive, .ref a_g_joined], aI E a_g_joined 16 g_joined] H locs → lv_has ls 4 [(2, .int v2_1)] → kk_35_1 v2_1 = some ro → W p l e (Rm 1) s m (([.ref a_g, .int p2] : List Value).toArray) below meth c H locs 0 0 Q (F0 m 35 ls []) := by
    intro v2_1 H locs ls hw hl hf
    rw [ekk_35_1] at hf
    refine lv_iload_n S.1 S.2.1 dX5_besideLayer_35 rfl (lv_at hl 0 rfl) ?_
    cases hf
    exact hE _ _ _ _ hw dX5_besideLayer_36
  have hL_4_9 : ∀ (n : Nat) (v2_3 : Int32) (v3_4 : Int32) (H : Heap) (locs : List Loc) (ls : Array Slot), Wo E A s [oC a_g 2 [.int g_nodes, .int g_made, .int g_living, .int g_age, .ref a_g_oneEnd, .ref a_g_otherEnd, .ref a_g_weights, .ref a_g_alive, .ref a_g_joined], aI E a_g_joined 16 g_joined] H locs → lv_has ls 4 [(0, .ref a_g), (1, .int p2), (2, .int v2_3), (3, .int v3_4)] → f_X5_besideLayer_L4 g_nodes g_joined p2 kk_35_1 n v2_3 v3_4 = some ro → W p l e (Rm 1) s m (([.ref a_g, .int p2] : List Value).toArray) below meth c H locs 0 0 Q (F0 m 4 ls []) := by
    intro n
    induction n with
    | zero => intro v2_3 v3_4 H locs ls hw hl hf; unfold f_X5_besideLayer_L4 at hf; cases hf
    | succ n ih =>
      intro v2_3 v3_4 H locs ls hw hl hf
      unfold f_X5_besideLayer_L4 at hf
      refine lv_iload_n S.1 S.2.1 dX5_besideLayer_4 rfl (lv_at hl 3 rfl) ?_
      refine lv_aload_n S.1 S.2.1 dX5_besideLayer_5 rfl (lv_at hl 0 rfl) ?_
      refine g_getN S hN hw (C := RX2) (T := TX2) (N := 9) (ci := 2) (v := .int g_nodes) 0 0 iX2 w26 dX5_besideLayer_6 rfl rfl (by decide) rfl ?_
      refine lv_icmp_ge (tgt := 35) S.1 S.2.1 dX5_besideLayer_9 (by decide) (fun h_5 => ?_) (fun h_5 => ?_)
      · replace hf := if_t h_5 hf
        exact hJ_kk_35_1 v2_3 _ _ _ hw (lv_sub hl [2] rfl) hf
      · replace hf := if_f h_5 hf
        refine lv_iload_n S.1 S.2.1 dX5_besideLayer_12 rfl (lv_at hl 1 rfl) ?_
        refine lv_iload_n S.1 S.2.1 dX5_besideLayer_13 rfl (lv_at hl 3 rfl) ?_
        refine g_calli (r := (f_X11_has p2 v3_4)) (wc := []) (wr := [oC a_g 2 [.int g_nodes, .int g_made, .int g_living, .int g_age, .ref a_g_oneEnd, .ref a_g_otherEnd, .ref a_g_weights, .ref a_g_alive, .ref a_g_joined], aI E a_g_joined 16 g_joined]) (w1 := []) (va_runSN (As := [.int p2, .int v3_4]) (rest := []) S (c_X11_has l E p2 v3_4 (f_X11_has p2 v3_4) rfl _) ⟨(va_cnB 2 S.2.2.2.2 gX5_besideLayer_X11_has_n31 rfl rfl rfl (hN.2 _ w31) kIX11 (by decide +kernel) (rm_le (by omega) (by decide))), kSX11_has, trivial⟩ (preS hN hw [] rfl rfl) rfl rfl hl.1 rfl (lv_room (Nat.le_of_ble_eq_true rfl)) dX5_besideLayer_14 ⟨Nat.le_refl _, Nat.le_refl _⟩) hw hA [] [0, 1] rfl rfl rfl (by decide) (fun H locs hw => ?_)
        have hw : Wo E A s [oC a_g 2 [.int g_nodes, .int g_made, .int g_living, .int g_age, .ref a_g_oneEnd, .ref a_g_otherEnd, .ref a_g_weights, .ref a_g_alive, .ref a_g_joined], aI E a_g_joined 16 g_joined] H _ := hw
        refine lv_if_eq (tgt := 29) S.1 S.2.1 dX5_besideLayer_17 (by decide) (fun h_8 => ?_) (fun h_8 => ?_)
        · replace hf := if_t h_8 hf
          refine lv_iinc (v := (v3_4 + 1)) (lv' := [(3, .int (v3_4 + 1)), (0, .ref a_g), (1, .int p2), (2, .int v2_3)]) S.1 S.2.1 dX5_besideLayer_29 hl (k := 3) rfl rfl (by decide) rfl (fun ls hl => ?_)
          refine lv_goto (tgt := 4) S.1 S.2.1 dX5_besideLayer_32 (by decide) ?_
          exact ih v2_3 (v3_4 + 1) _ _ _ hw (lv_sub hl [1, 2, 3, 0] rfl) hf
        · replace hf := if_f h_8 hf
          refine lv_iload_n S.1 S.2.1 dX5_besideLayer_20 rfl (lv_at hl 2 rfl) ?_
          refine lv_aload_n S.1 S.2.1 dX5_besideLayer_21 rfl (lv_at hl 0 rfl) ?_
          refine g_getN S hN hw (C := RX2) (T := TX2) (N := 9) (ci := 2) (v := .ref a_g_joined) 0 8 iX2 w53 dX5_besideLayer_22 rfl rfl (by decide) rfl ?_
          refine lv_iload_n S.1 S.2.1 dX5_besideLayer_25 rfl (lv_at hl 3 rfl) ?_
          obtain ⟨hi_8, hf⟩ := rd_s hf
          refine g_iald (n := 16) (f := g_joined) S hN hw 1 hi_8 dX5_besideLayer_26 rfl ?_
          generalize g_joined (v3_4 : Int32).toNatClampNeg = y_9 at hf ⊢
          refine lv_ior S.1 S.2.1 dX5_besideLayer_27 ?_
          refine lv_istore_n (lv' := [(2, .int (v2_3 ||| y_9)), (0, .ref a_g), (1, .int p2), (3, .int v3_4)]) S.1 S.2.1 dX5_besideLayer_28 rfl hl (by decide) rfl (fun ls hl => ?_)
          refine lv_iinc (v := (v3_4 + 1)) (lv' := [(3, .int (v3_4 + 1)), (2, .int (v2_3 ||| y_9)), (0, .ref a_g), (1, .int p2)]) S.1 S.2.1 dX5_besideLayer_29 hl (k := 3) rfl rfl (by decide) rfl (fun ls hl => ?_)
          refine lv_goto (tgt := 4) S.1 S.2.1 dX5_besideLayer_32 (by decide) ?_
          exact ih (v2_3 ||| y_9) (v3_4 + 1) _ _ _ hw (lv_sub hl [2, 3, 1, 0] rfl) hf
  exact hL_4_9 F 0 0 _ _ _ hw (lv_sub hl [2, 3, 1, 0] rfl) hf
def f_X5_grow_L12 (F : Nat) (g_nodes : Int32) (g_joined : Nat → Int32) (p2 : Int32) (kk_71_2 : Int32 → Int32 → Option (Int32 × Int32)) : Nat → Int32 → Int32 → Int32 → Int32 → Option (Int32 × Int32)
  | 0, _, _, _, _ => none
  | n + 1, v4_4, v5_5, v6_6, q_twoSided_7 => (if g_nodes ≤ v6_6 then (kk_71_2 v4_4 q_twoSided_7) else (if v5_5 = 0 then (kk_71_2 v4_4 q_twoSided_7) else (f_X5_besideLayer F v5_5 g_nodes g_joined).bind (fun r_10 => (jn (fun (q_twoSided_12 : Int32) => (f_X5_grow_L12 F g_nodes g_joined p2 kk_71_2 n (v4_4 ||| ((r_10 &&& p2) &&& (v4_4 ^^^ (-1)))) ((r_10 &&& p2) &&& (v4_4 ^^^ (-1))) (v6_6 + 1) q_twoSided_12)) (fun jj_49_12 => (if ((r_10 &&& p2) &&& v5_5) = 0 then (jj_49_12 q_twoSided_7) else (jj_49_12 0)))))))
def f_X5_grow (F : Nat) (p2 : Int32) (p3 : Int32) (q_twoSided : Int32) (g_nodes : Int32) (g_joined : Nat → Int32) : Option (Int32 × Int32) :=
  (jn (fun (v4_1 : Int32) (q_twoSided_2 : Int32) => some (v4_1, q_twoSided_2)) (fun kk_71_2 => (f_X5_grow_L12 F g_nodes g_joined p2 kk_71_2 F ((1 : Int32) <<< (p3 &&& 31)) ((1 : Int32) <<< (p3 &&& 31)) 0 q_twoSided)))
set_option maxHeartbeats 4000000 in
set_option maxRecDepth 100000 in
theorem c_X5_grow (l : Launch) (E : Ev) (F : Nat) (a_q_part : Nat) (q_amount : Int32) (q_odd : Int32) (q_twoSided : Int32) (a_q : Nat) (g_nodes : Int32) (g_made : Int32) (g_living : Int32) (g_age : Int32) (a_g_oneEnd : Nat) (a_g_otherEnd : Nat) (a_g_weights : Nat) (a_g_alive : Nat) (g_joined : Nat → Int32) (a_g_joined : Nat) (a_g : Nat) (p2 : Int32) (p3 : Int32) (ro : Int32) (u_q_twoSided : Int32) (hf : f_X5_grow F p2 p3 q_twoSided g_nodes g_joined = some (ro, u_q_twoSided)) :
    CtI l yX5_grow wsX5_grow (Rm 2) E [.ref a_q, .ref a_g, .int p2, .int p3] [oC a_q 5 [.ref a_q_part, .int q_amount, .int q_odd, .int q_twoSided], oC a_g 2 [.int g_nodes, .int g_made, .int g_living, .int g_age, .ref a_g_oneEnd, .ref a_g_otherEnd, .ref a_g_weights, .ref a_g_alive, .ref a_g_joined], aI E a_g_joined 16 g_joined] ro [oC a_q 5 [.ref a_q_part, .int q_amount, .int q_odd, .int u_q_twoSided], oC a_g 2 [.int g_nodes, .int g_made, .int g_living, .int g_age, .ref a_g_oneEnd, .ref a_g_otherEnd, .ref a_g_weights, .ref a_g_alive, .ref a_g_joined], aI E a_g_joined 16 g_joined] := by
  refine ofI (cc := cX5_grow) (maxL := 8) (own := RX5) rfl rfl (by decide) rfl rfl ?_
  intro p e s m below meth c A ls Q S hnm hN hw hA hl0 hE
  have hl : lv_has ls 8 [(0, .ref a_q), (1, .ref a_g), (2, .int p2), (3, .int p3)] := hl0 _ (lv_entry [.ref a_q, .ref a_g, .int p2, .int p3] (n := 8) (Nat.le_of_ble_eq_true rfl))
  have iX2 : ∀ w ∈ wsX20, w ∈ wsX5_grow := by decide +kernel
  have iX5 : ∀ w ∈ wsX50, w ∈ wsX5_grow := by decide +kernel
  have k22 := S.2.2.2.2 (.fieldLink RX5 22 "PairMatching$Parts" "twoSided" "Z") (by decide +kernel)
  have w26 : Cond.fieldLinkNest RX5 26 "PairMatching$Graph" "nodes" "I" "PairMatching" ∈ nestW := List.mem_of_getElem? (i := 3) rfl
  unfold f_X5_grow at hf
  refine lv_iconst (v := 1) S.1 S.2.1 dX5_grow_0 (by decide) ?_
  refine lv_iload_n S.1 S.2.1 dX5_grow_1 rfl (lv_at hl 3 rfl) ?_
  refine lv_ishl S.1 S.2.1 dX5_grow_2 ?_
  refine lv_istore (lv' := [(4, .int ((1 : Int32) <<< (p3 &&& 31))), (0, .ref a_q), (1, .ref a_g), (2, .int p2), (3, .int p3)]) S.1 S.2.1 dX5_grow_3 hl (by decide) rfl (fun ls hl => ?_)
  refine lv_iload S.1 S.2.1 dX5_grow_5 (lv_at hl 0 rfl) ?_
  refine lv_istore (lv' := [(5, .int ((1 : Int32) <<< (p3 &&& 31))), (4, .int ((1 : Int32) <<< (p3 &&& 31))), (0, .ref a_q), (1, .ref a_g), (2, .int p2), (3, .int p3)]) S.1 S.2.1 dX5_grow_7 hl (by decide) rfl (fun ls hl => ?_)
  refine lv_iconst (v := 0) S.1 S.2.1 dX5_grow_9 (by decide) ?_
  refine lv_istore (lv' := [(6, .int 0), (5, .int ((1 : Int32) <<< (p3 &&& 31))), (4, .int ((1 : Int32) <<< (p3 &&& 31))), (0, .ref a_q), (1, .ref a_g), (2, .int p2), (3, .int p3)]) S.1 S.2.1 dX5_grow_10 hl (by decide) rfl (fun ls hl => ?_)
  obtain ⟨kk_71_2, ekk_71_2, hf⟩ := jn_s hf
  have hJ_kk_71_2 : ∀ (v4_1 : Int32) (q_twoSided_2 : Int32) (H : Heap) (locs : List Loc) (ls : Array Slot), Wo E A s [oC a_q 5 [.ref a_q_part, .int q_amount, .int q_odd, .int q_twoSided_2], oC a_g 2 [.int g_nodes, .int g_made, .int g_living, .int g_age, .ref a_g_oneEnd, .ref a_g_otherEnd, .ref a_g_weights, .ref a_g_alive, .ref a_g_joined], aI E a_g_joined 16 g_joined] H locs → lv_has ls 8 [(4, .int v4_1)] → kk_71_2 v4_1 q_twoSided_2 = some (ro, u_q_twoSided) → W p l e (Rm 2) s m (([.ref a_q, .ref a_g, .int p2, .int p3] : List Value).toArray) below meth c H locs 0 0 Q (F0 m 71 ls []) := by
    intro v4_1 q_twoSided_2 H locs ls hw hl hf
    rw [ekk_71_2] at hf
    refine lv_iload S.1 S.2.1 dX5_grow_71 (lv_at hl 0 rfl) ?_
    cases hf
    exact hE _ _ _ _ hw dX5_grow_73
  have hL_12_14 : ∀ (n : Nat) (v4_4 : Int32) (v5_5 : Int32) (v6_6 : Int32) (q_twoSided_7 : Int32) (H : Heap) (locs : List Loc) (ls : Array Slot), Wo E A s [oC a_q 5 [.ref a_q_part, .int q_amount, .int q_odd, .int q_twoSided_7], oC a_g 2 [.int g_nodes, .int g_made, .int g_living, .int g_age, .ref a_g_oneEnd, .ref a_g_otherEnd, .ref a_g_weights, .ref a_g_alive, .ref a_g_joined], aI E a_g_joined 16 g_joined] H locs → lv_has ls 8 [(0, .ref a_q), (1, .ref a_g), (2, .int p2), (4, .int v4_4), (5, .int v5_5), (6, .int v6_6)] → f_X5_grow_L12 F g_nodes g_joined p2 kk_71_2 n v4_4 v5_5 v6_6 q_twoSided_7 = some (ro, u_q_twoSided) → W p l e (Rm 2) s m (([.ref a_q, .ref a_g, .int p2, .int p3] : List Value).toArray) below meth c H locs 0 0 Q (F0 m 12 ls []) := by
    intro n
    induction n with
    | zero => intro v4_4 v5_5 v6_6 q_twoSided_7 H locs ls hw hl hf; unfold f_X5_grow_L12 at hf; cases hf
    | succ n ih =>
      intro v4_4 v5_5 v6_6 q_twoSided_7 H locs ls hw hl hf
      unfold f_X5_grow_L12 at hf
      refine lv_iload S.1 S.2.1 dX5_grow_12 (lv_at hl 5 rfl) ?_
      refine lv_aload_n S.1 S.2.1 dX5_grow_14 rfl (lv_at hl 1 rfl) ?_
      refine g_getN S hN hw (C := RX2) (T := TX2) (N := 9) (ci := 2) (v := .int g_nodes) 1 0 iX2 w26 dX5_grow_15 rfl rfl (by decide) rfl ?_
      refine lv_icmp_ge (tgt := 71) S.1 S.2.1 dX5_grow_18 (by decide) (fun h_8 => ?_) (fun h_8 => ?_)
      · replace hf := if_t h_8 hf
        exact hJ_kk_71_2 v4_4 q_twoSided_7 _ _ _ hw (lv_sub hl [3] rfl) hf
      · replace hf := if_f h_8 hf
        refine lv_iload S.1 S.2.1 dX5_grow_21 (lv_at hl 4 rfl) ?_
        refine lv_if_eq (tgt := 71) S.1 S.2.1 dX5_grow_23 (by decide) (fun h_9 => ?_) (fun h_9 => ?_)
        · replace hf := if_t h_9 hf
          exact hJ_kk_71_2 v4_4 q_twoSided_7 _ _ _ hw (lv_sub hl [3] rfl) hf
        · replace hf := if_f h_9 hf
          refine lv_aload_n S.1 S.2.1 dX5_grow_26 rfl (lv_at hl 1 rfl) ?_
          refine lv_iload S.1 S.2.1 dX5_grow_27 (lv_at hl 4 rfl) ?_
          obtain ⟨r_10, hc_10, hf⟩ := bd_s hf
          refine g_calli (r := r_10) (wc := [oC a_g 2 [.int g_nodes, .int g_made, .int g_living, .int g_age, .ref a_g_oneEnd, .ref a_g_otherEnd, .ref a_g_weights, .ref a_g_alive, .ref a_g_joined], aI E a_g_joined 16 g_joined]) (wr := [oC a_q 5 [.ref a_q_part, .int q_amount, .int q_odd, .int q_twoSided_7]]) (w1 := [oC a_g 2 [.int g_nodes, .int g_made, .int g_living, .int g_age, .ref a_g_oneEnd, .ref a_g_otherEnd, .ref a_g_weights, .ref a_g_alive, .ref a_g_joined], aI E a_g_joined 16 g_joined]) (va_runS (As := [.ref a_g, .int v5_5]) (rest := []) S (c_X5_besideLayer l E F g_nodes g_made g_living g_age a_g_oneEnd a_g_otherEnd a_g_weights a_g_alive g_joined a_g_joined a_g v5_5 r_10 hc_10 _) (va_cwS 2 S.2.2.2.2 gX5_grow_X5_besideLayer rfl rfl rfl (by decide +kernel) (rm_le (by omega) (by decide))) (preS hN hw [1, 2] rfl rfl) rfl rfl hl.1 rfl (lv_room (Nat.le_of_ble_eq_true rfl)) dX5_grow_29 ⟨Nat.le_refl _, Nat.le_refl _⟩) hw hA [1, 2] [0] rfl rfl rfl (by decide) (fun H locs hw => ?_)
          have hw : Wo E A s [oC a_q 5 [.ref a_q_part, .int q_amount, .int q_odd, .int q_twoSided_7], oC a_g 2 [.int g_nodes, .int g_made, .int g_living, .int g_age, .ref a_g_oneEnd, .ref a_g_otherEnd, .ref a_g_weights, .ref a_g_alive, .ref a_g_joined], aI E a_g_joined 16 g_joined] H _ := hw
          refine lv_iload_n S.1 S.2.1 dX5_grow_32 rfl (lv_at hl 2 rfl) ?_
          refine lv_iand S.1 S.2.1 dX5_grow_33 ?_
          refine lv_istore (lv' := [(7, .int (r_10 &&& p2)), (0, .ref a_q), (1, .ref a_g), (2, .int p2), (4, .int v4_4), (5, .int v5_5), (6, .int v6_6)]) S.1 S.2.1 dX5_grow_34 hl (by decide) rfl (fun ls hl => ?_)
          refine lv_iload S.1 S.2.1 dX5_grow_36 (lv_at hl 0 rfl) ?_
          refine lv_iload S.1 S.2.1 dX5_grow_38 (lv_at hl 5 rfl) ?_
          refine lv_iand S.1 S.2.1 dX5_grow_40 ?_
          obtain ⟨jj_49_12, ejj_49_12, hf⟩ := jn_s hf
          have hJ_jj_49_12 : ∀ (q_twoSided_12 : Int32) (H : Heap) (locs : List Loc) (ls : Array Slot), Wo E A s [oC a_q 5 [.ref a_q_part, .int q_amount, .int q_odd, .int q_twoSided_12], oC a_g 2 [.int g_nodes, .int g_made, .int g_living, .int g_age, .ref a_g_oneEnd, .ref a_g_otherEnd, .ref a_g_weights, .ref a_g_alive, .ref a_g_joined], aI E a_g_joined 16 g_joined] H locs → lv_has ls 8 [(0, .ref a_q), (1, .ref a_g), (2, .int p2), (4, .int v4_4), (6, .int v6_6), (7, .int (r_10 &&& p2))] → jj_49_12 q_twoSided_12 = some (ro, u_q_twoSided) → W p l e (Rm 2) s m (([.ref a_q, .ref a_g, .int p2, .int p3] : List Value).toArray) below meth c H locs 0 0 Q (F0 m 49 ls []) := by
            intro q_twoSided_12 H locs ls hw hl hf
            rw [ejj_49_12] at hf
            refine lv_iload S.1 S.2.1 dX5_grow_49 (lv_at hl 5 rfl) ?_
            refine lv_iload S.1 S.2.1 dX5_grow_51 (lv_at hl 3 rfl) ?_
            refine lv_iconst (v := (-1)) S.1 S.2.1 dX5_grow_53 (by decide) ?_
            refine lv_ixor S.1 S.2.1 dX5_grow_54 ?_
            refine lv_iand S.1 S.2.1 dX5_grow_55 ?_
            refine lv_istore (lv' := [(5, .int ((r_10 &&& p2) &&& (v4_4 ^^^ (-1)))), (0, .ref a_q), (1, .ref a_g), (2, .int p2), (4, .int v4_4), (6, .int v6_6), (7, .int (r_10 &&& p2))]) S.1 S.2.1 dX5_grow_56 hl (by decide) rfl (fun ls hl => ?_)
            refine lv_iload S.1 S.2.1 dX5_grow_58 (lv_at hl 4 rfl) ?_
            refine lv_iload S.1 S.2.1 dX5_grow_60 (lv_at hl 0 rfl) ?_
            refine lv_ior S.1 S.2.1 dX5_grow_62 ?_
            refine lv_istore (lv' := [(4, .int (v4_4 ||| ((r_10 &&& p2) &&& (v4_4 ^^^ (-1))))), (5, .int ((r_10 &&& p2) &&& (v4_4 ^^^ (-1)))), (0, .ref a_q), (1, .ref a_g), (2, .int p2), (6, .int v6_6), (7, .int (r_10 &&& p2))]) S.1 S.2.1 dX5_grow_63 hl (by decide) rfl (fun ls hl => ?_)
            refine lv_iinc (v := (v6_6 + 1)) (lv' := [(6, .int (v6_6 + 1)), (4, .int (v4_4 ||| ((r_10 &&& p2) &&& (v4_4 ^^^ (-1))))), (5, .int ((r_10 &&& p2) &&& (v4_4 ^^^ (-1)))), (0, .ref a_q), (1, .ref a_g), (2, .int p2), (7, .int (r_10 &&& p2))]) S.1 S.2.1 dX5_grow_65 hl (k := 5) rfl rfl (by decide) rfl (fun ls hl => ?_)
            refine lv_goto (tgt := 12) S.1 S.2.1 dX5_grow_68 (by decide) ?_
            exact ih (v4_4 ||| ((r_10 &&& p2) &&& (v4_4 ^^^ (-1)))) ((r_10 &&& p2) &&& (v4_4 ^^^ (-1))) (v6_6 + 1) q_twoSided_12 _ _ _ hw (lv_sub hl [3, 4, 5, 1, 2, 0] rfl) hf
          refine lv_if_eq (tgt := 49) S.1 S.2.1 dX5_grow_41 (by decide) (fun h_14 => ?_) (fun h_14 => ?_)
          · replace hf := if_t h_14 hf
            exact hJ_jj_49_12 q_twoSided_7 _ _ _ hw (lv_sub hl [1, 2, 3, 4, 6, 0] rfl) hf
          · replace hf := if_f h_14 hf
            refine lv_aload_n S.1 S.2.1 dX5_grow_44 rfl (lv_at hl 1 rfl) ?_
            refine lv_iconst (v := 0) S.1 S.2.1 dX5_grow_45 (by decide) ?_
            refine g_put S hN hw (C := RX5) (T := TX5) (N := 4) (ci := 5) (ty := .boolean) (w1 := [oC a_q 5 [.ref a_q_part, .int q_amount, .int q_odd, .int 0], oC a_g 2 [.int g_nodes, .int g_made, .int g_living, .int g_age, .ref a_g_oneEnd, .ref a_g_otherEnd, .ref a_g_weights, .ref a_g_alive, .ref a_g_joined], aI E a_g_joined 16 g_joined]) 0 3 iX5 k22 tyX5 tyX5_ok nmX5 dX5_grow_46 rfl rfl (by decide) rfl (by decide +kernel) rfl rfl (Nat.le_of_ble_eq_true rfl) rfl (fun H locs hw => ?_)
            exact hJ_jj_49_12 0 _ _ _ hw (lv_sub hl [1, 2, 3, 4, 6, 0] rfl) hf
  exact hL_12_14 F ((1 : Int32) <<< (p3 &&& 31)) ((1 : Int32) <<< (p3 &&& 31)) 0 q_twoSided _ _ _ hw (lv_sub hl [3, 4, 5, 2, 1, 0] rfl) hf
