def f_X12_findCover_L102 (F : Nat) (m_made : Int32) (m_from : Nat → Int32) (m_to : Nat → Int32) (m_alive : Nat → Int32) (m_most : Nat → Int32) (kk_194_11 : (Nat → Int32) → Option (Int32 × (Nat → Int32))) : Nat → Int32 → Int32 → Int32 → (Nat → Int32) → Option (Int32 × (Nat → Int32))
  | 0, _, _, _, _ => none
  | n + 1, v2_13, v3_14, v4_15, m_inCover_16 => (if m_made ≤ v4_15 then (kk_194_11 m_inCover_16) else (if v3_14 ≤ 0 then (kk_194_11 m_inCover_16) else rd 60 m_alive v4_15 (fun y_19 => (if y_19 = 0 then (f_X12_findCover_L102 F m_made m_from m_to m_alive m_most kk_194_11 n v2_13 v3_14 (v4_15 + 1) m_inCover_16) else rd 60 m_from v4_15 (fun y_21 => rd 60 m_to v4_15 (fun y_22 => ltt ((v2_13 &&& (((1 : Int32) <<< (y_21 &&& 31)) ^^^ (-1))) &&& (((1 : Int32) <<< (y_22 &&& 31)) ^^^ (-1))) (fun x_23 => (f_X12_bits F x_23).bind (fun r_24 => rd 65536 m_most x_23 (fun y_26 => (if (r_24 - y_26) = (v3_14 - 1) then wr 60 m_inCover_16 v4_15 1 (fun m_inCover_28 => (f_X12_findCover_L102 F m_made m_from m_to m_alive m_most kk_194_11 n x_23 (v3_14 + (-1)) (v4_15 + 1) m_inCover_28)) else (f_X12_findCover_L102 F m_made m_from m_to m_alive m_most kk_194_11 n v2_13 v3_14 (v4_15 + 1) m_inCover_16)))))))))))
def f_X12_findCover_L4 (m_made : Int32) (m_from : Nat → Int32) (m_to : Nat → Int32) (m_alive : Nat → Int32) (kk_58_33 : Int32 → (Nat → Int32) → Option (Int32 × (Nat → Int32))) : Nat → Int32 → Int32 → (Nat → Int32) → Option (Int32 × (Nat → Int32))
  | 0, _, _, _ => none
  | n + 1, v1_35, v2_36, m_inCover_37 => (if m_made ≤ v2_36 then (kk_58_33 v1_35 m_inCover_37) else wr 60 m_inCover_37 v2_36 0 (fun m_inCover_39 => rd 60 m_alive v2_36 (fun y_40 => (jn (fun (z_41 : Int32) => (f_X12_findCover_L4 m_made m_from m_to m_alive kk_58_33 n (v1_35 ||| z_41) (v2_36 + 1) m_inCover_39)) (fun jj_50_41 => (if y_40 = 0 then (jj_50_41 0) else rd 60 m_from v2_36 (fun y_44 => rd 60 m_to v2_36 (fun y_45 => (jj_50_41 (((1 : Int32) <<< (y_44 &&& 31)) ||| ((1 : Int32) <<< (y_45 &&& 31))))))))))))
def f_X12_findCover (F : Nat) (m_nodes : Int32) (m_made : Int32) (m_from : Nat → Int32) (m_to : Nat → Int32) (m_alive : Nat → Int32) (m_most : Nat → Int32) (m_inCover : Nat → Int32) : Option (Int32 × (Nat → Int32)) :=
  (jn (fun (v1_1 : Int32) (m_inCover_2 : Nat → Int32) => (jn (fun (z_5 : Int32) => (jn (fun (m_inCover_9 : Nat → Int32) => some (z_5, m_inCover_9)) (fun kk_194_11 => (f_X12_findCover_L102 F m_made m_from m_to m_alive m_most kk_194_11 F (f_X12_all m_nodes) z_5 0 m_inCover_2)))) (fun jj_86_5 => (if v1_1 = (f_X12_all m_nodes) then rd 65536 m_most (f_X12_all m_nodes) (fun y_33 => (jj_86_5 (m_nodes - y_33))) else (jj_86_5 (-3)))))) (fun kk_58_33 => (f_X12_findCover_L4 m_made m_from m_to m_alive kk_58_33 F 0 0 m_inCover)))
set_option maxHeartbeats 4000000 in
set_option maxRecDepth 100000 in
theorem c_X12_findCover (l : Launch) (E : Ev) (F : Nat) (m_nodes : Int32) (m_made : Int32) (m_from : Nat → Int32) (a_m_from : Nat) (m_to : Nat → Int32) (a_m_to : Nat) (a_m_weighs : Nat) (m_alive : Nat → Int32) (a_m_alive : Nat) (a_m_ranks : Nat) (m_known : Int32) (a_m_best : Nat) (m_most : Nat → Int32) (a_m_most : Nat) (a_m_apart : Nat) (a_m_near : Nat) (a_m_worth : Nat) (a_m_mates : Nat) (a_m_sizes : Nat) (a_m_sums : Nat) (a_m_has : Nat) (a_m_sorts : Nat) (a_m_pieces : Nat) (m_pieceCount : Int32) (m_parts : Int32) (m_halves : Int32) (m_inCover : Nat → Int32) (a_m_inCover : Nat) (m_coverSize : Int32) (m_holdSet : Int32) (a_m_pairCost : Nat) (a_m_inJoin : Nat) (m_hasJoin : Int32) (a_m_half : Nat) (a_m_way : Nat) (a_m_counts : Nat) (a_m_lastCounts : Nat) (a_m_openArc : Nat) (a_m_with : Nat) (a_m_tried : Nat) (m_stables : Int32) (m_firstSet : Int64) (a_m : Nat) (u_m_coverSize : Int32) (u_m_inCover : Nat → Int32) (hf : f_X12_findCover F m_nodes m_made m_from m_to m_alive m_most m_inCover = some (u_m_coverSize, u_m_inCover)) :
    CtV l yX12_findCover wsX12_findCover (Rm 1) E [.ref a_m] [oC a_m 12 [.int m_nodes, .int m_made, .ref a_m_from, .ref a_m_to, .ref a_m_weighs, .ref a_m_alive, .ref a_m_ranks, .int m_known, .ref a_m_best, .ref a_m_most, .ref a_m_apart, .ref a_m_near, .ref a_m_worth, .ref a_m_mates, .ref a_m_sizes, .ref a_m_sums, .ref a_m_has, .ref a_m_sorts, .ref a_m_pieces, .int m_pieceCount, .int m_parts, .int m_halves, .ref a_m_inCover, .int m_coverSize, .int m_holdSet, .ref a_m_pairCost, .ref a_m_inJoin, .int m_hasJoin, .ref a_m_half, .ref a_m_way, .ref a_m_counts, .ref a_m_lastCounts, .ref a_m_openArc, .ref a_m_with, .ref a_m_tried, .int m_stables, .long m_firstSet], aI E a_m_from 60 m_from, aI E a_m_to 60 m_to, aZ E a_m_alive 60 m_alive, aB E a_m_most 65536 m_most, aZ E a_m_inCover 60 m_inCover] [oC a_m 12 [.int m_nodes, .int m_made, .ref a_m_from, .ref a_m_to, .ref a_m_weighs, .ref a_m_alive, .ref a_m_ranks, .int m_known, .ref a_m_best, .ref a_m_most, .ref a_m_apart, .ref a_m_near, .ref a_m_worth, .ref a_m_mates, .ref a_m_sizes, .ref a_m_sums, .ref a_m_has, .ref a_m_sorts, .ref a_m_pieces, .int m_pieceCount, .int m_parts, .int m_halves, .ref a_m_inCover, .int u_m_coverSize, .int m_holdSet, .ref a_m_pairCost, .ref a_m_inJoin, .int m_hasJoin, .ref a_m_half, .ref a_m_way, .ref a_m_counts, .ref a_m_lastCounts, .ref a_m_openArc, .ref a_m_with, .ref a_m_tried, .int m_stables, .long m_firstSet], aI E a_m_from 60 m_from, aI E a_m_to 60 m_to, aZ E a_m_alive 60 m_alive, aB E a_m_most 65536 m_most, aZ E a_m_inCover 60 u_m_inCover] := by
  refine ofV (cc := cX12_findCover) (maxL := 6) (own := RX12) rfl rfl (by decide) rfl rfl ?_
  intro p e s m below meth c A ls Q S hnm hN hw hA hl0 hE
  have hE2 : ∀ (H : Heap) (locs : List Loc) (pc : Nat) (ls : Array Slot) (w' : va_W), Wo E A s w' H locs → w' = [oC a_m 12 [.int m_nodes, .int m_made, .ref a_m_from, .ref a_m_to, .ref a_m_weighs, .ref a_m_alive, .ref a_m_ranks, .int m_known, .ref a_m_best, .ref a_m_most, .ref a_m_apart, .ref a_m_near, .ref a_m_worth, .ref a_m_mates, .ref a_m_sizes, .ref a_m_sums, .ref a_m_has, .ref a_m_sorts, .ref a_m_pieces, .int m_pieceCount, .int m_parts, .int m_halves, .ref a_m_inCover, .int u_m_coverSize, .int m_holdSet, .ref a_m_pairCost, .ref a_m_inJoin, .int m_hasJoin, .ref a_m_half, .ref a_m_way, .ref a_m_counts, .ref a_m_lastCounts, .ref a_m_openArc, .ref a_m_with, .ref a_m_tried, .int m_stables, .long m_firstSet], aI E a_m_from 60 m_from, aI E a_m_to 60 m_to, aZ E a_m_alive 60 m_alive, aB E a_m_most 65536 m_most, aZ E a_m_inCover 60 u_m_inCover] → decode cX12_findCover pc = .ok (.return_, 1) → W p l e (Rm 1) s m (([.ref a_m] : List Value).toArray) below meth c H locs 0 0 Q (F0 m pc ls []) := by
    intro H locs pc ls w' hw e1 hd
    subst e1
    exact hE H locs pc ls hw hd
  have hl : lv_has ls 6 [(0, .ref a_m)] := hl0 _ (lv_entry [.ref a_m] (n := 6) (Nat.le_of_ble_eq_true rfl))
  have iX12 : ∀ w ∈ wsX120, w ∈ wsX12_findCover := by decide +kernel
  have k13 := S.2.2.2.2 (.fieldLink RX12 13 "PairMatchingModel" "to" "[I") (by decide +kernel)
  have k134 := S.2.2.2.2 (.fieldLink RX12 134 "PairMatchingModel" "coverSize" "I") (by decide +kernel)
  have k19 := S.2.2.2.2 (.fieldLink RX12 19 "PairMatchingModel" "alive" "[Z") (by decide +kernel)
  have k30 := S.2.2.2.2 (.fieldLink RX12 30 "PairMatchingModel" "most" "[B") (by decide +kernel)
  have k61 := S.2.2.2.2 (.fieldLink RX12 61 "PairMatchingModel" "inCover" "[Z") (by decide +kernel)
  have k7 := S.2.2.2.2 (.fieldLink RX12 7 "PairMatchingModel" "from" "[I") (by decide +kernel)
  have k92 := S.2.2.2.2 (.fieldLink RX12 92 "PairMatchingModel" "nodes" "I") (by decide +kernel)
  have k97 := S.2.2.2.2 (.fieldLink RX12 97 "PairMatchingModel" "made" "I") (by decide +kernel)
  unfold f_X12_findCover at hf
  refine lv_iconst (v := 0) S.1 S.2.1 dX12_findCover_0 (by decide) ?_
  refine lv_istore_n (lv' := [(1, .int 0), (0, .ref a_m)]) S.1 S.2.1 dX12_findCover_1 rfl hl (by decide) rfl (fun ls hl => ?_)
  refine lv_iconst (v := 0) S.1 S.2.1 dX12_findCover_2 (by decide) ?_
  refine lv_istore_n (lv' := [(2, .int 0), (1, .int 0), (0, .ref a_m)]) S.1 S.2.1 dX12_findCover_3 rfl hl (by decide) rfl (fun ls hl => ?_)
  obtain ⟨kk_58_33, ekk_58_33, hf⟩ := jn_s hf
  have hJ_kk_58_33 : ∀ (v1_1 : Int32) (m_inCover_2 : Nat → Int32) (H : Heap) (locs : List Loc) (ls : Array Slot), Wo E A s [oC a_m 12 [.int m_nodes, .int m_made, .ref a_m_from, .ref a_m_to, .ref a_m_weighs, .ref a_m_alive, .ref a_m_ranks, .int m_known, .ref a_m_best, .ref a_m_most, .ref a_m_apart, .ref a_m_near, .ref a_m_worth, .ref a_m_mates, .ref a_m_sizes, .ref a_m_sums, .ref a_m_has, .ref a_m_sorts, .ref a_m_pieces, .int m_pieceCount, .int m_parts, .int m_halves, .ref a_m_inCover, .int m_coverSize, .int m_holdSet, .ref a_m_pairCost, .ref a_m_inJoin, .int m_hasJoin, .ref a_m_half, .ref a_m_way, .ref a_m_counts, .ref a_m_lastCounts, .ref a_m_openArc, .ref a_m_with, .ref a_m_tried, .int m_stables, .long m_firstSet], aI E a_m_from 60 m_from, aI E a_m_to 60 m_to, aZ E a_m_alive 60 m_alive, aB E a_m_most 65536 m_most, aZ E a_m_inCover 60 m_inCover_2] H locs → lv_has ls 6 [(0, .ref a_m), (1, .int v1_1)] → kk_58_33 v1_1 m_inCover_2 = some (u_m_coverSize, u_m_inCover) → W p l e (Rm 1) s m (([.ref a_m] : List Value).toArray) below meth c H locs 0 0 Q (F0 m 58 ls []) := by
    intro v1_1 m_inCover_2 H locs ls hw hl hf
    rw [ekk_58_33] at hf
    refine lv_aload_n S.1 S.2.1 dX12_findCover_58 rfl (lv_at hl 0 rfl) ?_
    refine lv_iload_n S.1 S.2.1 dX12_findCover_59 rfl (lv_at hl 1 rfl) ?_
    refine lv_aload_n S.1 S.2.1 dX12_findCover_60 rfl (lv_at hl 0 rfl) ?_
    refine g_calli (r := (f_X12_all m_nodes)) (wc := [oC a_m 12 [.int m_nodes, .int m_made, .ref a_m_from, .ref a_m_to, .ref a_m_weighs, .ref a_m_alive, .ref a_m_ranks, .int m_known, .ref a_m_best, .ref a_m_most, .ref a_m_apart, .ref a_m_near, .ref a_m_worth, .ref a_m_mates, .ref a_m_sizes, .ref a_m_sums, .ref a_m_has, .ref a_m_sorts, .ref a_m_pieces, .int m_pieceCount, .int m_parts, .int m_halves, .ref a_m_inCover, .int m_coverSize, .int m_holdSet, .ref a_m_pairCost, .ref a_m_inJoin, .int m_hasJoin, .ref a_m_half, .ref a_m_way, .ref a_m_counts, .ref a_m_lastCounts, .ref a_m_openArc, .ref a_m_with, .ref a_m_tried, .int m_stables, .long m_firstSet]]) (wr := [aI E a_m_from 60 m_from, aI E a_m_to 60 m_to, aZ E a_m_alive 60 m_alive, aB E a_m_most 65536 m_most, aZ E a_m_inCover 60 m_inCover_2]) (w1 := [oC a_m 12 [.int m_nodes, .int m_made, .ref a_m_from, .ref a_m_to, .ref a_m_weighs, .ref a_m_alive, .ref a_m_ranks, .int m_known, .ref a_m_best, .ref a_m_most, .ref a_m_apart, .ref a_m_near, .ref a_m_worth, .ref a_m_mates, .ref a_m_sizes, .ref a_m_sums, .ref a_m_has, .ref a_m_sorts, .ref a_m_pieces, .int m_pieceCount, .int m_parts, .int m_halves, .ref a_m_inCover, .int m_coverSize, .int m_holdSet, .ref a_m_pairCost, .ref a_m_inJoin, .int m_hasJoin, .ref a_m_half, .ref a_m_way, .ref a_m_counts, .ref a_m_lastCounts, .ref a_m_openArc, .ref a_m_with, .ref a_m_tried, .int m_stables, .long m_firstSet]]) (va_runV (As := []) (rest := [.int v1_1, .ref a_m]) S (c_X12_all l E m_nodes m_made a_m_from a_m_to a_m_weighs a_m_alive a_m_ranks m_known a_m_best a_m_most a_m_apart a_m_near a_m_worth a_m_mates a_m_sizes a_m_sums a_m_has a_m_sorts a_m_pieces m_pieceCount m_parts m_halves a_m_inCover m_coverSize m_holdSet a_m_pairCost a_m_inJoin m_hasJoin a_m_half a_m_way a_m_counts a_m_lastCounts a_m_openArc a_m_with a_m_tried m_stables m_firstSet a_m (f_X12_all m_nodes) rfl _) (cwV 0 S.2.2.2.2 gX12_findCover_X12_all rfl rfl rfl (by decide +kernel) (rm_le (by omega) (by decide))) (preV (q := (RX12, TX12, 37)) hN hw [0] rfl rfl rfl rfl) rfl rfl hl.1 rfl (lv_room (Nat.le_of_ble_eq_true rfl)) dX12_findCover_61 ⟨Nat.le_refl _, Nat.le_refl _⟩) hw hA [0] [1, 2, 3, 4, 5] rfl rfl rfl (by decide) (fun H locs hw => ?_)
    have hw : Wo E A s [aI E a_m_from 60 m_from, aI E a_m_to 60 m_to, aZ E a_m_alive 60 m_alive, aB E a_m_most 65536 m_most, aZ E a_m_inCover 60 m_inCover_2, oC a_m 12 [.int m_nodes, .int m_made, .ref a_m_from, .ref a_m_to, .ref a_m_weighs, .ref a_m_alive, .ref a_m_ranks, .int m_known, .ref a_m_best, .ref a_m_most, .ref a_m_apart, .ref a_m_near, .ref a_m_worth, .ref a_m_mates, .ref a_m_sizes, .ref a_m_sums, .ref a_m_has, .ref a_m_sorts, .ref a_m_pieces, .int m_pieceCount, .int m_parts, .int m_halves, .ref a_m_inCover, .int m_coverSize, .int m_holdSet, .ref a_m_pairCost, .ref a_m_inJoin, .int m_hasJoin, .ref a_m_half, .ref a_m_way, .ref a_m_counts, .ref a_m_lastCounts, .ref a_m_openArc, .ref a_m_with, .ref a_m_tried, .int m_stables, .long m_firstSet]] H _ := hw
    obtain ⟨jj_86_5, ejj_86_5, hf⟩ := jn_s hf
    have hJ_jj_86_5 : ∀ (z_5 : Int32) (H : Heap) (locs : List Loc) (ls : Array Slot), Wo E A s [aI E a_m_from 60 m_from, aI E a_m_to 60 m_to, aZ E a_m_alive 60 m_alive, aB E a_m_most 65536 m_most, aZ E a_m_inCover 60 m_inCover_2, oC a_m 12 [.int m_nodes, .int m_made, .ref a_m_from, .ref a_m_to, .ref a_m_weighs, .ref a_m_alive, .ref a_m_ranks, .int m_known, .ref a_m_best, .ref a_m_most, .ref a_m_apart, .ref a_m_near, .ref a_m_worth, .ref a_m_mates, .ref a_m_sizes, .ref a_m_sums, .ref a_m_has, .ref a_m_sorts, .ref a_m_pieces, .int m_pieceCount, .int m_parts, .int m_halves, .ref a_m_inCover, .int m_coverSize, .int m_holdSet, .ref a_m_pairCost, .ref a_m_inJoin, .int m_hasJoin, .ref a_m_half, .ref a_m_way, .ref a_m_counts, .ref a_m_lastCounts, .ref a_m_openArc, .ref a_m_with, .ref a_m_tried, .int m_stables, .long m_firstSet]] H locs → lv_has ls 6 [(0, .ref a_m)] → jj_86_5 z_5 = some (u_m_coverSize, u_m_inCover) → W p l e (Rm 1) s m (([.ref a_m] : List Value).toArray) below meth c H locs 0 0 Q (F0 m 86 ls [.int z_5, .ref a_m]) := by
      intro z_5 H locs ls hw hl hf
      rw [ejj_86_5] at hf
      refine g_put S hN hw (C := RX12) (T := TX12) (N := 37) (ci := 12) (ty := .int) (w1 := [aI E a_m_from 60 m_from, aI E a_m_to 60 m_to, aZ E a_m_alive 60 m_alive, aB E a_m_most 65536 m_most, aZ E a_m_inCover 60 m_inCover_2, oC a_m 12 [.int m_nodes, .int m_made, .ref a_m_from, .ref a_m_to, .ref a_m_weighs, .ref a_m_alive, .ref a_m_ranks, .int m_known, .ref a_m_best, .ref a_m_most, .ref a_m_apart, .ref a_m_near, .ref a_m_worth, .ref a_m_mates, .ref a_m_sizes, .ref a_m_sums, .ref a_m_has, .ref a_m_sorts, .ref a_m_pieces, .int m_pieceCount, .int m_parts, .int m_halves, .ref a_m_inCover, .int z_5, .int m_holdSet, .ref a_m_pairCost, .ref a_m_inJoin, .int m_hasJoin, .ref a_m_half, .ref a_m_way, .ref a_m_counts, .ref a_m_lastCounts, .ref a_m_openArc, .ref a_m_with, .ref a_m_tried, .int m_stables, .long m_firstSet]]) 5 23 iX12 k134 tyX12 tyX12_ok nmX12 dX12_findCover_86 rfl rfl (by decide) rfl (by decide +kernel) rfl rfl (Nat.le_of_ble_eq_true rfl) rfl (fun H locs hw => ?_)
      refine lv_aload_n S.1 S.2.1 dX12_findCover_89 rfl (lv_at hl 0 rfl) ?_
      refine g_calli (r := (f_X12_all m_nodes)) (wc := [oC a_m 12 [.int m_nodes, .int m_made, .ref a_m_from, .ref a_m_to, .ref a_m_weighs, .ref a_m_alive, .ref a_m_ranks, .int m_known, .ref a_m_best, .ref a_m_most, .ref a_m_apart, .ref a_m_near, .ref a_m_worth, .ref a_m_mates, .ref a_m_sizes, .ref a_m_sums, .ref a_m_has, .ref a_m_sorts, .ref a_m_pieces, .int m_pieceCount, .int m_parts, .int m_halves, .ref a_m_inCover, .int z_5, .int m_holdSet, .ref a_m_pairCost, .ref a_m_inJoin, .int m_hasJoin, .ref a_m_half, .ref a_m_way, .ref a_m_counts, .ref a_m_lastCounts, .ref a_m_openArc, .ref a_m_with, .ref a_m_tried, .int m_stables, .long m_firstSet]]) (wr := [aI E a_m_from 60 m_from, aI E a_m_to 60 m_to, aZ E a_m_alive 60 m_alive, aB E a_m_most 65536 m_most, aZ E a_m_inCover 60 m_inCover_2]) (w1 := [oC a_m 12 [.int m_nodes, .int m_made, .ref a_m_from, .ref a_m_to, .ref a_m_weighs, .ref a_m_alive, .ref a_m_ranks, .int m_known, .ref a_m_best, .ref a_m_most, .ref a_m_apart, .ref a_m_near, .ref a_m_worth, .ref a_m_mates, .ref a_m_sizes, .ref a_m_sums, .ref a_m_has, .ref a_m_sorts, .ref a_m_pieces, .int m_pieceCount, .int m_parts, .int m_halves, .ref a_m_inCover, .int z_5, .int m_holdSet, .ref a_m_pairCost, .ref a_m_inJoin, .int m_hasJoin, .ref a_m_half, .ref a_m_way, .ref a_m_counts, .ref a_m_lastCounts, .ref a_m_openArc, .ref a_m_with, .ref a_m_tried, .int m_stables, .long m_firstSet]]) (va_runV (As := []) (rest := []) S (c_X12_all l E m_nodes m_made a_m_from a_m_to a_m_weighs a_m_alive a_m_ranks m_known a_m_best a_m_most a_m_apart a_m_near a_m_worth a_m_mates a_m_sizes a_m_sums a_m_has a_m_sorts a_m_pieces m_pieceCount m_parts m_halves a_m_inCover z_5 m_holdSet a_m_pairCost a_m_inJoin m_hasJoin a_m_half a_m_way a_m_counts a_m_lastCounts a_m_openArc a_m_with a_m_tried m_stables m_firstSet a_m (f_X12_all m_nodes) rfl _) (cwV 0 S.2.2.2.2 gX12_findCover_X12_all rfl rfl rfl (by decide +kernel) (rm_le (by omega) (by decide))) (preV (q := (RX12, TX12, 37)) hN hw [5] rfl rfl rfl rfl) rfl rfl hl.1 rfl (lv_room (Nat.le_of_ble_eq_true rfl)) dX12_findCover_90 ⟨Nat.le_refl _, Nat.le_refl _⟩) hw hA [5] [0, 1, 2, 3, 4] rfl rfl rfl (by decide) (fun H locs hw => ?_)
      have hw : Wo E A s [aI E a_m_from 60 m_from, aI E a_m_to 60 m_to, aZ E a_m_alive 60 m_alive, aB E a_m_most 65536 m_most, aZ E a_m_inCover 60 m_inCover_2, oC a_m 12 [.int m_nodes, .int m_made, .ref a_m_from, .ref a_m_to, .ref a_m_weighs, .ref a_m_alive, .ref a_m_ranks, .int m_known, .ref a_m_best, .ref a_m_most, .ref a_m_apart, .ref a_m_near, .ref a_m_worth, .ref a_m_mates, .ref a_m_sizes, .ref a_m_sums, .ref a_m_has, .ref a_m_sorts, .ref a_m_pieces, .int m_pieceCount, .int m_parts, .int m_halves, .ref a_m_inCover, .int z_5, .int m_holdSet, .ref a_m_pairCost, .ref a_m_inJoin, .int m_hasJoin, .ref a_m_half, .ref a_m_way, .ref a_m_counts, .ref a_m_lastCounts, .ref a_m_openArc, .ref a_m_with, .ref a_m_tried, .int m_stables, .long m_firstSet]] H _ := hw
      refine lv_istore_n (lv' := [(2, .int (f_X12_all m_nodes)), (0, .ref a_m)]) S.1 S.2.1 dX12_findCover_93 rfl hl (by decide) rfl (fun ls hl => ?_)
      refine lv_aload_n S.1 S.2.1 dX12_findCover_94 rfl (lv_at hl 1 rfl) ?_
      refine g_get S hN hw (C := RX12) (T := TX12) (N := 37) (ci := 12) (v := .int z_5) 5 23 iX12 k134 dX12_findCover_95 rfl rfl (by decide) rfl ?_
      refine lv_istore_n (lv' := [(3, .int z_5), (2, .int (f_X12_all m_nodes)), (0, .ref a_m)]) S.1 S.2.1 dX12_findCover_98 rfl hl (by decide) rfl (fun ls hl => ?_)
      refine lv_iconst (v := 0) S.1 S.2.1 dX12_findCover_99 (by decide) ?_
      refine lv_istore (lv' := [(4, .int 0), (3, .int z_5), (2, .int (f_X12_all m_nodes)), (0, .ref a_m)]) S.1 S.2.1 dX12_findCover_100 hl (by decide) rfl (fun ls hl => ?_)
      obtain ⟨kk_194_11, ekk_194_11, hf⟩ := jn_s hf
      have hJ_kk_194_11 : ∀ (m_inCover_9 : Nat → Int32) (H : Heap) (locs : List Loc) (ls : Array Slot), Wo E A s [aI E a_m_from 60 m_from, aI E a_m_to 60 m_to, aZ E a_m_alive 60 m_alive, aB E a_m_most 65536 m_most, aZ E a_m_inCover 60 m_inCover_9, oC a_m 12 [.int m_nodes, .int m_made, .ref a_m_from, .ref a_m_to, .ref a_m_weighs, .ref a_m_alive, .ref a_m_ranks, .int m_known, .ref a_m_best, .ref a_m_most, .ref a_m_apart, .ref a_m_near, .ref a_m_worth, .ref a_m_mates, .ref a_m_sizes, .ref a_m_sums, .ref a_m_has, .ref a_m_sorts, .ref a_m_pieces, .int m_pieceCount, .int m_parts, .int m_halves, .ref a_m_inCover, .int z_5, .int m_holdSet, .ref a_m_pairCost, .ref a_m_inJoin, .int m_hasJoin, .ref a_m_half, .ref a_m_way, .ref a_m_counts, .ref a_m_lastCounts, .ref a_m_openArc, .ref a_m_with, .ref a_m_tried, .int m_stables, .long m_firstSet]] H locs → lv_has ls 6 [] → kk_194_11 m_inCover_9 = some (u_m_coverSize, u_m_inCover) → W p l e (Rm 1) s m (([.ref a_m] : List Value).toArray) below meth c H locs 0 0 Q (F0 m 194 ls []) := by
        intro m_inCover_9 H locs ls hw hl hf
        rw [ekk_194_11] at hf
        obtain ⟨e_10, e_11⟩ := tp2 hf
        exact hE2 _ _ _ _ _ (hw.sub [5, 0, 1, 2, 3, 4] rfl rfl) (cg2 (fun (x1 : Int32) (x2 : Nat → Int32) => [oC a_m 12 [.int m_nodes, .int m_made, .ref a_m_from, .ref a_m_to, .ref a_m_weighs, .ref a_m_alive, .ref a_m_ranks, .int m_known, .ref a_m_best, .ref a_m_most, .ref a_m_apart, .ref a_m_near, .ref a_m_worth, .ref a_m_mates, .ref a_m_sizes, .ref a_m_sums, .ref a_m_has, .ref a_m_sorts, .ref a_m_pieces, .int m_pieceCount, .int m_parts, .int m_halves, .ref a_m_inCover, .int x1, .int m_holdSet, .ref a_m_pairCost, .ref a_m_inJoin, .int m_hasJoin, .ref a_m_half, .ref a_m_way, .ref a_m_counts, .ref a_m_lastCounts, .ref a_m_openArc, .ref a_m_with, .ref a_m_tried, .int m_stables, .long m_firstSet], aI E a_m_from 60 m_from, aI E a_m_to 60 m_to, aZ E a_m_alive 60 m_alive, aB E a_m_most 65536 m_most, aZ E a_m_inCover 60 x2]) e_10 e_11) dX12_findCover_194
      have hL_102_28 : ∀ (n : Nat) (v2_13 : Int32) (v3_14 : Int32) (v4_15 : Int32) (m_inCover_16 : Nat → Int32) (H : Heap) (locs : List Loc) (ls : Array Slot), Wo E A s [aI E a_m_from 60 m_from, aI E a_m_to 60 m_to, aZ E a_m_alive 60 m_alive, aB E a_m_most 65536 m_most, aZ E a_m_inCover 60 m_inCover_16, oC a_m 12 [.int m_nodes, .int m_made, .ref a_m_from, .ref a_m_to, .ref a_m_weighs, .ref a_m_alive, .ref a_m_ranks, .int m_known, .ref a_m_best, .ref a_m_most, .ref a_m_apart, .ref a_m_near, .ref a_m_worth, .ref a_m_mates, .ref a_m_sizes, .ref a_m_sums, .ref a_m_has, .ref a_m_sorts, .ref a_m_pieces, .int m_pieceCount, .int m_parts, .int m_halves, .ref a_m_inCover, .int z_5, .int m_holdSet, .ref a_m_pairCost, .ref a_m_inJoin, .int m_hasJoin, .ref a_m_half, .ref a_m_way, .ref a_m_counts, .ref a_m_lastCounts, .ref a_m_openArc, .ref a_m_with, .ref a_m_tried, .int m_stables, .long m_firstSet]] H locs → lv_has ls 6 [(0, .ref a_m), (2, .int v2_13), (3, .int v3_14), (4, .int v4_15)] → f_X12_findCover_L102 F m_made m_from m_to m_alive m_most kk_194_11 n v2_13 v3_14 v4_15 m_inCover_16 = some (u_m_coverSize, u_m_inCover) → W p l e (Rm 1) s m (([.ref a_m] : List Value).toArray) below meth c H locs 0 0 Q (F0 m 102 ls []) := by
        intro n
        induction n with
        | zero => intro v2_13 v3_14 v4_15 m_inCover_16 H locs ls hw hl hf; unfold f_X12_findCover_L102 at hf; cases hf
        | succ n ih =>
          intro v2_13 v3_14 v4_15 m_inCover_16 H locs ls hw hl hf
          unfold f_X12_findCover_L102 at hf
          refine lv_iload S.1 S.2.1 dX12_findCover_102 (lv_at hl 3 rfl) ?_
          refine lv_aload_n S.1 S.2.1 dX12_findCover_104 rfl (lv_at hl 0 rfl) ?_
          refine g_get S hN hw (C := RX12) (T := TX12) (N := 37) (ci := 12) (v := .int m_made) 5 1 iX12 k97 dX12_findCover_105 rfl rfl (by decide) rfl ?_
          refine lv_icmp_ge (tgt := 194) S.1 S.2.1 dX12_findCover_108 (by decide) (fun h_17 => ?_) (fun h_17 => ?_)
          · replace hf := if_t h_17 hf
            exact hJ_kk_194_11 m_inCover_16 _ _ _ hw (lv_sub hl [] rfl) hf
          · replace hf := if_f h_17 hf
            refine lv_iload_n S.1 S.2.1 dX12_findCover_111 rfl (lv_at hl 2 rfl) ?_
            refine lv_if_le (tgt := 194) S.1 S.2.1 dX12_findCover_112 (by decide) (fun h_18 => ?_) (fun h_18 => ?_)
            · replace hf := if_t h_18 hf
              exact hJ_kk_194_11 m_inCover_16 _ _ _ hw (lv_sub hl [] rfl) hf
            · replace hf := if_f h_18 hf
              refine lv_aload_n S.1 S.2.1 dX12_findCover_115 rfl (lv_at hl 0 rfl) ?_
              refine g_get S hN hw (C := RX12) (T := TX12) (N := 37) (ci := 12) (v := .ref a_m_alive) 5 5 iX12 k19 dX12_findCover_116 rfl rfl (by decide) rfl ?_
              refine lv_iload S.1 S.2.1 dX12_findCover_119 (lv_at hl 3 rfl) ?_
              obtain ⟨hi_18, hf⟩ := rd_s hf
              refine g_zald (n := 60) (f := m_alive) S hN hw 2 hi_18 dX12_findCover_121 rfl ?_
              generalize m_alive (v4_15 : Int32).toNatClampNeg = y_19 at hf ⊢
              refine lv_if_ne (tgt := 128) S.1 S.2.1 dX12_findCover_122 (by decide) (fun h_20 => ?_) (fun h_20 => ?_)
              · replace hf := if_f h_20 hf
                refine lv_iload_n S.1 S.2.1 dX12_findCover_128 rfl (lv_at hl 1 rfl) ?_
                refine lv_iconst (v := 1) S.1 S.2.1 dX12_findCover_129 (by decide) ?_
                refine lv_aload_n S.1 S.2.1 dX12_findCover_130 rfl (lv_at hl 0 rfl) ?_
                refine g_get S hN hw (C := RX12) (T := TX12) (N := 37) (ci := 12) (v := .ref a_m_from) 5 2 iX12 k7 dX12_findCover_131 rfl rfl (by decide) rfl ?_
                refine lv_iload S.1 S.2.1 dX12_findCover_134 (lv_at hl 3 rfl) ?_
                obtain ⟨hi_20, hf⟩ := rd_s hf
                refine g_iald (n := 60) (f := m_from) S hN hw 0 hi_20 dX12_findCover_136 rfl ?_
                generalize m_from (v4_15 : Int32).toNatClampNeg = y_21 at hf ⊢
                refine lv_ishl S.1 S.2.1 dX12_findCover_137 ?_
                refine lv_iconst (v := (-1)) S.1 S.2.1 dX12_findCover_138 (by decide) ?_
                refine lv_ixor S.1 S.2.1 dX12_findCover_139 ?_
                refine lv_iand S.1 S.2.1 dX12_findCover_140 ?_
                refine lv_iconst (v := 1) S.1 S.2.1 dX12_findCover_141 (by decide) ?_
                refine lv_aload_n S.1 S.2.1 dX12_findCover_142 rfl (lv_at hl 0 rfl) ?_
                refine g_get S hN hw (C := RX12) (T := TX12) (N := 37) (ci := 12) (v := .ref a_m_to) 5 3 iX12 k13 dX12_findCover_143 rfl rfl (by decide) rfl ?_
                refine lv_iload S.1 S.2.1 dX12_findCover_146 (lv_at hl 3 rfl) ?_
                obtain ⟨hi_21, hf⟩ := rd_s hf
                refine g_iald (n := 60) (f := m_to) S hN hw 1 hi_21 dX12_findCover_148 rfl ?_
                generalize m_to (v4_15 : Int32).toNatClampNeg = y_22 at hf ⊢
                refine lv_ishl S.1 S.2.1 dX12_findCover_149 ?_
                refine lv_iconst (v := (-1)) S.1 S.2.1 dX12_findCover_150 (by decide) ?_
                refine lv_ixor S.1 S.2.1 dX12_findCover_151 ?_
                refine lv_iand S.1 S.2.1 dX12_findCover_152 ?_
                obtain ⟨x_23, he_23, hf⟩ := ltt_s hf
                rw [← he_23]
                refine lv_istore (lv' := [(5, .int x_23), (0, .ref a_m), (2, .int v2_13), (3, .int v3_14), (4, .int v4_15)]) S.1 S.2.1 dX12_findCover_153 hl (by decide) rfl (fun ls hl => ?_)
                refine lv_iload S.1 S.2.1 dX12_findCover_155 (lv_at hl 0 rfl) ?_
                obtain ⟨r_24, hc_24, hf⟩ := bd_s hf
                refine g_calli (r := r_24) (wc := []) (wr := [aI E a_m_from 60 m_from, aI E a_m_to 60 m_to, aZ E a_m_alive 60 m_alive, aB E a_m_most 65536 m_most, aZ E a_m_inCover 60 m_inCover_16, oC a_m 12 [.int m_nodes, .int m_made, .ref a_m_from, .ref a_m_to, .ref a_m_weighs, .ref a_m_alive, .ref a_m_ranks, .int m_known, .ref a_m_best, .ref a_m_most, .ref a_m_apart, .ref a_m_near, .ref a_m_worth, .ref a_m_mates, .ref a_m_sizes, .ref a_m_sums, .ref a_m_has, .ref a_m_sorts, .ref a_m_pieces, .int m_pieceCount, .int m_parts, .int m_halves, .ref a_m_inCover, .int z_5, .int m_holdSet, .ref a_m_pairCost, .ref a_m_inJoin, .int m_hasJoin, .ref a_m_half, .ref a_m_way, .ref a_m_counts, .ref a_m_lastCounts, .ref a_m_openArc, .ref a_m_with, .ref a_m_tried, .int m_stables, .long m_firstSet]]) (w1 := []) (va_runS (As := [.int x_23]) (rest := []) S (c_X12_bits l E F x_23 r_24 hc_24 _) (va_cwS 1 S.2.2.2.2 gX12_findCover_X12_bits rfl rfl rfl (by decide +kernel) (rm_le (by omega) (by decide))) (preS hN hw [] rfl rfl) rfl rfl hl.1 rfl (lv_room (Nat.le_of_ble_eq_true rfl)) dX12_findCover_157 ⟨Nat.le_refl _, Nat.le_refl _⟩) hw hA [] [0, 1, 2, 3, 4, 5] rfl rfl rfl (by decide) (fun H locs hw => ?_)
                have hw : Wo E A s [aI E a_m_from 60 m_from, aI E a_m_to 60 m_to, aZ E a_m_alive 60 m_alive, aB E a_m_most 65536 m_most, aZ E a_m_inCover 60 m_inCover_16, oC a_m 12 [.int m_nodes, .int m_made, .ref a_m_from, .ref a_m_to, .ref a_m_weighs, .ref a_m_alive, .ref a_m_ranks, .int m_known, .ref a_m_best, .ref a_m_most, .ref a_m_apart, .ref a_m_near, .ref a_m_worth, .ref a_m_mates, .ref a_m_sizes, .ref a_m_sums, .ref a_m_has, .ref a_m_sorts, .ref a_m_pieces, .int m_pieceCount, .int m_parts, .int m_halves, .ref a_m_inCover, .int z_5, .int m_holdSet, .ref a_m_pairCost, .ref a_m_inJoin, .int m_hasJoin, .ref a_m_half, .ref a_m_way, .ref a_m_counts, .ref a_m_lastCounts, .ref a_m_openArc, .ref a_m_with, .ref a_m_tried, .int m_stables, .long m_firstSet]] H _ := hw
                refine lv_aload_n S.1 S.2.1 dX12_findCover_160 rfl (lv_at hl 1 rfl) ?_
                refine g_get S hN hw (C := RX12) (T := TX12) (N := 37) (ci := 12) (v := .ref a_m_most) 5 9 iX12 k30 dX12_findCover_161 rfl rfl (by decide) rfl ?_
                refine lv_iload S.1 S.2.1 dX12_findCover_164 (lv_at hl 0 rfl) ?_
                obtain ⟨hi_25, hf⟩ := rd_s hf
                refine g_bald (n := 65536) (f := m_most) S hN hw 3 hi_25 dX12_findCover_166 rfl ?_
                generalize m_most (x_23 : Int32).toNatClampNeg = y_26 at hf ⊢
                refine lv_isub S.1 S.2.1 dX12_findCover_167 ?_
                refine lv_iload_n S.1 S.2.1 dX12_findCover_168 rfl (lv_at hl 3 rfl) ?_
                refine lv_iconst (v := 1) S.1 S.2.1 dX12_findCover_169 (by decide) ?_
                refine lv_isub S.1 S.2.1 dX12_findCover_170 ?_
                refine lv_icmp_ne (tgt := 188) S.1 S.2.1 dX12_findCover_171 (by decide) (fun h_27 => ?_) (fun h_27 => ?_)
                · replace hf := if_f h_27 hf
                  refine lv_iinc (v := (v4_15 + 1)) (lv' := [(4, .int (v4_15 + 1)), (5, .int x_23), (0, .ref a_m), (2, .int v2_13), (3, .int v3_14)]) S.1 S.2.1 dX12_findCover_188 hl (k := 4) rfl rfl (by decide) rfl (fun ls hl => ?_)
                  refine lv_goto (tgt := 102) S.1 S.2.1 dX12_findCover_191 (by decide) ?_
                  exact ih v2_13 v3_14 (v4_15 + 1) m_inCover_16 _ _ _ hw (lv_sub hl [2, 3, 4, 0] rfl) hf
                · replace hf := if_t h_27 hf
                  refine lv_aload_n S.1 S.2.1 dX12_findCover_174 rfl (lv_at hl 1 rfl) ?_
                  refine g_get S hN hw (C := RX12) (T := TX12) (N := 37) (ci := 12) (v := .ref a_m_inCover) 5 22 iX12 k61 dX12_findCover_175 rfl rfl (by decide) rfl ?_
                  refine lv_iload S.1 S.2.1 dX12_findCover_178 (lv_at hl 4 rfl) ?_
                  refine lv_iconst (v := 1) S.1 S.2.1 dX12_findCover_180 (by decide) ?_
                  obtain ⟨hi_27, hf⟩ := wr_s hf
                  refine g_zast (n := 60) (f := m_inCover_16) (w1 := [aI E a_m_from 60 m_from, aI E a_m_to 60 m_to, aZ E a_m_alive 60 m_alive, aB E a_m_most 65536 m_most, aZ E a_m_inCover 60 (va_up m_inCover_16 (v4_15 : Int32).toNatClampNeg 1), oC a_m 12 [.int m_nodes, .int m_made, .ref a_m_from, .ref a_m_to, .ref a_m_weighs, .ref a_m_alive, .ref a_m_ranks, .int m_known, .ref a_m_best, .ref a_m_most, .ref a_m_apart, .ref a_m_near, .ref a_m_worth, .ref a_m_mates, .ref a_m_sizes, .ref a_m_sums, .ref a_m_has, .ref a_m_sorts, .ref a_m_pieces, .int m_pieceCount, .int m_parts, .int m_halves, .ref a_m_inCover, .int z_5, .int m_holdSet, .ref a_m_pairCost, .ref a_m_inJoin, .int m_hasJoin, .ref a_m_half, .ref a_m_way, .ref a_m_counts, .ref a_m_lastCounts, .ref a_m_openArc, .ref a_m_with, .ref a_m_tried, .int m_stables, .long m_firstSet]]) S hN hw 4 hi_27 dX12_findCover_181 rfl rfl (fun H locs hw => ?_)
                  generalize va_up m_inCover_16 (v4_15 : Int32).toNatClampNeg 1 = m_inCover_28 at hf hw
                  refine lv_iload S.1 S.2.1 dX12_findCover_182 (lv_at hl 0 rfl) ?_
                  refine lv_istore_n (lv' := [(2, .int x_23), (5, .int x_23), (0, .ref a_m), (3, .int v3_14), (4, .int v4_15)]) S.1 S.2.1 dX12_findCover_184 rfl hl (by decide) rfl (fun ls hl => ?_)
                  refine lv_iinc (v := (v3_14 + (-1))) (lv' := [(3, .int (v3_14 + (-1))), (2, .int x_23), (5, .int x_23), (0, .ref a_m), (4, .int v4_15)]) S.1 S.2.1 dX12_findCover_185 hl (k := 3) rfl rfl (by decide) rfl (fun ls hl => ?_)
                  refine lv_iinc (v := (v4_15 + 1)) (lv' := [(4, .int (v4_15 + 1)), (3, .int (v3_14 + (-1))), (2, .int x_23), (5, .int x_23), (0, .ref a_m)]) S.1 S.2.1 dX12_findCover_188 hl (k := 4) rfl rfl (by decide) rfl (fun ls hl => ?_)
                  refine lv_goto (tgt := 102) S.1 S.2.1 dX12_findCover_191 (by decide) ?_
                  exact ih x_23 (v3_14 + (-1)) (v4_15 + 1) m_inCover_28 _ _ _ hw (lv_sub hl [4, 2, 1, 0] rfl) hf
              · replace hf := if_t h_20 hf
                refine lv_goto (tgt := 188) S.1 S.2.1 dX12_findCover_125 (by decide) ?_
                refine lv_iinc (v := (v4_15 + 1)) (lv' := [(4, .int (v4_15 + 1)), (0, .ref a_m), (2, .int v2_13), (3, .int v3_14)]) S.1 S.2.1 dX12_findCover_188 hl (k := 3) rfl rfl (by decide) rfl (fun ls hl => ?_)
                refine lv_goto (tgt := 102) S.1 S.2.1 dX12_findCover_191 (by decide) ?_
                exact ih v2_13 v3_14 (v4_15 + 1) m_inCover_16 _ _ _ hw (lv_sub hl [1, 2, 3, 0] rfl) hf
      exact hL_102_28 F (f_X12_all m_nodes) z_5 0 m_inCover_2 _ _ _ hw (lv_sub hl [3, 2, 1, 0] rfl) hf
    refine lv_icmp_ne (tgt := 84) S.1 S.2.1 dX12_findCover_64 (by decide) (fun h_30 => ?_) (fun h_30 => ?_)
    · replace hf := if_f h_30 hf
      refine lv_bipush (v := (-3)) S.1 S.2.1 dX12_findCover_84 (by decide) ?_
      exact hJ_jj_86_5 (-3) _ _ _ hw (lv_sub hl [0] rfl) hf
    · replace hf := if_t h_30 hf
      refine lv_aload_n S.1 S.2.1 dX12_findCover_67 rfl (lv_at hl 0 rfl) ?_
      refine g_get S hN hw (C := RX12) (T := TX12) (N := 37) (ci := 12) (v := .int m_nodes) 5 0 iX12 k92 dX12_findCover_68 rfl rfl (by decide) rfl ?_
      refine lv_aload_n S.1 S.2.1 dX12_findCover_71 rfl (lv_at hl 0 rfl) ?_
      refine g_get S hN hw (C := RX12) (T := TX12) (N := 37) (ci := 12) (v := .ref a_m_most) 5 9 iX12 k30 dX12_findCover_72 rfl rfl (by decide) rfl ?_
      refine lv_aload_n S.1 S.2.1 dX12_findCover_75 rfl (lv_at hl 0 rfl) ?_
      refine g_calli (r := (f_X12_all m_nodes)) (wc := [oC a_m 12 [.int m_nodes, .int m_made, .ref a_m_from, .ref a_m_to, .ref a_m_weighs, .ref a_m_alive, .ref a_m_ranks, .int m_known, .ref a_m_best, .ref a_m_most, .ref a_m_apart, .ref a_m_near, .ref a_m_worth, .ref a_m_mates, .ref a_m_sizes, .ref a_m_sums, .ref a_m_has, .ref a_m_sorts, .ref a_m_pieces, .int m_pieceCount, .int m_parts, .int m_halves, .ref a_m_inCover, .int m_coverSize, .int m_holdSet, .ref a_m_pairCost, .ref a_m_inJoin, .int m_hasJoin, .ref a_m_half, .ref a_m_way, .ref a_m_counts, .ref a_m_lastCounts, .ref a_m_openArc, .ref a_m_with, .ref a_m_tried, .int m_stables, .long m_firstSet]]) (wr := [aI E a_m_from 60 m_from, aI E a_m_to 60 m_to, aZ E a_m_alive 60 m_alive, aB E a_m_most 65536 m_most, aZ E a_m_inCover 60 m_inCover_2]) (w1 := [oC a_m 12 [.int m_nodes, .int m_made, .ref a_m_from, .ref a_m_to, .ref a_m_weighs, .ref a_m_alive, .ref a_m_ranks, .int m_known, .ref a_m_best, .ref a_m_most, .ref a_m_apart, .ref a_m_near, .ref a_m_worth, .ref a_m_mates, .ref a_m_sizes, .ref a_m_sums, .ref a_m_has, .ref a_m_sorts, .ref a_m_pieces, .int m_pieceCount, .int m_parts, .int m_halves, .ref a_m_inCover, .int m_coverSize, .int m_holdSet, .ref a_m_pairCost, .ref a_m_inJoin, .int m_hasJoin, .ref a_m_half, .ref a_m_way, .ref a_m_counts, .ref a_m_lastCounts, .ref a_m_openArc, .ref a_m_with, .ref a_m_tried, .int m_stables, .long m_firstSet]]) (va_runV (As := []) (rest := [.ref a_m_most, .int m_nodes, .ref a_m]) S (c_X12_all l E m_nodes m_made a_m_from a_m_to a_m_weighs a_m_alive a_m_ranks m_known a_m_best a_m_most a_m_apart a_m_near a_m_worth a_m_mates a_m_sizes a_m_sums a_m_has a_m_sorts a_m_pieces m_pieceCount m_parts m_halves a_m_inCover m_coverSize m_holdSet a_m_pairCost a_m_inJoin m_hasJoin a_m_half a_m_way a_m_counts a_m_lastCounts a_m_openArc a_m_with a_m_tried m_stables m_firstSet a_m (f_X12_all m_nodes) rfl _) (cwV 0 S.2.2.2.2 gX12_findCover_X12_all rfl rfl rfl (by decide +kernel) (rm_le (by omega) (by decide))) (preV (q := (RX12, TX12, 37)) hN hw [5] rfl rfl rfl rfl) rfl rfl hl.1 rfl (lv_room (Nat.le_of_ble_eq_true rfl)) dX12_findCover_76 ⟨Nat.le_refl _, Nat.le_refl _⟩) hw hA [5] [0, 1, 2, 3, 4] rfl rfl rfl (by decide) (fun H locs hw => ?_)
      have hw : Wo E A s [aI E a_m_from 60 m_from, aI E a_m_to 60 m_to, aZ E a_m_alive 60 m_alive, aB E a_m_most 65536 m_most, aZ E a_m_inCover 60 m_inCover_2, oC a_m 12 [.int m_nodes, .int m_made, .ref a_m_from, .ref a_m_to, .ref a_m_weighs, .ref a_m_alive, .ref a_m_ranks, .int m_known, .ref a_m_best, .ref a_m_most, .ref a_m_apart, .ref a_m_near, .ref a_m_worth, .ref a_m_mates, .ref a_m_sizes, .ref a_m_sums, .ref a_m_has, .ref a_m_sorts, .ref a_m_pieces, .int m_pieceCount, .int m_parts, .int m_halves, .ref a_m_inCover, .int m_coverSize, .int m_holdSet, .ref a_m_pairCost, .ref a_m_inJoin, .int m_hasJoin, .ref a_m_half, .ref a_m_way, .ref a_m_counts, .ref a_m_lastCounts, .ref a_m_openArc, .ref a_m_with, .ref a_m_tried, .int m_stables, .long m_firstSet]] H _ := hw
      obtain ⟨hi_32, hf⟩ := rd_s hf
      refine g_bald (n := 65536) (f := m_most) S hN hw 3 hi_32 dX12_findCover_79 rfl ?_
      generalize m_most ((f_X12_all m_nodes) : Int32).toNatClampNeg = y_33 at hf ⊢
      refine lv_isub S.1 S.2.1 dX12_findCover_80 ?_
      refine lv_goto (tgt := 86) S.1 S.2.1 dX12_findCover_81 (by decide) ?_
      exact hJ_jj_86_5 (m_nodes - y_33) _ _ _ hw (lv_sub hl [0] rfl) hf
  have hL_4_45 : ∀ (n : Nat) (v1_35 : Int32) (v2_36 : Int32) (m_inCover_37 : Nat → Int32) (H : Heap) (locs : List Loc) (ls : Array Slot), Wo E A s [oC a_m 12 [.int m_nodes, .int m_made, .ref a_m_from, .ref a_m_to, .ref a_m_weighs, .ref a_m_alive, .ref a_m_ranks, .int m_known, .ref a_m_best, .ref a_m_most, .ref a_m_apart, .ref a_m_near, .ref a_m_worth, .ref a_m_mates, .ref a_m_sizes, .ref a_m_sums, .ref a_m_has, .ref a_m_sorts, .ref a_m_pieces, .int m_pieceCount, .int m_parts, .int m_halves, .ref a_m_inCover, .int m_coverSize, .int m_holdSet, .ref a_m_pairCost, .ref a_m_inJoin, .int m_hasJoin, .ref a_m_half, .ref a_m_way, .ref a_m_counts, .ref a_m_lastCounts, .ref a_m_openArc, .ref a_m_with, .ref a_m_tried, .int m_stables, .long m_firstSet], aI E a_m_from 60 m_from, aI E a_m_to 60 m_to, aZ E a_m_alive 60 m_alive, aB E a_m_most 65536 m_most, aZ E a_m_inCover 60 m_inCover_37] H locs → lv_has ls 6 [(0, .ref a_m), (1, .int v1_35), (2, .int v2_36)] → f_X12_findCover_L4 m_made m_from m_to m_alive kk_58_33 n v1_35 v2_36 m_inCover_37 = some (u_m_coverSize, u_m_inCover) → W p l e (Rm 1) s m (([.ref a_m] : List Value).toArray) below meth c H locs 0 0 Q (F0 m 4 ls []) := by
    intro n
    induction n with
    | zero => intro v1_35 v2_36 m_inCover_37 H locs ls hw hl hf; unfold f_X12_findCover_L4 at hf; cases hf
    | succ n ih =>
      intro v1_35 v2_36 m_inCover_37 H locs ls hw hl hf
      unfold f_X12_findCover_L4 at hf
      refine lv_iload_n S.1 S.2.1 dX12_findCover_4 rfl (lv_at hl 2 rfl) ?_
      refine lv_aload_n S.1 S.2.1 dX12_findCover_5 rfl (lv_at hl 0 rfl) ?_
      refine g_get S hN hw (C := RX12) (T := TX12) (N := 37) (ci := 12) (v := .int m_made) 0 1 iX12 k97 dX12_findCover_6 rfl rfl (by decide) rfl ?_
      refine lv_icmp_ge (tgt := 58) S.1 S.2.1 dX12_findCover_9 (by decide) (fun h_38 => ?_) (fun h_38 => ?_)
      · replace hf := if_t h_38 hf
        exact hJ_kk_58_33 v1_35 m_inCover_37 _ _ _ hw (lv_sub hl [0, 1] rfl) hf
      · replace hf := if_f h_38 hf
        refine lv_aload_n S.1 S.2.1 dX12_findCover_12 rfl (lv_at hl 0 rfl) ?_
        refine g_get S hN hw (C := RX12) (T := TX12) (N := 37) (ci := 12) (v := .ref a_m_inCover) 0 22 iX12 k61 dX12_findCover_13 rfl rfl (by decide) rfl ?_
        refine lv_iload_n S.1 S.2.1 dX12_findCover_16 rfl (lv_at hl 2 rfl) ?_
        refine lv_iconst (v := 0) S.1 S.2.1 dX12_findCover_17 (by decide) ?_
        obtain ⟨hi_38, hf⟩ := wr_s hf
        refine g_zast (n := 60) (f := m_inCover_37) (w1 := [oC a_m 12 [.int m_nodes, .int m_made, .ref a_m_from, .ref a_m_to, .ref a_m_weighs, .ref a_m_alive, .ref a_m_ranks, .int m_known, .ref a_m_best, .ref a_m_most, .ref a_m_apart, .ref a_m_near, .ref a_m_worth, .ref a_m_mates, .ref a_m_sizes, .ref a_m_sums, .ref a_m_has, .ref a_m_sorts, .ref a_m_pieces, .int m_pieceCount, .int m_parts, .int m_halves, .ref a_m_inCover, .int m_coverSize, .int m_holdSet, .ref a_m_pairCost, .ref a_m_inJoin, .int m_hasJoin, .ref a_m_half, .ref a_m_way, .ref a_m_counts, .ref a_m_lastCounts, .ref a_m_openArc, .ref a_m_with, .ref a_m_tried, .int m_stables, .long m_firstSet], aI E a_m_from 60 m_from, aI E a_m_to 60 m_to, aZ E a_m_alive 60 m_alive, aB E a_m_most 65536 m_most, aZ E a_m_inCover 60 (va_up m_inCover_37 (v2_36 : Int32).toNatClampNeg 0)]) S hN hw 5 hi_38 dX12_findCover_18 rfl rfl (fun H locs hw => ?_)
        generalize va_up m_inCover_37 (v2_36 : Int32).toNatClampNeg 0 = m_inCover_39 at hf hw
        refine lv_iload_n S.1 S.2.1 dX12_findCover_19 rfl (lv_at hl 1 rfl) ?_
        refine lv_aload_n S.1 S.2.1 dX12_findCover_20 rfl (lv_at hl 0 rfl) ?_
        refine g_get S hN hw (C := RX12) (T := TX12) (N := 37) (ci := 12) (v := .ref a_m_alive) 0 5 iX12 k19 dX12_findCover_21 rfl rfl (by decide) rfl ?_
        refine lv_iload_n S.1 S.2.1 dX12_findCover_24 rfl (lv_at hl 2 rfl) ?_
        obtain ⟨hi_39, hf⟩ := rd_s hf
        refine g_zald (n := 60) (f := m_alive) S hN hw 3 hi_39 dX12_findCover_25 rfl ?_
        generalize m_alive (v2_36 : Int32).toNatClampNeg = y_40 at hf ⊢
        obtain ⟨jj_50_41, ejj_50_41, hf⟩ := jn_s hf
        have hJ_jj_50_41 : ∀ (z_41 : Int32) (H : Heap) (locs : List Loc) (ls : Array Slot), Wo E A s [oC a_m 12 [.int m_nodes, .int m_made, .ref a_m_from, .ref a_m_to, .ref a_m_weighs, .ref a_m_alive, .ref a_m_ranks, .int m_known, .ref a_m_best, .ref a_m_most, .ref a_m_apart, .ref a_m_near, .ref a_m_worth, .ref a_m_mates, .ref a_m_sizes, .ref a_m_sums, .ref a_m_has, .ref a_m_sorts, .ref a_m_pieces, .int m_pieceCount, .int m_parts, .int m_halves, .ref a_m_inCover, .int m_coverSize, .int m_holdSet, .ref a_m_pairCost, .ref a_m_inJoin, .int m_hasJoin, .ref a_m_half, .ref a_m_way, .ref a_m_counts, .ref a_m_lastCounts, .ref a_m_openArc, .ref a_m_with, .ref a_m_tried, .int m_stables, .long m_firstSet], aI E a_m_from 60 m_from, aI E a_m_to 60 m_to, aZ E a_m_alive 60 m_alive, aB E a_m_most 65536 m_most, aZ E a_m_inCover 60 m_inCover_39] H locs → lv_has ls 6 [(0, .ref a_m), (2, .int v2_36)] → jj_50_41 z_41 = some (u_m_coverSize, u_m_inCover) → W p l e (Rm 1) s m (([.ref a_m] : List Value).toArray) below meth c H locs 0 0 Q (F0 m 50 ls [.int z_41, .int v1_35]) := by
          intro z_41 H locs ls hw hl hf
          rw [ejj_50_41] at hf
          refine lv_ior S.1 S.2.1 dX12_findCover_50 ?_
          refine lv_istore_n (lv' := [(1, .int (v1_35 ||| z_41)), (0, .ref a_m), (2, .int v2_36)]) S.1 S.2.1 dX12_findCover_51 rfl hl (by decide) rfl (fun ls hl => ?_)
          refine lv_iinc (v := (v2_36 + 1)) (lv' := [(2, .int (v2_36 + 1)), (1, .int (v1_35 ||| z_41)), (0, .ref a_m)]) S.1 S.2.1 dX12_findCover_52 hl (k := 2) rfl rfl (by decide) rfl (fun ls hl => ?_)
          refine lv_goto (tgt := 4) S.1 S.2.1 dX12_findCover_55 (by decide) ?_
          exact ih (v1_35 ||| z_41) (v2_36 + 1) m_inCover_39 _ _ _ hw (lv_sub hl [2, 1, 0] rfl) hf
        refine lv_if_eq (tgt := 49) S.1 S.2.1 dX12_findCover_26 (by decide) (fun h_43 => ?_) (fun h_43 => ?_)
        · replace hf := if_t h_43 hf
          refine lv_iconst (v := 0) S.1 S.2.1 dX12_findCover_49 (by decide) ?_
          exact hJ_jj_50_41 0 _ _ _ hw (lv_sub hl [0, 2] rfl) hf
        · replace hf := if_f h_43 hf
          refine lv_iconst (v := 1) S.1 S.2.1 dX12_findCover_29 (by decide) ?_
          refine lv_aload_n S.1 S.2.1 dX12_findCover_30 rfl (lv_at hl 0 rfl) ?_
          refine g_get S hN hw (C := RX12) (T := TX12) (N := 37) (ci := 12) (v := .ref a_m_from) 0 2 iX12 k7 dX12_findCover_31 rfl rfl (by decide) rfl ?_
          refine lv_iload_n S.1 S.2.1 dX12_findCover_34 rfl (lv_at hl 2 rfl) ?_
          obtain ⟨hi_43, hf⟩ := rd_s hf
          refine g_iald (n := 60) (f := m_from) S hN hw 1 hi_43 dX12_findCover_35 rfl ?_
          generalize m_from (v2_36 : Int32).toNatClampNeg = y_44 at hf ⊢
          refine lv_ishl S.1 S.2.1 dX12_findCover_36 ?_
          refine lv_iconst (v := 1) S.1 S.2.1 dX12_findCover_37 (by decide) ?_
          refine lv_aload_n S.1 S.2.1 dX12_findCover_38 rfl (lv_at hl 0 rfl) ?_
          refine g_get S hN hw (C := RX12) (T := TX12) (N := 37) (ci := 12) (v := .ref a_m_to) 0 3 iX12 k13 dX12_findCover_39 rfl rfl (by decide) rfl ?_
          refine lv_iload_n S.1 S.2.1 dX12_findCover_42 rfl (lv_at hl 2 rfl) ?_
          obtain ⟨hi_44, hf⟩ := rd_s hf
          refine g_iald (n := 60) (f := m_to) S hN hw 2 hi_44 dX12_findCover_43 rfl ?_
          generalize m_to (v2_36 : Int32).toNatClampNeg = y_45 at hf ⊢
          refine lv_ishl S.1 S.2.1 dX12_findCover_44 ?_
          refine lv_ior S.1 S.2.1 dX12_findCover_45 ?_
          refine lv_goto (tgt := 50) S.1 S.2.1 dX12_findCover_46 (by decide) ?_
          exact hJ_jj_50_41 (((1 : Int32) <<< (y_44 &&& 31)) ||| ((1 : Int32) <<< (y_45 &&& 31))) _ _ _ hw (lv_sub hl [0, 2] rfl) hf
  exact hL_4_45 F 0 0 m_inCover _ _ _ hw (lv_sub hl [2, 1, 0] rfl) hf
def f_X12_findHold_L154 (F : Nat) (m_nodes : Int32) (m_apart_2 : Nat → Int32) (kk_218_10 : Int32 → Option (Int32 × (Nat → Int32))) : Nat → Int32 → Int32 → Int32 → Int32 → Option (Int32 × (Nat → Int32))
  | 0, _, _, _, _ => none
  | n + 1, v1_12, v2_13, v3_14, m_holdSet_15 => (if m_nodes ≤ v3_14 then (kk_218_10 m_holdSet_15) else (if v2_13 ≤ 0 then (kk_218_10 m_holdSet_15) else (f_X12_bits F (v1_12 &&& (((1 : Int32) <<< (v3_14 &&& 31)) ^^^ (-1)))).bind (fun r_18 => rd 65536 m_apart_2 (v1_12 &&& (((1 : Int32) <<< (v3_14 &&& 31)) ^^^ (-1))) (fun y_20 => (if (r_18 - y_20) = (v2_13 - 1) then (f_X12_findHold_L154 F m_nodes m_apart_2 kk_218_10 n (v1_12 &&& (((1 : Int32) <<< (v3_14 &&& 31)) ^^^ (-1))) (v2_13 + (-1)) (v3_14 + 1) (m_holdSet_15 ||| ((1 : Int32) <<< (v3_14 &&& 31)))) else (f_X12_findHold_L154 F m_nodes m_apart_2 kk_218_10 n v1_12 v2_13 (v3_14 + 1) m_holdSet_15))))))
def f_X12_findHold_L33 (m_nodes : Int32) (m_near : Nat → Int32) (r_29 : Int32) (kk_76_37 : Int32 → Option (Int32 × (Nat → Int32))) : Nat → Int32 → Int32 → Option (Int32 × (Nat → Int32))
  | 0, _, _ => none
  | n + 1, v3_39, v4_40 => (if m_nodes ≤ v4_40 then (kk_76_37 v3_39) else rd 256 m_near ((16 * r_29) + v4_40) (fun y_42 => (jn (fun (z_43 : Int32) => (f_X12_findHold_L33 m_nodes m_near r_29 kk_76_37 n (v3_39 &&& z_43) (v4_40 + 1))) (fun jj_68_43 => (if y_42 ≤ 0 then (jj_68_43 (-1)) else (jj_68_43 (((1 : Int32) <<< (v4_40 &&& 31)) ^^^ (-1))))))))
def f_X12_findHold_L9 (F : Nat) (m_nodes : Int32) (m_near : Nat → Int32) (kk_127_22 : (Nat → Int32) → Option (Int32 × (Nat → Int32))) : Nat → Int32 → (Nat → Int32) → Option (Int32 × (Nat → Int32))
  | 0, _, _ => none
  | n + 1, v1_24, m_apart_25 => (if (f_X12_all m_nodes) < v1_24 then (kk_127_22 m_apart_25) else (f_X12_least F v1_24).bind (fun r_29 => (jn (fun (v3_31 : Int32) => rd 65536 m_apart_25 v3_31 (fun y_32 => rd 65536 m_apart_25 (v1_24 &&& (((1 : Int32) <<< (r_29 &&& 31)) ^^^ (-1))) (fun y_33 => (jn (fun (z_34 : Int32) => wr 65536 m_apart_25 v1_24 (((z_34 : Int32).toInt8.toInt32 : Int32).toInt8.toInt32) (fun m_apart_36 => (f_X12_findHold_L9 F m_nodes m_near kk_127_22 n (v1_24 + 1) m_apart_36))) (fun jj_119_34 => (if (1 + y_32) ≤ y_33 then (jj_119_34 y_33) else (jj_119_34 (1 + y_32)))))))) (fun kk_76_37 => (f_X12_findHold_L33 m_nodes m_near r_29 kk_76_37 F (v1_24 &&& (((1 : Int32) <<< (r_29 &&& 31)) ^^^ (-1))) 0)))))
def f_X12_findHold (F : Nat) (m_nodes : Int32) (m_apart : Nat → Int32) (m_near : Nat → Int32) : Option (Int32 × (Nat → Int32)) :=
  wr 65536 m_apart 0 ((0 : Int32).toInt8.toInt32) (fun m_apart_1 => (jn (fun (m_apart_2 : Nat → Int32) => rd 65536 m_apart_2 (f_X12_all m_nodes) (fun y_7 => (jn (fun (m_holdSet_8 : Int32) => some (m_holdSet_8, m_apart_2)) (fun kk_218_10 => (f_X12_findHold_L154 F m_nodes m_apart_2 kk_218_10 F (f_X12_all m_nodes) (m_nodes - y_7) 0 0))))) (fun kk_127_22 => (f_X12_findHold_L9 F m_nodes m_near kk_127_22 F 1 m_apart_1))))
set_option maxHeartbeats 4000000 in
set_option maxRecDepth 100000 in
theorem c_X12_findHold (l : Launch) (E : Ev) (F : Nat) (m_nodes : Int32) (m_made : Int32) (a_m_from : Nat) (a_m_to : Nat) (a_m_weighs : Nat) (a_m_alive : Nat) (a_m_ranks : Nat) (m_known : Int32) (a_m_best : Nat) (a_m_most : Nat) (m_apart : Nat → Int32) (a_m_apart : Nat) (m_near : Nat → Int32) (a_m_near : Nat) (a_m_worth : Nat) (a_m_mates : Nat) (a_m_sizes : Nat) (a_m_sums : Nat) (a_m_has : Nat) (a_m_sorts : Nat) (a_m_pieces : Nat) (m_pieceCount : Int32) (m_parts : Int32) (m_halves : Int32) (a_m_inCover : Nat) (m_coverSize : Int32) (m_holdSet : Int32) (a_m_pairCost : Nat) (a_m_inJoin : Nat) (m_hasJoin : Int32) (a_m_half : Nat) (a_m_way : Nat) (a_m_counts : Nat) (a_m_lastCounts : Nat) (a_m_openArc : Nat) (a_m_with : Nat) (a_m_tried : Nat) (m_stables : Int32) (m_firstSet : Int64) (a_m : Nat) (u_m_holdSet : Int32) (u_m_apart : Nat → Int32) (hf : f_X12_findHold F m_nodes m_apart m_near = some (u_m_holdSet, u_m_apart)) :
    CtV l yX12_findHold wsX12_findHold (Rm 1) E [.ref a_m] [oC a_m 12 [.int m_nodes, .int m_made, .ref a_m_from, .ref a_m_to, .ref a_m_weighs, .ref a_m_alive, .ref a_m_ranks, .int m_known, .ref a_m_best, .ref a_m_most, .ref a_m_apart, .ref a_m_near, .ref a_m_worth, .ref a_m_mates, .ref a_m_sizes, .ref a_m_sums, .ref a_m_has, .ref a_m_sorts, .ref a_m_pieces, .int m_pieceCount, .int m_parts, .int m_halves, .ref a_m_inCover, .int m_coverSize, .int m_holdSet, .ref a_m_pairCost, .ref a_m_inJoin, .int m_hasJoin, .ref a_m_half, .ref a_m_way, .ref a_m_counts, .ref a_m_lastCounts, .ref a_m_openArc, .ref a_m_with, .ref a_m_tried, .int m_stables, .long m_firstSet], aB E a_m_apart 65536 m_apart, aI E a_m_near 256 m_near] [oC a_m 12 [.int m_nodes, .int m_made, .ref a_m_from, .ref a_m_to, .ref a_m_weighs, .ref a_m_alive, .ref a_m_ranks, .int m_known, .ref a_m_best, .ref a_m_most, .ref a_m_apart, .ref a_m_near, .ref a_m_worth, .ref a_m_mates, .ref a_m_sizes, .ref a_m_sums, .ref a_m_has, .ref a_m_sorts, .ref a_m_pieces, .int m_pieceCount, .int m_parts, .int m_halves, .ref a_m_inCover, .int m_coverSize, .int u_m_holdSet, .ref a_m_pairCost, .ref a_m_inJoin, .int m_hasJoin, .ref a_m_half, .ref a_m_way, .ref a_m_counts, .ref a_m_lastCounts, .ref a_m_openArc, .ref a_m_with, .ref a_m_tried, .int m_stables, .long m_firstSet], aB E a_m_apart 65536 u_m_apart, aI E a_m_near 256 m_near] := by
  refine ofV (cc := cX12_findHold) (maxL := 6) (own := RX12) rfl rfl (by decide) rfl rfl ?_
  intro p e s m below meth c A ls Q S hnm hN hw hA hl0 hE
  have hE2 : ∀ (H : Heap) (locs : List Loc) (pc : Nat) (ls : Array Slot) (w' : va_W), Wo E A s w' H locs → w' = [oC a_m 12 [.int m_nodes, .int m_made, .ref a_m_from, .ref a_m_to, .ref a_m_weighs, .ref a_m_alive, .ref a_m_ranks, .int m_known, .ref a_m_best, .ref a_m_most, .ref a_m_apart, .ref a_m_near, .ref a_m_worth, .ref a_m_mates, .ref a_m_sizes, .ref a_m_sums, .ref a_m_has, .ref a_m_sorts, .ref a_m_pieces, .int m_pieceCount, .int m_parts, .int m_halves, .ref a_m_inCover, .int m_coverSize, .int u_m_holdSet, .ref a_m_pairCost, .ref a_m_inJoin, .int m_hasJoin, .ref a_m_half, .ref a_m_way, .ref a_m_counts, .ref a_m_lastCounts, .ref a_m_openArc, .ref a_m_with, .ref a_m_tried, .int m_stables, .long m_firstSet], aB E a_m_apart 65536 u_m_apart, aI E a_m_near 256 m_near] → decode cX12_findHold pc = .ok (.return_, 1) → W p l e (Rm 1) s m (([.ref a_m] : List Value).toArray) below meth c H locs 0 0 Q (F0 m pc ls []) := by
    intro H locs pc ls w' hw e1 hd
    subst e1
    exact hE H locs pc ls hw hd
  have hl : lv_has ls 6 [(0, .ref a_m)] := hl0 _ (lv_entry [.ref a_m] (n := 6) (Nat.le_of_ble_eq_true rfl))
  have iX12 : ∀ w ∈ wsX120, w ∈ wsX12_findHold := by decide +kernel
  have k140 := S.2.2.2.2 (.fieldLink RX12 140 "PairMatchingModel" "holdSet" "I") (by decide +kernel)
  have k34 := S.2.2.2.2 (.fieldLink RX12 34 "PairMatchingModel" "apart" "[B") (by decide +kernel)
  have k37 := S.2.2.2.2 (.fieldLink RX12 37 "PairMatchingModel" "near" "[I") (by decide +kernel)
  have k92 := S.2.2.2.2 (.fieldLink RX12 92 "PairMatchingModel" "nodes" "I") (by decide +kernel)
  unfold f_X12_findHold at hf
  refine lv_aload_n S.1 S.2.1 dX12_findHold_0 rfl (lv_at hl 0 rfl) ?_
  refine g_get S hN hw (C := RX12) (T := TX12) (N := 37) (ci := 12) (v := .ref a_m_apart) 0 10 iX12 k34 dX12_findHold_1 rfl rfl (by decide) rfl ?_
  refine lv_iconst (v := 0) S.1 S.2.1 dX12_findHold_4 (by decide) ?_
  refine lv_iconst (v := 0) S.1 S.2.1 dX12_findHold_5 (by decide) ?_
  obtain ⟨hi_0, hf⟩ := wr_s hf
  refine g_bast (n := 65536) (f := m_apart) (w1 := [oC a_m 12 [.int m_nodes, .int m_made, .ref a_m_from, .ref a_m_to, .ref a_m_weighs, .ref a_m_alive, .ref a_m_ranks, .int m_known, .ref a_m_best, .ref a_m_most, .ref a_m_apart, .ref a_m_near, .ref a_m_worth, .ref a_m_mates, .ref a_m_sizes, .ref a_m_sums, .ref a_m_has, .ref a_m_sorts, .ref a_m_pieces, .int m_pieceCount, .int m_parts, .int m_halves, .ref a_m_inCover, .int m_coverSize, .int m_holdSet, .ref a_m_pairCost, .ref a_m_inJoin, .int m_hasJoin, .ref a_m_half, .ref a_m_way, .ref a_m_counts, .ref a_m_lastCounts, .ref a_m_openArc, .ref a_m_with, .ref a_m_tried, .int m_stables, .long m_firstSet], aB E a_m_apart 65536 (va_up m_apart (0 : Int32).toNatClampNeg ((0 : Int32).toInt8.toInt32)), aI E a_m_near 256 m_near]) S hN hw 1 hi_0 dX12_findHold_6 rfl rfl (fun H locs hw => ?_)
  generalize va_up m_apart (0 : Int32).toNatClampNeg ((0 : Int32).toInt8.toInt32) = m_apart_1 at hf hw
  refine lv_iconst (v := 1) S.1 S.2.1 dX12_findHold_7 (by decide) ?_
  refine lv_istore_n (lv' := [(1, .int 1), (0, .ref a_m)]) S.1 S.2.1 dX12_findHold_8 rfl hl (by decide) rfl (fun ls hl => ?_)
  obtain ⟨kk_127_22, ekk_127_22, hf⟩ := jn_s hf
  have hJ_kk_127_22 : ∀ (m_apart_2 : Nat → Int32) (H : Heap) (locs : List Loc) (ls : Array Slot), Wo E A s [oC a_m 12 [.int m_nodes, .int m_made, .ref a_m_from, .ref a_m_to, .ref a_m_weighs, .ref a_m_alive, .ref a_m_ranks, .int m_known, .ref a_m_best, .ref a_m_most, .ref a_m_apart, .ref a_m_near, .ref a_m_worth, .ref a_m_mates, .ref a_m_sizes, .ref a_m_sums, .ref a_m_has, .ref a_m_sorts, .ref a_m_pieces, .int m_pieceCount, .int m_parts, .int m_halves, .ref a_m_inCover, .int m_coverSize, .int m_holdSet, .ref a_m_pairCost, .ref a_m_inJoin, .int m_hasJoin, .ref a_m_half, .ref a_m_way, .ref a_m_counts, .ref a_m_lastCounts, .ref a_m_openArc, .ref a_m_with, .ref a_m_tried, .int m_stables, .long m_firstSet], aB E a_m_apart 65536 m_apart_2, aI E a_m_near 256 m_near] H locs → lv_has ls 6 [(0, .ref a_m)] → kk_127_22 m_apart_2 = some (u_m_holdSet, u_m_apart) → W p l e (Rm 1) s m (([.ref a_m] : List Value).toArray) below meth c H locs 0 0 Q (F0 m 127 ls []) := by
    intro m_apart_2 H locs ls hw hl hf
    rw [ekk_127_22] at hf
    refine lv_aload_n S.1 S.2.1 dX12_findHold_127 rfl (lv_at hl 0 rfl) ?_
    refine lv_iconst (v := 0) S.1 S.2.1 dX12_findHold_128 (by decide) ?_
    refine g_put S hN hw (C := RX12) (T := TX12) (N := 37) (ci := 12) (ty := .int) (w1 := [oC a_m 12 [.int m_nodes, .int m_made, .ref a_m_from, .ref a_m_to, .ref a_m_weighs, .ref a_m_alive, .ref a_m_ranks, .int m_known, .ref a_m_best, .ref a_m_most, .ref a_m_apart, .ref a_m_near, .ref a_m_worth, .ref a_m_mates, .ref a_m_sizes, .ref a_m_sums, .ref a_m_has, .ref a_m_sorts, .ref a_m_pieces, .int m_pieceCount, .int m_parts, .int m_halves, .ref a_m_inCover, .int m_coverSize, .int 0, .ref a_m_pairCost, .ref a_m_inJoin, .int m_hasJoin, .ref a_m_half, .ref a_m_way, .ref a_m_counts, .ref a_m_lastCounts, .ref a_m_openArc, .ref a_m_with, .ref a_m_tried, .int m_stables, .long m_firstSet], aB E a_m_apart 65536 m_apart_2, aI E a_m_near 256 m_near]) 0 24 iX12 k140 tyX12 tyX12_ok nmX12 dX12_findHold_129 rfl rfl (by decide) rfl (by decide +kernel) rfl rfl (Nat.le_of_ble_eq_true rfl) rfl (fun H locs hw => ?_)
    refine lv_aload_n S.1 S.2.1 dX12_findHold_132 rfl (lv_at hl 0 rfl) ?_
    refine g_calli (r := (f_X12_all m_nodes)) (wc := [oC a_m 12 [.int m_nodes, .int m_made, .ref a_m_from, .ref a_m_to, .ref a_m_weighs, .ref a_m_alive, .ref a_m_ranks, .int m_known, .ref a_m_best, .ref a_m_most, .ref a_m_apart, .ref a_m_near, .ref a_m_worth, .ref a_m_mates, .ref a_m_sizes, .ref a_m_sums, .ref a_m_has, .ref a_m_sorts, .ref a_m_pieces, .int m_pieceCount, .int m_parts, .int m_halves, .ref a_m_inCover, .int m_coverSize, .int 0, .ref a_m_pairCost, .ref a_m_inJoin, .int m_hasJoin, .ref a_m_half, .ref a_m_way, .ref a_m_counts, .ref a_m_lastCounts, .ref a_m_openArc, .ref a_m_with, .ref a_m_tried, .int m_stables, .long m_firstSet]]) (wr := [aB E a_m_apart 65536 m_apart_2, aI E a_m_near 256 m_near]) (w1 := [oC a_m 12 [.int m_nodes, .int m_made, .ref a_m_from, .ref a_m_to, .ref a_m_weighs, .ref a_m_alive, .ref a_m_ranks, .int m_known, .ref a_m_best, .ref a_m_most, .ref a_m_apart, .ref a_m_near, .ref a_m_worth, .ref a_m_mates, .ref a_m_sizes, .ref a_m_sums, .ref a_m_has, .ref a_m_sorts, .ref a_m_pieces, .int m_pieceCount, .int m_parts, .int m_halves, .ref a_m_inCover, .int m_coverSize, .int 0, .ref a_m_pairCost, .ref a_m_inJoin, .int m_hasJoin, .ref a_m_half, .ref a_m_way, .ref a_m_counts, .ref a_m_lastCounts, .ref a_m_openArc, .ref a_m_with, .ref a_m_tried, .int m_stables, .long m_firstSet]]) (va_runV (As := []) (rest := []) S (c_X12_all l E m_nodes m_made a_m_from a_m_to a_m_weighs a_m_alive a_m_ranks m_known a_m_best a_m_most a_m_apart a_m_near a_m_worth a_m_mates a_m_sizes a_m_sums a_m_has a_m_sorts a_m_pieces m_pieceCount m_parts m_halves a_m_inCover m_coverSize 0 a_m_pairCost a_m_inJoin m_hasJoin a_m_half a_m_way a_m_counts a_m_lastCounts a_m_openArc a_m_with a_m_tried m_stables m_firstSet a_m (f_X12_all m_nodes) rfl _) (cwV 0 S.2.2.2.2 gX12_findHold_X12_all rfl rfl rfl (by decide +kernel) (rm_le (by omega) (by decide))) (preV (q := (RX12, TX12, 37)) hN hw [0] rfl rfl rfl rfl) rfl rfl hl.1 rfl (lv_room (Nat.le_of_ble_eq_true rfl)) dX12_findHold_133 ⟨Nat.le_refl _, Nat.le_refl _⟩) hw hA [0] [1, 2] rfl rfl rfl (by decide) (fun H locs hw => ?_)
    have hw : Wo E A s [aB E a_m_apart 65536 m_apart_2, aI E a_m_near 256 m_near, oC a_m 12 [.int m_nodes, .int m_made, .ref a_m_from, .ref a_m_to, .ref a_m_weighs, .ref a_m_alive, .ref a_m_ranks, .int m_known, .ref a_m_best, .ref a_m_most, .ref a_m_apart, .ref a_m_near, .ref a_m_worth, .ref a_m_mates, .ref a_m_sizes, .ref a_m_sums, .ref a_m_has, .ref a_m_sorts, .ref a_m_pieces, .int m_pieceCount, .int m_parts, .int m_halves, .ref a_m_inCover, .int m_coverSize, .int 0, .ref a_m_pairCost, .ref a_m_inJoin, .int m_hasJoin, .ref a_m_half, .ref a_m_way, .ref a_m_counts, .ref a_m_lastCounts, .ref a_m_openArc, .ref a_m_with, .ref a_m_tried, .int m_stables, .long m_firstSet]] H _ := hw
    refine lv_istore_n (lv' := [(1, .int (f_X12_all m_nodes)), (0, .ref a_m)]) S.1 S.2.1 dX12_findHold_136 rfl hl (by decide) rfl (fun ls hl => ?_)
    refine lv_aload_n S.1 S.2.1 dX12_findHold_137 rfl (lv_at hl 1 rfl) ?_
    refine g_get S hN hw (C := RX12) (T := TX12) (N := 37) (ci := 12) (v := .int m_nodes) 2 0 iX12 k92 dX12_findHold_138 rfl rfl (by decide) rfl ?_
    refine lv_aload_n S.1 S.2.1 dX12_findHold_141 rfl (lv_at hl 1 rfl) ?_
    refine g_get S hN hw (C := RX12) (T := TX12) (N := 37) (ci := 12) (v := .ref a_m_apart) 2 10 iX12 k34 dX12_findHold_142 rfl rfl (by decide) rfl ?_
    refine lv_aload_n S.1 S.2.1 dX12_findHold_145 rfl (lv_at hl 1 rfl) ?_
    refine g_calli (r := (f_X12_all m_nodes)) (wc := [oC a_m 12 [.int m_nodes, .int m_made, .ref a_m_from, .ref a_m_to, .ref a_m_weighs, .ref a_m_alive, .ref a_m_ranks, .int m_known, .ref a_m_best, .ref a_m_most, .ref a_m_apart, .ref a_m_near, .ref a_m_worth, .ref a_m_mates, .ref a_m_sizes, .ref a_m_sums, .ref a_m_has, .ref a_m_sorts, .ref a_m_pieces, .int m_pieceCount, .int m_parts, .int m_halves, .ref a_m_inCover, .int m_coverSize, .int 0, .ref a_m_pairCost, .ref a_m_inJoin, .int m_hasJoin, .ref a_m_half, .ref a_m_way, .ref a_m_counts, .ref a_m_lastCounts, .ref a_m_openArc, .ref a_m_with, .ref a_m_tried, .int m_stables, .long m_firstSet]]) (wr := [aB E a_m_apart 65536 m_apart_2, aI E a_m_near 256 m_near]) (w1 := [oC a_m 12 [.int m_nodes, .int m_made, .ref a_m_from, .ref a_m_to, .ref a_m_weighs, .ref a_m_alive, .ref a_m_ranks, .int m_known, .ref a_m_best, .ref a_m_most, .ref a_m_apart, .ref a_m_near, .ref a_m_worth, .ref a_m_mates, .ref a_m_sizes, .ref a_m_sums, .ref a_m_has, .ref a_m_sorts, .ref a_m_pieces, .int m_pieceCount, .int m_parts, .int m_halves, .ref a_m_inCover, .int m_coverSize, .int 0, .ref a_m_pairCost, .ref a_m_inJoin, .int m_hasJoin, .ref a_m_half, .ref a_m_way, .ref a_m_counts, .ref a_m_lastCounts, .ref a_m_openArc, .ref a_m_with, .ref a_m_tried, .int m_stables, .long m_firstSet]]) (va_runV (As := []) (rest := [.ref a_m_apart, .int m_nodes]) S (c_X12_all l E m_nodes m_made a_m_from a_m_to a_m_weighs a_m_alive a_m_ranks m_known a_m_best a_m_most a_m_apart a_m_near a_m_worth a_m_mates a_m_sizes a_m_sums a_m_has a_m_sorts a_m_pieces m_pieceCount m_parts m_halves a_m_inCover m_coverSize 0 a_m_pairCost a_m_inJoin m_hasJoin a_m_half a_m_way a_m_counts a_m_lastCounts a_m_openArc a_m_with a_m_tried m_stables m_firstSet a_m (f_X12_all m_nodes) rfl _) (cwV 0 S.2.2.2.2 gX12_findHold_X12_all rfl rfl rfl (by decide +kernel) (rm_le (by omega) (by decide))) (preV (q := (RX12, TX12, 37)) hN hw [2] rfl rfl rfl rfl) rfl rfl hl.1 rfl (lv_room (Nat.le_of_ble_eq_true rfl)) dX12_findHold_146 ⟨Nat.le_refl _, Nat.le_refl _⟩) hw hA [2] [0, 1] rfl rfl rfl (by decide) (fun H locs hw => ?_)
    have hw : Wo E A s [aB E a_m_apart 65536 m_apart_2, aI E a_m_near 256 m_near, oC a_m 12 [.int m_nodes, .int m_made, .ref a_m_from, .ref a_m_to, .ref a_m_weighs, .ref a_m_alive, .ref a_m_ranks, .int m_known, .ref a_m_best, .ref a_m_most, .ref a_m_apart, .ref a_m_near, .ref a_m_worth, .ref a_m_mates, .ref a_m_sizes, .ref a_m_sums, .ref a_m_has, .ref a_m_sorts, .ref a_m_pieces, .int m_pieceCount, .int m_parts, .int m_halves, .ref a_m_inCover, .int m_coverSize, .int 0, .ref a_m_pairCost, .ref a_m_inJoin, .int m_hasJoin, .ref a_m_half, .ref a_m_way, .ref a_m_counts, .ref a_m_lastCounts, .ref a_m_openArc, .ref a_m_with, .ref a_m_tried, .int m_stables, .long m_firstSet]] H _ := hw
    obtain ⟨hi_6, hf⟩ := rd_s hf
    refine g_bald (n := 65536) (f := m_apart_2) S hN hw 0 hi_6 dX12_findHold_149 rfl ?_
    generalize m_apart_2 ((f_X12_all m_nodes) : Int32).toNatClampNeg = y_7 at hf ⊢
    refine lv_isub S.1 S.2.1 dX12_findHold_150 ?_
    refine lv_istore_n (lv' := [(2, .int (m_nodes - y_7)), (1, .int (f_X12_all m_nodes)), (0, .ref a_m)]) S.1 S.2.1 dX12_findHold_151 rfl hl (by decide) rfl (fun ls hl => ?_)
    refine lv_iconst (v := 0) S.1 S.2.1 dX12_findHold_152 (by decide) ?_
    refine lv_istore_n (lv' := [(3, .int 0), (2, .int (m_nodes - y_7)), (1, .int (f_X12_all m_nodes)), (0, .ref a_m)]) S.1 S.2.1 dX12_findHold_153 rfl hl (by decide) rfl (fun ls hl => ?_)
    obtain ⟨kk_218_10, ekk_218_10, hf⟩ := jn_s hf
    have hJ_kk_218_10 : ∀ (m_holdSet_8 : Int32) (H : Heap) (locs : List Loc) (ls : Array Slot), Wo E A s [aB E a_m_apart 65536 m_apart_2, aI E a_m_near 256 m_near, oC a_m 12 [.int m_nodes, .int m_made, .ref a_m_from, .ref a_m_to, .ref a_m_weighs, .ref a_m_alive, .ref a_m_ranks, .int m_known, .ref a_m_best, .ref a_m_most, .ref a_m_apart, .ref a_m_near, .ref a_m_worth, .ref a_m_mates, .ref a_m_sizes, .ref a_m_sums, .ref a_m_has, .ref a_m_sorts, .ref a_m_pieces, .int m_pieceCount, .int m_parts, .int m_halves, .ref a_m_inCover, .int m_coverSize, .int m_holdSet_8, .ref a_m_pairCost, .ref a_m_inJoin, .int m_hasJoin, .ref a_m_half, .ref a_m_way, .ref a_m_counts, .ref a_m_lastCounts, .ref a_m_openArc, .ref a_m_with, .ref a_m_tried, .int m_stables, .long m_firstSet]] H locs → lv_has ls 6 [] → kk_218_10 m_holdSet_8 = some (u_m_holdSet, u_m_apart) → W p l e (Rm 1) s m (([.ref a_m] : List Value).toArray) below meth c H locs 0 0 Q (F0 m 218 ls []) := by
      intro m_holdSet_8 H locs ls hw hl hf
      rw [ekk_218_10] at hf
      obtain ⟨e_9, e_10⟩ := tp2 hf
      exact hE2 _ _ _ _ _ (hw.sub [2, 0, 1] rfl rfl) (cg2 (fun (x1 : Int32) (x2 : Nat → Int32) => [oC a_m 12 [.int m_nodes, .int m_made, .ref a_m_from, .ref a_m_to, .ref a_m_weighs, .ref a_m_alive, .ref a_m_ranks, .int m_known, .ref a_m_best, .ref a_m_most, .ref a_m_apart, .ref a_m_near, .ref a_m_worth, .ref a_m_mates, .ref a_m_sizes, .ref a_m_sums, .ref a_m_has, .ref a_m_sorts, .ref a_m_pieces, .int m_pieceCount, .int m_parts, .int m_halves, .ref a_m_inCover, .int m_coverSize, .int x1, .ref a_m_pairCost, .ref a_m_inJoin, .int m_hasJoin, .ref a_m_half, .ref a_m_way, .ref a_m_counts, .ref a_m_lastCounts, .ref a_m_openArc, .ref a_m_with, .ref a_m_tried, .int m_stables, .long m_firstSet], aB E a_m_apart 65536 x2, aI E a_m_near 256 m_near]) e_9 e_10) dX12_findHold_218
    have hL_154_21 : ∀ (n : Nat) (v1_12 : Int32) (v2_13 : Int32) (v3_14 : Int32) (m_holdSet_15 : Int32) (H : Heap) (locs : List Loc) (ls : Array Slot), Wo E A s [aB E a_m_apart 65536 m_apart_2, aI E a_m_near 256 m_near, oC a_m 12 [.int m_nodes, .int m_made, .ref a_m_from, .ref a_m_to, .ref a_m_weighs, .ref a_m_alive, .ref a_m_ranks, .int m_known, .ref a_m_best, .ref a_m_most, .ref a_m_apart, .ref a_m_near, .ref a_m_worth, .ref a_m_mates, .ref a_m_sizes, .ref a_m_sums, .ref a_m_has, .ref a_m_sorts, .ref a_m_pieces, .int m_pieceCount, .int m_parts, .int m_halves, .ref a_m_inCover, .int m_coverSize, .int m_holdSet_15, .ref a_m_pairCost, .ref a_m_inJoin, .int m_hasJoin, .ref a_m_half, .ref a_m_way, .ref a_m_counts, .ref a_m_lastCounts, .ref a_m_openArc, .ref a_m_with, .ref a_m_tried, .int m_stables, .long m_firstSet]] H locs → lv_has ls 6 [(0, .ref a_m), (1, .int v1_12), (2, .int v2_13), (3, .int v3_14)] → f_X12_findHold_L154 F m_nodes m_apart_2 kk_218_10 n v1_12 v2_13 v3_14 m_holdSet_15 = some (u_m_holdSet, u_m_apart) → W p l e (Rm 1) s m (([.ref a_m] : List Value).toArray) below meth c H locs 0 0 Q (F0 m 154 ls []) := by
      intro n
      induction n with
      | zero => intro v1_12 v2_13 v3_14 m_holdSet_15 H locs ls hw hl hf; unfold f_X12_findHold_L154 at hf; cases hf
      | succ n ih =>
        intro v1_12 v2_13 v3_14 m_holdSet_15 H locs ls hw hl hf
        unfold f_X12_findHold_L154 at hf
        refine lv_iload_n S.1 S.2.1 dX12_findHold_154 rfl (lv_at hl 3 rfl) ?_
        refine lv_aload_n S.1 S.2.1 dX12_findHold_155 rfl (lv_at hl 0 rfl) ?_
        refine g_get S hN hw (C := RX12) (T := TX12) (N := 37) (ci := 12) (v := .int m_nodes) 2 0 iX12 k92 dX12_findHold_156 rfl rfl (by decide) rfl ?_
        refine lv_icmp_ge (tgt := 218) S.1 S.2.1 dX12_findHold_159 (by decide) (fun h_16 => ?_) (fun h_16 => ?_)
        · replace hf := if_t h_16 hf
          exact hJ_kk_218_10 m_holdSet_15 _ _ _ hw (lv_sub hl [] rfl) hf
        · replace hf := if_f h_16 hf
          refine lv_iload_n S.1 S.2.1 dX12_findHold_162 rfl (lv_at hl 2 rfl) ?_
          refine lv_if_le (tgt := 218) S.1 S.2.1 dX12_findHold_163 (by decide) (fun h_17 => ?_) (fun h_17 => ?_)
          · replace hf := if_t h_17 hf
            exact hJ_kk_218_10 m_holdSet_15 _ _ _ hw (lv_sub hl [] rfl) hf
          · replace hf := if_f h_17 hf
            refine lv_iload_n S.1 S.2.1 dX12_findHold_166 rfl (lv_at hl 1 rfl) ?_
            refine lv_iconst (v := 1) S.1 S.2.1 dX12_findHold_167 (by decide) ?_
            refine lv_iload_n S.1 S.2.1 dX12_findHold_168 rfl (lv_at hl 3 rfl) ?_
            refine lv_ishl S.1 S.2.1 dX12_findHold_169 ?_
            refine lv_iconst (v := (-1)) S.1 S.2.1 dX12_findHold_170 (by decide) ?_
            refine lv_ixor S.1 S.2.1 dX12_findHold_171 ?_
            refine lv_iand S.1 S.2.1 dX12_findHold_172 ?_
            refine lv_istore (lv' := [(4, .int (v1_12 &&& (((1 : Int32) <<< (v3_14 &&& 31)) ^^^ (-1)))), (0, .ref a_m), (1, .int v1_12), (2, .int v2_13), (3, .int v3_14)]) S.1 S.2.1 dX12_findHold_173 hl (by decide) rfl (fun ls hl => ?_)
            refine lv_iload S.1 S.2.1 dX12_findHold_175 (lv_at hl 0 rfl) ?_
            obtain ⟨r_18, hc_18, hf⟩ := bd_s hf
            refine g_calli (r := r_18) (wc := []) (wr := [aB E a_m_apart 65536 m_apart_2, aI E a_m_near 256 m_near, oC a_m 12 [.int m_nodes, .int m_made, .ref a_m_from, .ref a_m_to, .ref a_m_weighs, .ref a_m_alive, .ref a_m_ranks, .int m_known, .ref a_m_best, .ref a_m_most, .ref a_m_apart, .ref a_m_near, .ref a_m_worth, .ref a_m_mates, .ref a_m_sizes, .ref a_m_sums, .ref a_m_has, .ref a_m_sorts, .ref a_m_pieces, .int m_pieceCount, .int m_parts, .int m_halves, .ref a_m_inCover, .int m_coverSize, .int m_holdSet_15, .ref a_m_pairCost, .ref a_m_inJoin, .int m_hasJoin, .ref a_m_half, .ref a_m_way, .ref a_m_counts, .ref a_m_lastCounts, .ref a_m_openArc, .ref a_m_with, .ref a_m_tried, .int m_stables, .long m_firstSet]]) (w1 := []) (va_runS (As := [.int (v1_12 &&& (((1 : Int32) <<< (v3_14 &&& 31)) ^^^ (-1)))]) (rest := []) S (c_X12_bits l E F (v1_12 &&& (((1 : Int32) <<< (v3_14 &&& 31)) ^^^ (-1))) r_18 hc_18 _) (va_cwS 1 S.2.2.2.2 gX12_findHold_X12_bits rfl rfl rfl (by decide +kernel) (rm_le (by omega) (by decide))) (preS hN hw [] rfl rfl) rfl rfl hl.1 rfl (lv_room (Nat.le_of_ble_eq_true rfl)) dX12_findHold_177 ⟨Nat.le_refl _, Nat.le_refl _⟩) hw hA [] [0, 1, 2] rfl rfl rfl (by decide) (fun H locs hw => ?_)
            have hw : Wo E A s [aB E a_m_apart 65536 m_apart_2, aI E a_m_near 256 m_near, oC a_m 12 [.int m_nodes, .int m_made, .ref a_m_from, .ref a_m_to, .ref a_m_weighs, .ref a_m_alive, .ref a_m_ranks, .int m_known, .ref a_m_best, .ref a_m_most, .ref a_m_apart, .ref a_m_near, .ref a_m_worth, .ref a_m_mates, .ref a_m_sizes, .ref a_m_sums, .ref a_m_has, .ref a_m_sorts, .ref a_m_pieces, .int m_pieceCount, .int m_parts, .int m_halves, .ref a_m_inCover, .int m_coverSize, .int m_holdSet_15, .ref a_m_pairCost, .ref a_m_inJoin, .int m_hasJoin, .ref a_m_half, .ref a_m_way, .ref a_m_counts, .ref a_m_lastCounts, .ref a_m_openArc, .ref a_m_with, .ref a_m_tried, .int m_stables, .long m_firstSet]] H _ := hw
            refine lv_aload_n S.1 S.2.1 dX12_findHold_180 rfl (lv_at hl 1 rfl) ?_
            refine g_get S hN hw (C := RX12) (T := TX12) (N := 37) (ci := 12) (v := .ref a_m_apart) 2 10 iX12 k34 dX12_findHold_181 rfl rfl (by decide) rfl ?_
            refine lv_iload S.1 S.2.1 dX12_findHold_184 (lv_at hl 0 rfl) ?_
            obtain ⟨hi_19, hf⟩ := rd_s hf
            refine g_bald (n := 65536) (f := m_apart_2) S hN hw 0 hi_19 dX12_findHold_186 rfl ?_
            generalize m_apart_2 ((v1_12 &&& (((1 : Int32) <<< (v3_14 &&& 31)) ^^^ (-1))) : Int32).toNatClampNeg = y_20 at hf ⊢
            refine lv_isub S.1 S.2.1 dX12_findHold_187 ?_
            refine lv_iload_n S.1 S.2.1 dX12_findHold_188 rfl (lv_at hl 3 rfl) ?_
            refine lv_iconst (v := 1) S.1 S.2.1 dX12_findHold_189 (by decide) ?_
            refine lv_isub S.1 S.2.1 dX12_findHold_190 ?_
            refine lv_icmp_ne (tgt := 212) S.1 S.2.1 dX12_findHold_191 (by decide) (fun h_21 => ?_) (fun h_21 => ?_)
            · replace hf := if_f h_21 hf
              refine lv_iinc (v := (v3_14 + 1)) (lv' := [(3, .int (v3_14 + 1)), (4, .int (v1_12 &&& (((1 : Int32) <<< (v3_14 &&& 31)) ^^^ (-1)))), (0, .ref a_m), (1, .int v1_12), (2, .int v2_13)]) S.1 S.2.1 dX12_findHold_212 hl (k := 4) rfl rfl (by decide) rfl (fun ls hl => ?_)
              refine lv_goto (tgt := 154) S.1 S.2.1 dX12_findHold_215 (by decide) ?_
              exact ih v1_12 v2_13 (v3_14 + 1) m_holdSet_15 _ _ _ hw (lv_sub hl [2, 3, 4, 0] rfl) hf
            · replace hf := if_t h_21 hf
              refine lv_aload_n S.1 S.2.1 dX12_findHold_194 rfl (lv_at hl 1 rfl) ?_
              refine lv_dup S.1 S.2.1 dX12_findHold_195 rfl ?_
              refine g_get S hN hw (C := RX12) (T := TX12) (N := 37) (ci := 12) (v := .int m_holdSet_15) 2 24 iX12 k140 dX12_findHold_196 rfl rfl (by decide) rfl ?_
              refine lv_iconst (v := 1) S.1 S.2.1 dX12_findHold_199 (by decide) ?_
              refine lv_iload_n S.1 S.2.1 dX12_findHold_200 rfl (lv_at hl 4 rfl) ?_
              refine lv_ishl S.1 S.2.1 dX12_findHold_201 ?_
              refine lv_ior S.1 S.2.1 dX12_findHold_202 ?_
              refine g_put S hN hw (C := RX12) (T := TX12) (N := 37) (ci := 12) (ty := .int) (w1 := [aB E a_m_apart 65536 m_apart_2, aI E a_m_near 256 m_near, oC a_m 12 [.int m_nodes, .int m_made, .ref a_m_from, .ref a_m_to, .ref a_m_weighs, .ref a_m_alive, .ref a_m_ranks, .int m_known, .ref a_m_best, .ref a_m_most, .ref a_m_apart, .ref a_m_near, .ref a_m_worth, .ref a_m_mates, .ref a_m_sizes, .ref a_m_sums, .ref a_m_has, .ref a_m_sorts, .ref a_m_pieces, .int m_pieceCount, .int m_parts, .int m_halves, .ref a_m_inCover, .int m_coverSize, .int (m_holdSet_15 ||| ((1 : Int32) <<< (v3_14 &&& 31))), .ref a_m_pairCost, .ref a_m_inJoin, .int m_hasJoin, .ref a_m_half, .ref a_m_way, .ref a_m_counts, .ref a_m_lastCounts, .ref a_m_openArc, .ref a_m_with, .ref a_m_tried, .int m_stables, .long m_firstSet]]) 2 24 iX12 k140 tyX12 tyX12_ok nmX12 dX12_findHold_203 rfl rfl (by decide) rfl (by decide +kernel) rfl rfl (Nat.le_of_ble_eq_true rfl) rfl (fun H locs hw => ?_)
              refine lv_iload S.1 S.2.1 dX12_findHold_206 (lv_at hl 0 rfl) ?_
              refine lv_istore_n (lv' := [(1, .int (v1_12 &&& (((1 : Int32) <<< (v3_14 &&& 31)) ^^^ (-1)))), (4, .int (v1_12 &&& (((1 : Int32) <<< (v3_14 &&& 31)) ^^^ (-1)))), (0, .ref a_m), (2, .int v2_13), (3, .int v3_14)]) S.1 S.2.1 dX12_findHold_208 rfl hl (by decide) rfl (fun ls hl => ?_)
              refine lv_iinc (v := (v2_13 + (-1))) (lv' := [(2, .int (v2_13 + (-1))), (1, .int (v1_12 &&& (((1 : Int32) <<< (v3_14 &&& 31)) ^^^ (-1)))), (4, .int (v1_12 &&& (((1 : Int32) <<< (v3_14 &&& 31)) ^^^ (-1)))), (0, .ref a_m), (3, .int v3_14)]) S.1 S.2.1 dX12_findHold_209 hl (k := 3) rfl rfl (by decide) rfl (fun ls hl => ?_)
              refine lv_iinc (v := (v3_14 + 1)) (lv' := [(3, .int (v3_14 + 1)), (2, .int (v2_13 + (-1))), (1, .int (v1_12 &&& (((1 : Int32) <<< (v3_14 &&& 31)) ^^^ (-1)))), (4, .int (v1_12 &&& (((1 : Int32) <<< (v3_14 &&& 31)) ^^^ (-1)))), (0, .ref a_m)]) S.1 S.2.1 dX12_findHold_212 hl (k := 4) rfl rfl (by decide) rfl (fun ls hl => ?_)
              refine lv_goto (tgt := 154) S.1 S.2.1 dX12_findHold_215 (by decide) ?_
              exact ih (v1_12 &&& (((1 : Int32) <<< (v3_14 &&& 31)) ^^^ (-1))) (v2_13 + (-1)) (v3_14 + 1) (m_holdSet_15 ||| ((1 : Int32) <<< (v3_14 &&& 31))) _ _ _ hw (lv_sub hl [4, 2, 1, 0] rfl) hf
    exact hL_154_21 F (f_X12_all m_nodes) (m_nodes - y_7) 0 0 _ _ _ hw (lv_sub hl [3, 2, 1, 0] rfl) hf
  have hL_9_46 : ∀ (n : Nat) (v1_24 : Int32) (m_apart_25 : Nat → Int32) (H : Heap) (locs : List Loc) (ls : Array Slot), Wo E A s [oC a_m 12 [.int m_nodes, .int m_made, .ref a_m_from, .ref a_m_to, .ref a_m_weighs, .ref a_m_alive, .ref a_m_ranks, .int m_known, .ref a_m_best, .ref a_m_most, .ref a_m_apart, .ref a_m_near, .ref a_m_worth, .ref a_m_mates, .ref a_m_sizes, .ref a_m_sums, .ref a_m_has, .ref a_m_sorts, .ref a_m_pieces, .int m_pieceCount, .int m_parts, .int m_halves, .ref a_m_inCover, .int m_coverSize, .int m_holdSet, .ref a_m_pairCost, .ref a_m_inJoin, .int m_hasJoin, .ref a_m_half, .ref a_m_way, .ref a_m_counts, .ref a_m_lastCounts, .ref a_m_openArc, .ref a_m_with, .ref a_m_tried, .int m_stables, .long m_firstSet], aB E a_m_apart 65536 m_apart_25, aI E a_m_near 256 m_near] H locs → lv_has ls 6 [(0, .ref a_m), (1, .int v1_24)] → f_X12_findHold_L9 F m_nodes m_near kk_127_22 n v1_24 m_apart_25 = some (u_m_holdSet, u_m_apart) → W p l e (Rm 1) s m (([.ref a_m] : List Value).toArray) below meth c H locs 0 0 Q (F0 m 9 ls []) := by
    intro n
    induction n with
    | zero => intro v1_24 m_apart_25 H locs ls hw hl hf; unfold f_X12_findHold_L9 at hf; cases hf
    | succ n ih =>
      intro v1_24 m_apart_25 H locs ls hw hl hf
      unfold f_X12_findHold_L9 at hf
      refine lv_iload_n S.1 S.2.1 dX12_findHold_9 rfl (lv_at hl 1 rfl) ?_
      refine lv_aload_n S.1 S.2.1 dX12_findHold_10 rfl (lv_at hl 0 rfl) ?_
      refine g_calli (r := (f_X12_all m_nodes)) (wc := [oC a_m 12 [.int m_nodes, .int m_made, .ref a_m_from, .ref a_m_to, .ref a_m_weighs, .ref a_m_alive, .ref a_m_ranks, .int m_known, .ref a_m_best, .ref a_m_most, .ref a_m_apart, .ref a_m_near, .ref a_m_worth, .ref a_m_mates, .ref a_m_sizes, .ref a_m_sums, .ref a_m_has, .ref a_m_sorts, .ref a_m_pieces, .int m_pieceCount, .int m_parts, .int m_halves, .ref a_m_inCover, .int m_coverSize, .int m_holdSet, .ref a_m_pairCost, .ref a_m_inJoin, .int m_hasJoin, .ref a_m_half, .ref a_m_way, .ref a_m_counts, .ref a_m_lastCounts, .ref a_m_openArc, .ref a_m_with, .ref a_m_tried, .int m_stables, .long m_firstSet]]) (wr := [aB E a_m_apart 65536 m_apart_25, aI E a_m_near 256 m_near]) (w1 := [oC a_m 12 [.int m_nodes, .int m_made, .ref a_m_from, .ref a_m_to, .ref a_m_weighs, .ref a_m_alive, .ref a_m_ranks, .int m_known, .ref a_m_best, .ref a_m_most, .ref a_m_apart, .ref a_m_near, .ref a_m_worth, .ref a_m_mates, .ref a_m_sizes, .ref a_m_sums, .ref a_m_has, .ref a_m_sorts, .ref a_m_pieces, .int m_pieceCount, .int m_parts, .int m_halves, .ref a_m_inCover, .int m_coverSize, .int m_holdSet, .ref a_m_pairCost, .ref a_m_inJoin, .int m_hasJoin, .ref a_m_half, .ref a_m_way, .ref a_m_counts, .ref a_m_lastCounts, .ref a_m_openArc, .ref a_m_with, .ref a_m_tried, .int m_stables, .long m_firstSet]]) (va_runV (As := []) (rest := [.int v1_24]) S (c_X12_all l E m_nodes m_made a_m_from a_m_to a_m_weighs a_m_alive a_m_ranks m_known a_m_best a_m_most a_m_apart a_m_near a_m_worth a_m_mates a_m_sizes a_m_sums a_m_has a_m_sorts a_m_pieces m_pieceCount m_parts m_halves a_m_inCover m_coverSize m_holdSet a_m_pairCost a_m_inJoin m_hasJoin a_m_half a_m_way a_m_counts a_m_lastCounts a_m_openArc a_m_with a_m_tried m_stables m_firstSet a_m (f_X12_all m_nodes) rfl _) (cwV 0 S.2.2.2.2 gX12_findHold_X12_all rfl rfl rfl (by decide +kernel) (rm_le (by omega) (by decide))) (preV (q := (RX12, TX12, 37)) hN hw [0] rfl rfl rfl rfl) rfl rfl hl.1 rfl (lv_room (Nat.le_of_ble_eq_true rfl)) dX12_findHold_11 ⟨Nat.le_refl _, Nat.le_refl _⟩) hw hA [0] [1, 2] rfl rfl rfl (by decide) (fun H locs hw => ?_)
      have hw : Wo E A s [aB E a_m_apart 65536 m_apart_25, aI E a_m_near 256 m_near, oC a_m 12 [.int m_nodes, .int m_made, .ref a_m_from, .ref a_m_to, .ref a_m_weighs, .ref a_m_alive, .ref a_m_ranks, .int m_known, .ref a_m_best, .ref a_m_most, .ref a_m_apart, .ref a_m_near, .ref a_m_worth, .ref a_m_mates, .ref a_m_sizes, .ref a_m_sums, .ref a_m_has, .ref a_m_sorts, .ref a_m_pieces, .int m_pieceCount, .int m_parts, .int m_halves, .ref a_m_inCover, .int m_coverSize, .int m_holdSet, .ref a_m_pairCost, .ref a_m_inJoin, .int m_hasJoin, .ref a_m_half, .ref a_m_way, .ref a_m_counts, .ref a_m_lastCounts, .ref a_m_openArc, .ref a_m_with, .ref a_m_tried, .int m_stables, .long m_firstSet]] H _ := hw
      refine lv_icmp_gt (tgt := 127) S.1 S.2.1 dX12_findHold_14 (by decide) (fun h_28 => ?_) (fun h_28 => ?_)
      · replace hf := if_t h_28 hf
        exact hJ_kk_127_22 m_apart_25 _ _ _ (hw.sub [2, 0, 1] rfl rfl) (lv_sub hl [0] rfl) hf
      · replace hf := if_f h_28 hf
        refine lv_iload_n S.1 S.2.1 dX12_findHold_17 rfl (lv_at hl 1 rfl) ?_
        obtain ⟨r_29, hc_29, hf⟩ := bd_s hf
        refine g_calli (r := r_29) (wc := []) (wr := [aB E a_m_apart 65536 m_apart_25, aI E a_m_near 256 m_near, oC a_m 12 [.int m_nodes, .int m_made, .ref a_m_from, .ref a_m_to, .ref a_m_weighs, .ref a_m_alive, .ref a_m_ranks, .int m_known, .ref a_m_best, .ref a_m_most, .ref a_m_apart, .ref a_m_near, .ref a_m_worth, .ref a_m_mates, .ref a_m_sizes, .ref a_m_sums, .ref a_m_has, .ref a_m_sorts, .ref a_m_pieces, .int m_pieceCount, .int m_parts, .int m_halves, .ref a_m_inCover, .int m_coverSize, .int m_holdSet, .ref a_m_pairCost, .ref a_m_inJoin, .int m_hasJoin, .ref a_m_half, .ref a_m_way, .ref a_m_counts, .ref a_m_lastCounts, .ref a_m_openArc, .ref a_m_with, .ref a_m_tried, .int m_stables, .long m_firstSet]]) (w1 := []) (va_runS (As := [.int v1_24]) (rest := []) S (c_X12_least l E F v1_24 r_29 hc_29 _) (va_cwS 1 S.2.2.2.2 gX12_findHold_X12_least rfl rfl rfl (by decide +kernel) (rm_le (by omega) (by decide))) (preS hN hw [] rfl rfl) rfl rfl hl.1 rfl (lv_room (Nat.le_of_ble_eq_true rfl)) dX12_findHold_18 ⟨Nat.le_refl _, Nat.le_refl _⟩) hw hA [] [0, 1, 2] rfl rfl rfl (by decide) (fun H locs hw => ?_)
        have hw : Wo E A s [aB E a_m_apart 65536 m_apart_25, aI E a_m_near 256 m_near, oC a_m 12 [.int m_nodes, .int m_made, .ref a_m_from, .ref a_m_to, .ref a_m_weighs, .ref a_m_alive, .ref a_m_ranks, .int m_known, .ref a_m_best, .ref a_m_most, .ref a_m_apart, .ref a_m_near, .ref a_m_worth, .ref a_m_mates, .ref a_m_sizes, .ref a_m_sums, .ref a_m_has, .ref a_m_sorts, .ref a_m_pieces, .int m_pieceCount, .int m_parts, .int m_halves, .ref a_m_inCover, .int m_coverSize, .int m_holdSet, .ref a_m_pairCost, .ref a_m_inJoin, .int m_hasJoin, .ref a_m_half, .ref a_m_way, .ref a_m_counts, .ref a_m_lastCounts, .ref a_m_openArc, .ref a_m_with, .ref a_m_tried, .int m_stables, .long m_firstSet]] H _ := hw
        refine lv_istore_n (lv' := [(2, .int r_29), (0, .ref a_m), (1, .int v1_24)]) S.1 S.2.1 dX12_findHold_21 rfl hl (by decide) rfl (fun ls hl => ?_)
        refine lv_iload_n S.1 S.2.1 dX12_findHold_22 rfl (lv_at hl 2 rfl) ?_
        refine lv_iconst (v := 1) S.1 S.2.1 dX12_findHold_23 (by decide) ?_
        refine lv_iload_n S.1 S.2.1 dX12_findHold_24 rfl (lv_at hl 0 rfl) ?_
        refine lv_ishl S.1 S.2.1 dX12_findHold_25 ?_
        refine lv_iconst (v := (-1)) S.1 S.2.1 dX12_findHold_26 (by decide) ?_
        refine lv_ixor S.1 S.2.1 dX12_findHold_27 ?_
        refine lv_iand S.1 S.2.1 dX12_findHold_28 ?_
        refine lv_istore_n (lv' := [(3, .int (v1_24 &&& (((1 : Int32) <<< (r_29 &&& 31)) ^^^ (-1)))), (2, .int r_29), (0, .ref a_m), (1, .int v1_24)]) S.1 S.2.1 dX12_findHold_29 rfl hl (by decide) rfl (fun ls hl => ?_)
        refine lv_iconst (v := 0) S.1 S.2.1 dX12_findHold_30 (by decide) ?_
        refine lv_istore (lv' := [(4, .int 0), (3, .int (v1_24 &&& (((1 : Int32) <<< (r_29 &&& 31)) ^^^ (-1)))), (2, .int r_29), (0, .ref a_m), (1, .int v1_24)]) S.1 S.2.1 dX12_findHold_31 hl (by decide) rfl (fun ls hl => ?_)
        obtain ⟨kk_76_37, ekk_76_37, hf⟩ := jn_s hf
        have hJ_kk_76_37 : ∀ (v3_31 : Int32) (H : Heap) (locs : List Loc) (ls : Array Slot), Wo E A s [aB E a_m_apart 65536 m_apart_25, aI E a_m_near 256 m_near, oC a_m 12 [.int m_nodes, .int m_made, .ref a_m_from, .ref a_m_to, .ref a_m_weighs, .ref a_m_alive, .ref a_m_ranks, .int m_known, .ref a_m_best, .ref a_m_most, .ref a_m_apart, .ref a_m_near, .ref a_m_worth, .ref a_m_mates, .ref a_m_sizes, .ref a_m_sums, .ref a_m_has, .ref a_m_sorts, .ref a_m_pieces, .int m_pieceCount, .int m_parts, .int m_halves, .ref a_m_inCover, .int m_coverSize, .int m_holdSet, .ref a_m_pairCost, .ref a_m_inJoin, .int m_hasJoin, .ref a_m_half, .ref a_m_way, .ref a_m_counts, .ref a_m_lastCounts, .ref a_m_openArc, .ref a_m_with, .ref a_m_tried, .int m_stables, .long m_firstSet]] H locs → lv_has ls 6 [(0, .ref a_m), (1, .int v1_24), (2, .int r_29), (3, .int v3_31)] → kk_76_37 v3_31 = some (u_m_holdSet, u_m_apart) → W p l e (Rm 1) s m (([.ref a_m] : List Value).toArray) below meth c H locs 0 0 Q (F0 m 76 ls []) := by
          intro v3_31 H locs ls hw hl hf
          rw [ekk_76_37] at hf
          refine lv_iconst (v := 1) S.1 S.2.1 dX12_findHold_76 (by decide) ?_
          refine lv_aload_n S.1 S.2.1 dX12_findHold_77 rfl (lv_at hl 0 rfl) ?_
          refine g_get S hN hw (C := RX12) (T := TX12) (N := 37) (ci := 12) (v := .ref a_m_apart) 2 10 iX12 k34 dX12_findHold_78 rfl rfl (by decide) rfl ?_
          refine lv_iload_n S.1 S.2.1 dX12_findHold_81 rfl (lv_at hl 3 rfl) ?_
          obtain ⟨hi_31, hf⟩ := rd_s hf
          refine g_bald (n := 65536) (f := m_apart_25) S hN hw 0 hi_31 dX12_findHold_82 rfl ?_
          generalize m_apart_25 (v3_31 : Int32).toNatClampNeg = y_32 at hf ⊢
          refine lv_iadd S.1 S.2.1 dX12_findHold_83 ?_
          refine lv_istore (lv' := [(4, .int (1 + y_32)), (0, .ref a_m), (1, .int v1_24), (2, .int r_29), (3, .int v3_31)]) S.1 S.2.1 dX12_findHold_84 hl (by decide) rfl (fun ls hl => ?_)
          refine lv_aload_n S.1 S.2.1 dX12_findHold_86 rfl (lv_at hl 1 rfl) ?_
          refine g_get S hN hw (C := RX12) (T := TX12) (N := 37) (ci := 12) (v := .ref a_m_apart) 2 10 iX12 k34 dX12_findHold_87 rfl rfl (by decide) rfl ?_
          refine lv_iload_n S.1 S.2.1 dX12_findHold_90 rfl (lv_at hl 2 rfl) ?_
          refine lv_iconst (v := 1) S.1 S.2.1 dX12_findHold_91 (by decide) ?_
          refine lv_iload_n S.1 S.2.1 dX12_findHold_92 rfl (lv_at hl 3 rfl) ?_
          refine lv_ishl S.1 S.2.1 dX12_findHold_93 ?_
          refine lv_iconst (v := (-1)) S.1 S.2.1 dX12_findHold_94 (by decide) ?_
          refine lv_ixor S.1 S.2.1 dX12_findHold_95 ?_
          refine lv_iand S.1 S.2.1 dX12_findHold_96 ?_
          obtain ⟨hi_32, hf⟩ := rd_s hf
          refine g_bald (n := 65536) (f := m_apart_25) S hN hw 0 hi_32 dX12_findHold_97 rfl ?_
          generalize m_apart_25 ((v1_24 &&& (((1 : Int32) <<< (r_29 &&& 31)) ^^^ (-1))) : Int32).toNatClampNeg = y_33 at hf ⊢
          refine lv_istore (lv' := [(5, .int y_33), (4, .int (1 + y_32)), (0, .ref a_m), (1, .int v1_24), (2, .int r_29), (3, .int v3_31)]) S.1 S.2.1 dX12_findHold_98 hl (by decide) rfl (fun ls hl => ?_)
          refine lv_aload_n S.1 S.2.1 dX12_findHold_100 rfl (lv_at hl 2 rfl) ?_
          refine g_get S hN hw (C := RX12) (T := TX12) (N := 37) (ci := 12) (v := .ref a_m_apart) 2 10 iX12 k34 dX12_findHold_101 rfl rfl (by decide) rfl ?_
          refine lv_iload_n S.1 S.2.1 dX12_findHold_104 rfl (lv_at hl 3 rfl) ?_
          refine lv_iload S.1 S.2.1 dX12_findHold_105 (lv_at hl 1 rfl) ?_
          refine lv_iload S.1 S.2.1 dX12_findHold_107 (lv_at hl 0 rfl) ?_
          obtain ⟨jj_119_34, ejj_119_34, hf⟩ := jn_s hf
          have hJ_jj_119_34 : ∀ (z_34 : Int32) (H : Heap) (locs : List Loc) (ls : Array Slot), Wo E A s [aB E a_m_apart 65536 m_apart_25, aI E a_m_near 256 m_near, oC a_m 12 [.int m_nodes, .int m_made, .ref a_m_from, .ref a_m_to, .ref a_m_weighs, .ref a_m_alive, .ref a_m_ranks, .int m_known, .ref a_m_best, .ref a_m_most, .ref a_m_apart, .ref a_m_near, .ref a_m_worth, .ref a_m_mates, .ref a_m_sizes, .ref a_m_sums, .ref a_m_has, .ref a_m_sorts, .ref a_m_pieces, .int m_pieceCount, .int m_parts, .int m_halves, .ref a_m_inCover, .int m_coverSize, .int m_holdSet, .ref a_m_pairCost, .ref a_m_inJoin, .int m_hasJoin, .ref a_m_half, .ref a_m_way, .ref a_m_counts, .ref a_m_lastCounts, .ref a_m_openArc, .ref a_m_with, .ref a_m_tried, .int m_stables, .long m_firstSet]] H locs → lv_has ls 6 [(0, .ref a_m), (1, .int v1_24)] → jj_119_34 z_34 = some (u_m_holdSet, u_m_apart) → W p l e (Rm 1) s m (([.ref a_m] : List Value).toArray) below meth c H locs 0 0 Q (F0 m 119 ls [.int z_34, .int v1_24, .ref a_m_apart]) := by
            intro z_34 H locs ls hw hl hf
            rw [ejj_119_34] at hf
            refine lv_i2b S.1 S.2.1 dX12_findHold_119 rfl ?_
            obtain ⟨hi_35, hf⟩ := wr_s hf
            refine g_bast (n := 65536) (f := m_apart_25) (w1 := [aB E a_m_apart 65536 (va_up m_apart_25 (v1_24 : Int32).toNatClampNeg (((z_34 : Int32).toInt8.toInt32 : Int32).toInt8.toInt32)), aI E a_m_near 256 m_near, oC a_m 12 [.int m_nodes, .int m_made, .ref a_m_from, .ref a_m_to, .ref a_m_weighs, .ref a_m_alive, .ref a_m_ranks, .int m_known, .ref a_m_best, .ref a_m_most, .ref a_m_apart, .ref a_m_near, .ref a_m_worth, .ref a_m_mates, .ref a_m_sizes, .ref a_m_sums, .ref a_m_has, .ref a_m_sorts, .ref a_m_pieces, .int m_pieceCount, .int m_parts, .int m_halves, .ref a_m_inCover, .int m_coverSize, .int m_holdSet, .ref a_m_pairCost, .ref a_m_inJoin, .int m_hasJoin, .ref a_m_half, .ref a_m_way, .ref a_m_counts, .ref a_m_lastCounts, .ref a_m_openArc, .ref a_m_with, .ref a_m_tried, .int m_stables, .long m_firstSet]]) S hN hw 0 hi_35 dX12_findHold_120 rfl rfl (fun H locs hw => ?_)
            generalize va_up m_apart_25 (v1_24 : Int32).toNatClampNeg (((z_34 : Int32).toInt8.toInt32 : Int32).toInt8.toInt32) = m_apart_36 at hf hw
            refine lv_iinc (v := (v1_24 + 1)) (lv' := [(1, .int (v1_24 + 1)), (0, .ref a_m)]) S.1 S.2.1 dX12_findHold_121 hl (k := 1) rfl rfl (by decide) rfl (fun ls hl => ?_)
            refine lv_goto (tgt := 9) S.1 S.2.1 dX12_findHold_124 (by decide) ?_
            exact ih (v1_24 + 1) m_apart_36 _ _ _ (hw.sub [2, 0, 1] rfl rfl) (lv_sub hl [1, 0] rfl) hf
          refine lv_icmp_le (tgt := 117) S.1 S.2.1 dX12_findHold_109 (by decide) (fun h_37 => ?_) (fun h_37 => ?_)
          · replace hf := if_t h_37 hf
            refine lv_iload S.1 S.2.1 dX12_findHold_117 (lv_at hl 0 rfl) ?_
            exact hJ_jj_119_34 y_33 _ _ _ hw (lv_sub hl [2, 3] rfl) hf
          · replace hf := if_f h_37 hf
            refine lv_iload S.1 S.2.1 dX12_findHold_112 (lv_at hl 1 rfl) ?_
            refine lv_goto (tgt := 119) S.1 S.2.1 dX12_findHold_114 (by decide) ?_
            exact hJ_jj_119_34 (1 + y_32) _ _ _ hw (lv_sub hl [2, 3] rfl) hf
        have hL_33_45 : ∀ (n : Nat) (v3_39 : Int32) (v4_40 : Int32) (H : Heap) (locs : List Loc) (ls : Array Slot), Wo E A s [aB E a_m_apart 65536 m_apart_25, aI E a_m_near 256 m_near, oC a_m 12 [.int m_nodes, .int m_made, .ref a_m_from, .ref a_m_to, .ref a_m_weighs, .ref a_m_alive, .ref a_m_ranks, .int m_known, .ref a_m_best, .ref a_m_most, .ref a_m_apart, .ref a_m_near, .ref a_m_worth, .ref a_m_mates, .ref a_m_sizes, .ref a_m_sums, .ref a_m_has, .ref a_m_sorts, .ref a_m_pieces, .int m_pieceCount, .int m_parts, .int m_halves, .ref a_m_inCover, .int m_coverSize, .int m_holdSet, .ref a_m_pairCost, .ref a_m_inJoin, .int m_hasJoin, .ref a_m_half, .ref a_m_way, .ref a_m_counts, .ref a_m_lastCounts, .ref a_m_openArc, .ref a_m_with, .ref a_m_tried, .int m_stables, .long m_firstSet]] H locs → lv_has ls 6 [(0, .ref a_m), (1, .int v1_24), (2, .int r_29), (3, .int v3_39), (4, .int v4_40)] → f_X12_findHold_L33 m_nodes m_near r_29 kk_76_37 n v3_39 v4_40 = some (u_m_holdSet, u_m_apart) → W p l e (Rm 1) s m (([.ref a_m] : List Value).toArray) below meth c H locs 0 0 Q (F0 m 33 ls []) := by
          intro n
          induction n with
          | zero => intro v3_39 v4_40 H locs ls hw hl hf; unfold f_X12_findHold_L33 at hf; cases hf
          | succ n ih =>
            intro v3_39 v4_40 H locs ls hw hl hf
            unfold f_X12_findHold_L33 at hf
            refine lv_iload S.1 S.2.1 dX12_findHold_33 (lv_at hl 4 rfl) ?_
            refine lv_aload_n S.1 S.2.1 dX12_findHold_35 rfl (lv_at hl 0 rfl) ?_
            refine g_get S hN hw (C := RX12) (T := TX12) (N := 37) (ci := 12) (v := .int m_nodes) 2 0 iX12 k92 dX12_findHold_36 rfl rfl (by decide) rfl ?_
            refine lv_icmp_ge (tgt := 76) S.1 S.2.1 dX12_findHold_39 (by decide) (fun h_41 => ?_) (fun h_41 => ?_)
            · replace hf := if_t h_41 hf
              exact hJ_kk_76_37 v3_39 _ _ _ hw (lv_sub hl [0, 1, 2, 3] rfl) hf
            · replace hf := if_f h_41 hf
              refine lv_iload_n S.1 S.2.1 dX12_findHold_42 rfl (lv_at hl 3 rfl) ?_
              refine lv_aload_n S.1 S.2.1 dX12_findHold_43 rfl (lv_at hl 0 rfl) ?_
              refine g_get S hN hw (C := RX12) (T := TX12) (N := 37) (ci := 12) (v := .ref a_m_near) 2 11 iX12 k37 dX12_findHold_44 rfl rfl (by decide) rfl ?_
              refine lv_bipush (v := 16) S.1 S.2.1 dX12_findHold_47 (by decide) ?_
              refine lv_iload_n S.1 S.2.1 dX12_findHold_49 rfl (lv_at hl 2 rfl) ?_
              refine lv_imul S.1 S.2.1 dX12_findHold_50 ?_
              refine lv_iload S.1 S.2.1 dX12_findHold_51 (lv_at hl 4 rfl) ?_
              refine lv_iadd S.1 S.2.1 dX12_findHold_53 ?_
              obtain ⟨hi_41, hf⟩ := rd_s hf
              refine g_iald (n := 256) (f := m_near) S hN hw 1 hi_41 dX12_findHold_54 rfl ?_
              generalize m_near (((16 * r_29) + v4_40) : Int32).toNatClampNeg = y_42 at hf ⊢
              obtain ⟨jj_68_43, ejj_68_43, hf⟩ := jn_s hf
              have hJ_jj_68_43 : ∀ (z_43 : Int32) (H : Heap) (locs : List Loc) (ls : Array Slot), Wo E A s [aB E a_m_apart 65536 m_apart_25, aI E a_m_near 256 m_near, oC a_m 12 [.int m_nodes, .int m_made, .ref a_m_from, .ref a_m_to, .ref a_m_weighs, .ref a_m_alive, .ref a_m_ranks, .int m_known, .ref a_m_best, .ref a_m_most, .ref a_m_apart, .ref a_m_near, .ref a_m_worth, .ref a_m_mates, .ref a_m_sizes, .ref a_m_sums, .ref a_m_has, .ref a_m_sorts, .ref a_m_pieces, .int m_pieceCount, .int m_parts, .int m_halves, .ref a_m_inCover, .int m_coverSize, .int m_holdSet, .ref a_m_pairCost, .ref a_m_inJoin, .int m_hasJoin, .ref a_m_half, .ref a_m_way, .ref a_m_counts, .ref a_m_lastCounts, .ref a_m_openArc, .ref a_m_with, .ref a_m_tried, .int m_stables, .long m_firstSet]] H locs → lv_has ls 6 [(0, .ref a_m), (1, .int v1_24), (2, .int r_29), (4, .int v4_40)] → jj_68_43 z_43 = some (u_m_holdSet, u_m_apart) → W p l e (Rm 1) s m (([.ref a_m] : List Value).toArray) below meth c H locs 0 0 Q (F0 m 68 ls [.int z_43, .int v3_39]) := by
                intro z_43 H locs ls hw hl hf
                rw [ejj_68_43] at hf
                refine lv_iand S.1 S.2.1 dX12_findHold_68 ?_
                refine lv_istore_n (lv' := [(3, .int (v3_39 &&& z_43)), (0, .ref a_m), (1, .int v1_24), (2, .int r_29), (4, .int v4_40)]) S.1 S.2.1 dX12_findHold_69 rfl hl (by decide) rfl (fun ls hl => ?_)
                refine lv_iinc (v := (v4_40 + 1)) (lv' := [(4, .int (v4_40 + 1)), (3, .int (v3_39 &&& z_43)), (0, .ref a_m), (1, .int v1_24), (2, .int r_29)]) S.1 S.2.1 dX12_findHold_70 hl (k := 4) rfl rfl (by decide) rfl (fun ls hl => ?_)
                refine lv_goto (tgt := 33) S.1 S.2.1 dX12_findHold_73 (by decide) ?_
                exact ih (v3_39 &&& z_43) (v4_40 + 1) _ _ _ hw (lv_sub hl [2, 3, 4, 1, 0] rfl) hf
              refine lv_if_le (tgt := 67) S.1 S.2.1 dX12_findHold_55 (by decide) (fun h_45 => ?_) (fun h_45 => ?_)
              · replace hf := if_t h_45 hf
                refine lv_iconst (v := (-1)) S.1 S.2.1 dX12_findHold_67 (by decide) ?_
                exact hJ_jj_68_43 (-1) _ _ _ hw (lv_sub hl [0, 1, 2, 4] rfl) hf
              · replace hf := if_f h_45 hf
                refine lv_iconst (v := 1) S.1 S.2.1 dX12_findHold_58 (by decide) ?_
                refine lv_iload S.1 S.2.1 dX12_findHold_59 (lv_at hl 4 rfl) ?_
                refine lv_ishl S.1 S.2.1 dX12_findHold_61 ?_
                refine lv_iconst (v := (-1)) S.1 S.2.1 dX12_findHold_62 (by decide) ?_
                refine lv_ixor S.1 S.2.1 dX12_findHold_63 ?_
                refine lv_goto (tgt := 68) S.1 S.2.1 dX12_findHold_64 (by decide) ?_
                exact hJ_jj_68_43 (((1 : Int32) <<< (v4_40 &&& 31)) ^^^ (-1)) _ _ _ hw (lv_sub hl [0, 1, 2, 4] rfl) hf
        exact hL_33_45 F (v1_24 &&& (((1 : Int32) <<< (r_29 &&& 31)) ^^^ (-1))) 0 _ _ _ hw (lv_sub hl [3, 4, 2, 1, 0] rfl) hf
  exact hL_9_46 F 1 m_apart_1 _ _ _ hw (lv_sub hl [1, 0] rfl) hf
