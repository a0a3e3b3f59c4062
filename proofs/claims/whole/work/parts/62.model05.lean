def f_X12_findPairCosts_L311 (m_nodes : Int32) (m_way_3 : Nat → Int32) (v1_9 : Int32) (m_pairCost_10 : Nat → Int32) (r_14 : Int32) (kk_415_17 : Int32 → Option ((Nat → Int32) × (Nat → Int32))) : Nat → Int32 → Int32 → Option ((Nat → Int32) × (Nat → Int32))
  | 0, _, _ => none
  | n + 1, v4_19, v5_20 => (if m_nodes ≤ v5_20 then (kk_415_17 v4_19) else (if (((v1_9 &&& (((1 : Int32) <<< (r_14 &&& 31)) ^^^ (-1))) >>> (v5_20 &&& 31)) &&& 1) = 1 then rd 256 m_way_3 ((16 * r_14) + v5_20) (fun y_23 => (if 1000000000 ≤ y_23 then (f_X12_findPairCosts_L311 m_nodes m_way_3 v1_9 m_pairCost_10 r_14 kk_415_17 n v4_19 (v5_20 + 1)) else rd 65536 m_pairCost_10 ((v1_9 &&& (((1 : Int32) <<< (r_14 &&& 31)) ^^^ (-1))) &&& (((1 : Int32) <<< (v5_20 &&& 31)) ^^^ (-1))) (fun y_25 => (if 1000000000 ≤ y_25 then (f_X12_findPairCosts_L311 m_nodes m_way_3 v1_9 m_pairCost_10 r_14 kk_415_17 n v4_19 (v5_20 + 1)) else rd 256 m_way_3 ((16 * r_14) + v5_20) (fun y_27 => rd 65536 m_pairCost_10 ((v1_9 &&& (((1 : Int32) <<< (r_14 &&& 31)) ^^^ (-1))) &&& (((1 : Int32) <<< (v5_20 &&& 31)) ^^^ (-1))) (fun y_28 => (if v4_19 ≤ (y_27 + y_28) then (f_X12_findPairCosts_L311 m_nodes m_way_3 v1_9 m_pairCost_10 r_14 kk_415_17 n v4_19 (v5_20 + 1)) else (f_X12_findPairCosts_L311 m_nodes m_way_3 v1_9 m_pairCost_10 r_14 kk_415_17 n (y_27 + y_28) (v5_20 + 1))))))))) else (f_X12_findPairCosts_L311 m_nodes m_way_3 v1_9 m_pairCost_10 r_14 kk_415_17 n v4_19 (v5_20 + 1))))
def f_X12_findPairCosts_L281 (F : Nat) (m_nodes : Int32) (m_way_3 : Nat → Int32) (kk_429_7 : (Nat → Int32) → Option ((Nat → Int32) × (Nat → Int32))) : Nat → Int32 → (Nat → Int32) → Option ((Nat → Int32) × (Nat → Int32))
  | 0, _, _ => none
  | n + 1, v1_9, m_pairCost_10 => (if (f_X12_all m_nodes) < v1_9 then (kk_429_7 m_pairCost_10) else (f_X12_least F v1_9).bind (fun r_14 => (jn (fun (v4_16 : Int32) => wr 65536 m_pairCost_10 v1_9 v4_16 (fun m_pairCost_17 => (f_X12_findPairCosts_L281 F m_nodes m_way_3 kk_429_7 n (v1_9 + 1) m_pairCost_17))) (fun kk_415_17 => (f_X12_findPairCosts_L311 m_nodes m_way_3 v1_9 m_pairCost_10 r_14 kk_415_17 F 1000000000 (r_14 + 1))))))
def f_X12_findPairCosts_L178 (m_nodes : Int32) (v1_33 : Int32) (v2_38 : Int32) (kk_260_41 : (Nat → Int32) → Option ((Nat → Int32) × (Nat → Int32))) : Nat → Int32 → (Nat → Int32) → Option ((Nat → Int32) × (Nat → Int32))
  | 0, _, _ => none
  | n + 1, v3_43, m_way_44 => (if m_nodes ≤ v3_43 then (kk_260_41 m_way_44) else rd 256 m_way_44 ((16 * v2_38) + v1_33) (fun y_46 => rd 256 m_way_44 ((16 * v1_33) + v3_43) (fun y_47 => rd 256 m_way_44 ((16 * v2_38) + v3_43) (fun y_48 => (if y_48 ≤ (y_46 + y_47) then rd 256 m_way_44 ((16 * v2_38) + v3_43) (fun y_50 => wr 256 m_way_44 ((16 * v2_38) + v3_43) y_50 (fun m_way_51 => (f_X12_findPairCosts_L178 m_nodes v1_33 v2_38 kk_260_41 n (v3_43 + 1) m_way_51))) else wr 256 m_way_44 ((16 * v2_38) + v3_43) (y_46 + y_47) (fun m_way_52 => (f_X12_findPairCosts_L178 m_nodes v1_33 v2_38 kk_260_41 n (v3_43 + 1) m_way_52)))))))
def f_X12_findPairCosts_L168 (F : Nat) (m_nodes : Int32) (v1_33 : Int32) (kk_266_36 : (Nat → Int32) → Option ((Nat → Int32) × (Nat → Int32))) : Nat → Int32 → (Nat → Int32) → Option ((Nat → Int32) × (Nat → Int32))
  | 0, _, _ => none
  | n + 1, v2_38, m_way_39 => (if m_nodes ≤ v2_38 then (kk_266_36 m_way_39) else (jn (fun (m_way_41 : Nat → Int32) => (f_X12_findPairCosts_L168 F m_nodes v1_33 kk_266_36 n (v2_38 + 1) m_way_41)) (fun kk_260_41 => (f_X12_findPairCosts_L178 m_nodes v1_33 v2_38 kk_260_41 F 0 m_way_39))))
def f_X12_findPairCosts_L158 (F : Nat) (m_nodes : Int32) (kk_272_31 : (Nat → Int32) → Option ((Nat → Int32) × (Nat → Int32))) : Nat → Int32 → (Nat → Int32) → Option ((Nat → Int32) × (Nat → Int32))
  | 0, _, _ => none
  | n + 1, v1_33, m_way_34 => (if m_nodes ≤ v1_33 then (kk_272_31 m_way_34) else (jn (fun (m_way_36 : Nat → Int32) => (f_X12_findPairCosts_L158 F m_nodes kk_272_31 n (v1_33 + 1) m_way_36)) (fun kk_266_36 => (f_X12_findPairCosts_L168 F m_nodes v1_33 kk_266_36 F 0 m_way_34))))
def f_X12_findPairCosts_L52 (m_made : Int32) (m_from : Nat → Int32) (m_to : Nat → Int32) (m_weighs : Nat → Int32) (m_alive : Nat → Int32) (kk_156_55 : (Nat → Int32) → Option ((Nat → Int32) × (Nat → Int32))) : Nat → Int32 → (Nat → Int32) → Option ((Nat → Int32) × (Nat → Int32))
  | 0, _, _ => none
  | n + 1, v1_57, m_way_58 => (if m_made ≤ v1_57 then (kk_156_55 m_way_58) else rd 60 m_weighs v1_57 (fun y_60 => rd 60 m_alive v1_57 (fun y_61 => (if y_61 = 0 then (f_X12_findPairCosts_L52 m_made m_from m_to m_weighs m_alive kk_156_55 n (v1_57 + 1) m_way_58) else rd 60 m_from v1_57 (fun y_63 => rd 60 m_to v1_57 (fun y_64 => rd 256 m_way_58 ((16 * y_63) + y_64) (fun y_65 => (if y_65 ≤ ((y_60 * 64) + 1) then (f_X12_findPairCosts_L52 m_made m_from m_to m_weighs m_alive kk_156_55 n (v1_57 + 1) m_way_58) else rd 60 m_from v1_57 (fun y_67 => rd 60 m_to v1_57 (fun y_68 => wr 256 m_way_58 ((16 * y_67) + y_68) ((y_60 * 64) + 1) (fun m_way_69 => rd 60 m_to v1_57 (fun y_70 => rd 60 m_from v1_57 (fun y_71 => wr 256 m_way_69 ((16 * y_70) + y_71) ((y_60 * 64) + 1) (fun m_way_72 => (f_X12_findPairCosts_L52 m_made m_from m_to m_weighs m_alive kk_156_55 n (v1_57 + 1) m_way_72)))))))))))))))
def f_X12_findPairCosts_L10 (v1_75 : Int32) (kk_44_78 : (Nat → Int32) → Option ((Nat → Int32) × (Nat → Int32))) : Nat → Int32 → (Nat → Int32) → Option ((Nat → Int32) × (Nat → Int32))
  | 0, _, _ => none
  | n + 1, v2_80, m_way_81 => (if 16 ≤ v2_80 then (kk_44_78 m_way_81) else (if v1_75 = v2_80 then wr 256 m_way_81 ((16 * v1_75) + v2_80) 0 (fun m_way_85 => (f_X12_findPairCosts_L10 v1_75 kk_44_78 n (v2_80 + 1) m_way_85)) else wr 256 m_way_81 ((16 * v1_75) + v2_80) 1000000000 (fun m_way_84 => (f_X12_findPairCosts_L10 v1_75 kk_44_78 n (v2_80 + 1) m_way_84))))
def f_X12_findPairCosts_L2 (F : Nat) (kk_50_73 : (Nat → Int32) → Option ((Nat → Int32) × (Nat → Int32))) : Nat → Int32 → (Nat → Int32) → Option ((Nat → Int32) × (Nat → Int32))
  | 0, _, _ => none
  | n + 1, v1_75, m_way_76 => (if 16 ≤ v1_75 then (kk_50_73 m_way_76) else (jn (fun (m_way_78 : Nat → Int32) => (f_X12_findPairCosts_L2 F kk_50_73 n (v1_75 + 1) m_way_78)) (fun kk_44_78 => (f_X12_findPairCosts_L10 v1_75 kk_44_78 F 0 m_way_76))))
def f_X12_findPairCosts (F : Nat) (m_nodes : Int32) (m_made : Int32) (m_from : Nat → Int32) (m_to : Nat → Int32) (m_weighs : Nat → Int32) (m_alive : Nat → Int32) (m_pairCost : Nat → Int32) (m_way : Nat → Int32) : Option ((Nat → Int32) × (Nat → Int32)) :=
  (jn (fun (m_way_1 : Nat → Int32) => (jn (fun (m_way_2 : Nat → Int32) => (jn (fun (m_way_3 : Nat → Int32) => wr 65536 m_pairCost 0 0 (fun m_pairCost_4 => (jn (fun (m_pairCost_5 : Nat → Int32) => some (m_pairCost_5, m_way_3)) (fun kk_429_7 => (f_X12_findPairCosts_L281 F m_nodes m_way_3 kk_429_7 F 1 m_pairCost_4))))) (fun kk_272_31 => (f_X12_findPairCosts_L158 F m_nodes kk_272_31 F 0 m_way_2)))) (fun kk_156_55 => (f_X12_findPairCosts_L52 m_made m_from m_to m_weighs m_alive kk_156_55 F 0 m_way_1)))) (fun kk_50_73 => (f_X12_findPairCosts_L2 F kk_50_73 F 0 m_way)))
set_option maxHeartbeats 4000000 in
set_option maxRecDepth 100000 in
theorem c_X12_findPairCosts (l : Launch) (E : Ev) (F : Nat) (m_nodes : Int32) (m_made : Int32) (m_from : Nat → Int32) (a_m_from : Nat) (m_to : Nat → Int32) (a_m_to : Nat) (m_weighs : Nat → Int32) (a_m_weighs : Nat) (m_alive : Nat → Int32) (a_m_alive : Nat) (a_m_ranks : Nat) (m_known : Int32) (a_m_best : Nat) (a_m_most : Nat) (a_m_apart : Nat) (a_m_near : Nat) (a_m_worth : Nat) (a_m_mates : Nat) (a_m_sizes : Nat) (a_m_sums : Nat) (a_m_has : Nat) (a_m_sorts : Nat) (a_m_pieces : Nat) (m_pieceCount : Int32) (m_parts : Int32) (m_halves : Int32) (a_m_inCover : Nat) (m_coverSize : Int32) (m_holdSet : Int32) (m_pairCost : Nat → Int32) (a_m_pairCost : Nat) (a_m_inJoin : Nat) (m_hasJoin : Int32) (a_m_half : Nat) (m_way : Nat → Int32) (a_m_way : Nat) (a_m_counts : Nat) (a_m_lastCounts : Nat) (a_m_openArc : Nat) (a_m_with : Nat) (a_m_tried : Nat) (m_stables : Int32) (m_firstSet : Int64) (a_m : Nat) (u_m_pairCost : Nat → Int32) (u_m_way : Nat → Int32) (hf : f_X12_findPairCosts F m_nodes m_made m_from m_to m_weighs m_alive m_pairCost m_way = some (u_m_pairCost, u_m_way)) :
    CtV l yX12_findPairCosts wsX12_findPairCosts (Rm 1) E [.ref a_m] [oC a_m 12 [.int m_nodes, .int m_made, .ref a_m_from, .ref a_m_to, .ref a_m_weighs, .ref a_m_alive, .ref a_m_ranks, .int m_known, .ref a_m_best, .ref a_m_most, .ref a_m_apart, .ref a_m_near, .ref a_m_worth, .ref a_m_mates, .ref a_m_sizes, .ref a_m_sums, .ref a_m_has, .ref a_m_sorts, .ref a_m_pieces, .int m_pieceCount, .int m_parts, .int m_halves, .ref a_m_inCover, .int m_coverSize, .int m_holdSet, .ref a_m_pairCost, .ref a_m_inJoin, .int m_hasJoin, .ref a_m_half, .ref a_m_way, .ref a_m_counts, .ref a_m_lastCounts, .ref a_m_openArc, .ref a_m_with, .ref a_m_tried, .int m_stables, .long m_firstSet], aI E a_m_from 60 m_from, aI E a_m_to 60 m_to, aI E a_m_weighs 60 m_weighs, aZ E a_m_alive 60 m_alive, aI E a_m_pairCost 65536 m_pairCost, aI E a_m_way 256 m_way] [oC a_m 12 [.int m_nodes, .int m_made, .ref a_m_from, .ref a_m_to, .ref a_m_weighs, .ref a_m_alive, .ref a_m_ranks, .int m_known, .ref a_m_best, .ref a_m_most, .ref a_m_apart, .ref a_m_near, .ref a_m_worth, .ref a_m_mates, .ref a_m_sizes, .ref a_m_sums, .ref a_m_has, .ref a_m_sorts, .ref a_m_pieces, .int m_pieceCount, .int m_parts, .int m_halves, .ref a_m_inCover, .int m_coverSize, .int m_holdSet, .ref a_m_pairCost, .ref a_m_inJoin, .int m_hasJoin, .ref a_m_half, .ref a_m_way, .ref a_m_counts, .ref a_m_lastCounts, .ref a_m_openArc, .ref a_m_with, .ref a_m_tried, .int m_stables, .long m_firstSet], aI E a_m_from 60 m_from, aI E a_m_to 60 m_to, aI E a_m_weighs 60 m_weighs, aZ E a_m_alive 60 m_alive, aI E a_m_pairCost 65536 u_m_pairCost, aI E a_m_way 256 u_m_way] := by
  refine ofV (cc := cX12_findPairCosts) (maxL := 7) (own := RX12) rfl rfl (by decide) rfl rfl ?_
  intro p e s m below meth c A ls Q S hnm hN hw hA hl0 hE
  have hE2 : ∀ (H : Heap) (locs : List Loc) (pc : Nat) (ls : Array Slot) (w' : va_W), Wo E A s w' H locs → w' = [oC a_m 12 [.int m_nodes, .int m_made, .ref a_m_from, .ref a_m_to, .ref a_m_weighs, .ref a_m_alive, .ref a_m_ranks, .int m_known, .ref a_m_best, .ref a_m_most, .ref a_m_apart, .ref a_m_near, .ref a_m_worth, .ref a_m_mates, .ref a_m_sizes, .ref a_m_sums, .ref a_m_has, .ref a_m_sorts, .ref a_m_pieces, .int m_pieceCount, .int m_parts, .int m_halves, .ref a_m_inCover, .int m_coverSize, .int m_holdSet, .ref a_m_pairCost, .ref a_m_inJoin, .int m_hasJoin, .ref a_m_half, .ref a_m_way, .ref a_m_counts, .ref a_m_lastCounts, .ref a_m_openArc, .ref a_m_with, .ref a_m_tried, .int m_stables, .long m_firstSet], aI E a_m_from 60 m_from, aI E a_m_to 60 m_to, aI E a_m_weighs 60 m_weighs, aZ E a_m_alive 60 m_alive, aI E a_m_pairCost 65536 u_m_pairCost, aI E a_m_way 256 u_m_way] → decode cX12_findPairCosts pc = .ok (.return_, 1) → W p l e (Rm 1) s m (([.ref a_m] : List Value).toArray) below meth c H locs 0 0 Q (F0 m pc ls []) := by
    intro H locs pc ls w' hw e1 hd
    subst e1
    exact hE H locs pc ls hw hd
  have hl : lv_has ls 7 [(0, .ref a_m)] := hl0 _ (lv_entry [.ref a_m] (n := 7) (Nat.le_of_ble_eq_true rfl))
  have iX12 : ∀ w ∈ wsX120, w ∈ wsX12_findPairCosts := by decide +kernel
  have k13 := S.2.2.2.2 (.fieldLink RX12 13 "PairMatchingModel" "to" "[I") (by decide +kernel)
  have k143 := S.2.2.2.2 (.constant RX12 143 1000000000) (by decide +kernel)
  have k16 := S.2.2.2.2 (.fieldLink RX12 16 "PairMatchingModel" "weighs" "[I") (by decide +kernel)
  have k19 := S.2.2.2.2 (.fieldLink RX12 19 "PairMatchingModel" "alive" "[Z") (by decide +kernel)
  have k64 := S.2.2.2.2 (.fieldLink RX12 64 "PairMatchingModel" "pairCost" "[I") (by decide +kernel)
  have k7 := S.2.2.2.2 (.fieldLink RX12 7 "PairMatchingModel" "from" "[I") (by decide +kernel)
  have k73 := S.2.2.2.2 (.fieldLink RX12 73 "PairMatchingModel" "way" "[I") (by decide +kernel)
  have k92 := S.2.2.2.2 (.fieldLink RX12 92 "PairMatchingModel" "nodes" "I") (by decide +kernel)
  have k97 := S.2.2.2.2 (.fieldLink RX12 97 "PairMatchingModel" "made" "I") (by decide +kernel)
  unfold f_X12_findPairCosts at hf
  refine lv_iconst (v := 0) S.1 S.2.1 dX12_findPairCosts_0 (by decide) ?_
  refine lv_istore_n (lv' := [(1, .int 0), (0, .ref a_m)]) S.1 S.2.1 dX12_findPairCosts_1 rfl hl (by decide) rfl (fun ls hl => ?_)
  obtain ⟨kk_50_73, ekk_50_73, hf⟩ := jn_s hf
  have hJ_kk_50_73 : ∀ (m_way_1 : Nat → Int32) (H : Heap) (locs : List Loc) (ls : Array Slot), Wo E A s [oC a_m 12 [.int m_nodes, .int m_made, .ref a_m_from, .ref a_m_to, .ref a_m_weighs, .ref a_m_alive, .ref a_m_ranks, .int m_known, .ref a_m_best, .ref a_m_most, .ref a_m_apart, .ref a_m_near, .ref a_m_worth, .ref a_m_mates, .ref a_m_sizes, .ref a_m_sums, .ref a_m_has, .ref a_m_sorts, .ref a_m_pieces, .int m_pieceCount, .int m_parts, .int m_halves, .ref a_m_inCover, .int m_coverSize, .int m_holdSet, .ref a_m_pairCost, .ref a_m_inJoin, .int m_hasJoin, .ref a_m_half, .ref a_m_way, .ref a_m_counts, .ref a_m_lastCounts, .ref a_m_openArc, .ref a_m_with, .ref a_m_tried, .int m_stables, .long m_firstSet], aI E a_m_from 60 m_from, aI E a_m_to 60 m_to, aI E a_m_weighs 60 m_weighs, aZ E a_m_alive 60 m_alive, aI E a_m_pairCost 65536 m_pairCost, aI E a_m_way 256 m_way_1] H locs → lv_has ls 7 [(0, .ref a_m)] → kk_50_73 m_way_1 = some (u_m_pairCost, u_m_way) → W p l e (Rm 1) s m (([.ref a_m] : List Value).toArray) below meth c H locs 0 0 Q (F0 m 50 ls []) := by
    intro m_way_1 H locs ls hw hl hf
    rw [ekk_50_73] at hf
    refine lv_iconst (v := 0) S.1 S.2.1 dX12_findPairCosts_50 (by decide) ?_
    refine lv_istore_n (lv' := [(1, .int 0), (0, .ref a_m)]) S.1 S.2.1 dX12_findPairCosts_51 rfl hl (by decide) rfl (fun ls hl => ?_)
    obtain ⟨kk_156_55, ekk_156_55, hf⟩ := jn_s hf
    have hJ_kk_156_55 : ∀ (m_way_2 : Nat → Int32) (H : Heap) (locs : List Loc) (ls : Array Slot), Wo E A s [oC a_m 12 [.int m_nodes, .int m_made, .ref a_m_from, .ref a_m_to, .ref a_m_weighs, .ref a_m_alive, .ref a_m_ranks, .int m_known, .ref a_m_best, .ref a_m_most, .ref a_m_apart, .ref a_m_near, .ref a_m_worth, .ref a_m_mates, .ref a_m_sizes, .ref a_m_sums, .ref a_m_has, .ref a_m_sorts, .ref a_m_pieces, .int m_pieceCount, .int m_parts, .int m_halves, .ref a_m_inCover, .int m_coverSize, .int m_holdSet, .ref a_m_pairCost, .ref a_m_inJoin, .int m_hasJoin, .ref a_m_half, .ref a_m_way, .ref a_m_counts, .ref a_m_lastCounts, .ref a_m_openArc, .ref a_m_with, .ref a_m_tried, .int m_stables, .long m_firstSet], aI E a_m_from 60 m_from, aI E a_m_to 60 m_to, aI E a_m_weighs 60 m_weighs, aZ E a_m_alive 60 m_alive, aI E a_m_pairCost 65536 m_pairCost, aI E a_m_way 256 m_way_2] H locs → lv_has ls 7 [(0, .ref a_m)] → kk_156_55 m_way_2 = some (u_m_pairCost, u_m_way) → W p l e (Rm 1) s m (([.ref a_m] : List Value).toArray) below meth c H locs 0 0 Q (F0 m 156 ls []) := by
      intro m_way_2 H locs ls hw hl hf
      rw [ekk_156_55] at hf
      refine lv_iconst (v := 0) S.1 S.2.1 dX12_findPairCosts_156 (by decide) ?_
      refine lv_istore_n (lv' := [(1, .int 0), (0, .ref a_m)]) S.1 S.2.1 dX12_findPairCosts_157 rfl hl (by decide) rfl (fun ls hl => ?_)
      obtain ⟨kk_272_31, ekk_272_31, hf⟩ := jn_s hf
      have hJ_kk_272_31 : ∀ (m_way_3 : Nat → Int32) (H : Heap) (locs : List Loc) (ls : Array Slot), Wo E A s [oC a_m 12 [.int m_nodes, .int m_made, .ref a_m_from, .ref a_m_to, .ref a_m_weighs, .ref a_m_alive, .ref a_m_ranks, .int m_known, .ref a_m_best, .ref a_m_most, .ref a_m_apart, .ref a_m_near, .ref a_m_worth, .ref a_m_mates, .ref a_m_sizes, .ref a_m_sums, .ref a_m_has, .ref a_m_sorts, .ref a_m_pieces, .int m_pieceCount, .int m_parts, .int m_halves, .ref a_m_inCover, .int m_coverSize, .int m_holdSet, .ref a_m_pairCost, .ref a_m_inJoin, .int m_hasJoin, .ref a_m_half, .ref a_m_way, .ref a_m_counts, .ref a_m_lastCounts, .ref a_m_openArc, .ref a_m_with, .ref a_m_tried, .int m_stables, .long m_firstSet], aI E a_m_from 60 m_from, aI E a_m_to 60 m_to, aI E a_m_weighs 60 m_weighs, aZ E a_m_alive 60 m_alive, aI E a_m_pairCost 65536 m_pairCost, aI E a_m_way 256 m_way_3] H locs → lv_has ls 7 [(0, .ref a_m)] → kk_272_31 m_way_3 = some (u_m_pairCost, u_m_way) → W p l e (Rm 1) s m (([.ref a_m] : List Value).toArray) below meth c H locs 0 0 Q (F0 m 272 ls []) := by
        intro m_way_3 H locs ls hw hl hf
        rw [ekk_272_31] at hf
        refine lv_aload_n S.1 S.2.1 dX12_findPairCosts_272 rfl (lv_at hl 0 rfl) ?_
        refine g_get S hN hw (C := RX12) (T := TX12) (N := 37) (ci := 12) (v := .ref a_m_pairCost) 0 25 iX12 k64 dX12_findPairCosts_273 rfl rfl (by decide) rfl ?_
        refine lv_iconst (v := 0) S.1 S.2.1 dX12_findPairCosts_276 (by decide) ?_
        refine lv_iconst (v := 0) S.1 S.2.1 dX12_findPairCosts_277 (by decide) ?_
        obtain ⟨hi_3, hf⟩ := wr_s hf
        refine g_iast (n := 65536) (f := m_pairCost) (w1 := [oC a_m 12 [.int m_nodes, .int m_made, .ref a_m_from, .ref a_m_to, .ref a_m_weighs, .ref a_m_alive, .ref a_m_ranks, .int m_known, .ref a_m_best, .ref a_m_most, .ref a_m_apart, .ref a_m_near, .ref a_m_worth, .ref a_m_mates, .ref a_m_sizes, .ref a_m_sums, .ref a_m_has, .ref a_m_sorts, .ref a_m_pieces, .int m_pieceCount, .int m_parts, .int m_halves, .ref a_m_inCover, .int m_coverSize, .int m_holdSet, .ref a_m_pairCost, .ref a_m_inJoin, .int m_hasJoin, .ref a_m_half, .ref a_m_way, .ref a_m_counts, .ref a_m_lastCounts, .ref a_m_openArc, .ref a_m_with, .ref a_m_tried, .int m_stables, .long m_firstSet], aI E a_m_from 60 m_from, aI E a_m_to 60 m_to, aI E a_m_weighs 60 m_weighs, aZ E a_m_alive 60 m_alive, aI E a_m_pairCost 65536 (va_up m_pairCost (0 : Int32).toNatClampNeg 0), aI E a_m_way 256 m_way_3]) S hN hw 5 hi_3 dX12_findPairCosts_278 rfl rfl (fun H locs hw => ?_)
        generalize va_up m_pairCost (0 : Int32).toNatClampNeg 0 = m_pairCost_4 at hf hw
        refine lv_iconst (v := 1) S.1 S.2.1 dX12_findPairCosts_279 (by decide) ?_
        refine lv_istore_n (lv' := [(1, .int 1), (0, .ref a_m)]) S.1 S.2.1 dX12_findPairCosts_280 rfl hl (by decide) rfl (fun ls hl => ?_)
        obtain ⟨kk_429_7, ekk_429_7, hf⟩ := jn_s hf
        have hJ_kk_429_7 : ∀ (m_pairCost_5 : Nat → Int32) (H : Heap) (locs : List Loc) (ls : Array Slot), Wo E A s [oC a_m 12 [.int m_nodes, .int m_made, .ref a_m_from, .ref a_m_to, .ref a_m_weighs, .ref a_m_alive, .ref a_m_ranks, .int m_known, .ref a_m_best, .ref a_m_most, .ref a_m_apart, .ref a_m_near, .ref a_m_worth, .ref a_m_mates, .ref a_m_sizes, .ref a_m_sums, .ref a_m_has, .ref a_m_sorts, .ref a_m_pieces, .int m_pieceCount, .int m_parts, .int m_halves, .ref a_m_inCover, .int m_coverSize, .int m_holdSet, .ref a_m_pairCost, .ref a_m_inJoin, .int m_hasJoin, .ref a_m_half, .ref a_m_way, .ref a_m_counts, .ref a_m_lastCounts, .ref a_m_openArc, .ref a_m_with, .ref a_m_tried, .int m_stables, .long m_firstSet], aI E a_m_from 60 m_from, aI E a_m_to 60 m_to, aI E a_m_weighs 60 m_weighs, aZ E a_m_alive 60 m_alive, aI E a_m_pairCost 65536 m_pairCost_5, aI E a_m_way 256 m_way_3] H locs → lv_has ls 7 [] → kk_429_7 m_pairCost_5 = some (u_m_pairCost, u_m_way) → W p l e (Rm 1) s m (([.ref a_m] : List Value).toArray) below meth c H locs 0 0 Q (F0 m 429 ls []) := by
          intro m_pairCost_5 H locs ls hw hl hf
          rw [ekk_429_7] at hf
          obtain ⟨e_6, e_7⟩ := tp2 hf
          exact hE2 _ _ _ _ _ hw (cg2 (fun (x1 : Nat → Int32) (x2 : Nat → Int32) => [oC a_m 12 [.int m_nodes, .int m_made, .ref a_m_from, .ref a_m_to, .ref a_m_weighs, .ref a_m_alive, .ref a_m_ranks, .int m_known, .ref a_m_best, .ref a_m_most, .ref a_m_apart, .ref a_m_near, .ref a_m_worth, .ref a_m_mates, .ref a_m_sizes, .ref a_m_sums, .ref a_m_has, .ref a_m_sorts, .ref a_m_pieces, .int m_pieceCount, .int m_parts, .int m_halves, .ref a_m_inCover, .int m_coverSize, .int m_holdSet, .ref a_m_pairCost, .ref a_m_inJoin, .int m_hasJoin, .ref a_m_half, .ref a_m_way, .ref a_m_counts, .ref a_m_lastCounts, .ref a_m_openArc, .ref a_m_with, .ref a_m_tried, .int m_stables, .long m_firstSet], aI E a_m_from 60 m_from, aI E a_m_to 60 m_to, aI E a_m_weighs 60 m_weighs, aZ E a_m_alive 60 m_alive, aI E a_m_pairCost 65536 x1, aI E a_m_way 256 x2]) e_6 e_7) dX12_findPairCosts_429
        have hL_281_30 : ∀ (n : Nat) (v1_9 : Int32) (m_pairCost_10 : Nat → Int32) (H : Heap) (locs : List Loc) (ls : Array Slot), Wo E A s [oC a_m 12 [.int m_nodes, .int m_made, .ref a_m_from, .ref a_m_to, .ref a_m_weighs, .ref a_m_alive, .ref a_m_ranks, .int m_known, .ref a_m_best, .ref a_m_most, .ref a_m_apart, .ref a_m_near, .ref a_m_worth, .ref a_m_mates, .ref a_m_sizes, .ref a_m_sums, .ref a_m_has, .ref a_m_sorts, .ref a_m_pieces, .int m_pieceCount, .int m_parts, .int m_halves, .ref a_m_inCover, .int m_coverSize, .int m_holdSet, .ref a_m_pairCost, .ref a_m_inJoin, .int m_hasJoin, .ref a_m_half, .ref a_m_way, .ref a_m_counts, .ref a_m_lastCounts, .ref a_m_openArc, .ref a_m_with, .ref a_m_tried, .int m_stables, .long m_firstSet], aI E a_m_from 60 m_from, aI E a_m_to 60 m_to, aI E a_m_weighs 60 m_weighs, aZ E a_m_alive 60 m_alive, aI E a_m_pairCost 65536 m_pairCost_10, aI E a_m_way 256 m_way_3] H locs → lv_has ls 7 [(0, .ref a_m), (1, .int v1_9)] → f_X12_findPairCosts_L281 F m_nodes m_way_3 kk_429_7 n v1_9 m_pairCost_10 = some (u_m_pairCost, u_m_way) → W p l e (Rm 1) s m (([.ref a_m] : List Value).toArray) below meth c H locs 0 0 Q (F0 m 281 ls []) := by
          intro n
          induction n with
          | zero => intro v1_9 m_pairCost_10 H locs ls hw hl hf; unfold f_X12_findPairCosts_L281 at hf; cases hf
          | succ n ih =>
            intro v1_9 m_pairCost_10 H locs ls hw hl hf
            unfold f_X12_findPairCosts_L281 at hf
            refine lv_iload_n S.1 S.2.1 dX12_findPairCosts_281 rfl (lv_at hl 1 rfl) ?_
            refine lv_aload_n S.1 S.2.1 dX12_findPairCosts_282 rfl (lv_at hl 0 rfl) ?_
            refine g_calli (r := (f_X12_all m_nodes)) (wc := [oC a_m 12 [.int m_nodes, .int m_made, .ref a_m_from, .ref a_m_to, .ref a_m_weighs, .ref a_m_alive, .ref a_m_ranks, .int m_known, .ref a_m_best, .ref a_m_most, .ref a_m_apart, .ref a_m_near, .ref a_m_worth, .ref a_m_mates, .ref a_m_sizes, .ref a_m_sums, .ref a_m_has, .ref a_m_sorts, .ref a_m_pieces, .int m_pieceCount, .int m_parts, .int m_halves, .ref a_m_inCover, .int m_coverSize, .int m_holdSet, .ref a_m_pairCost, .ref a_m_inJoin, .int m_hasJoin, .ref a_m_half, .ref a_m_way, .ref a_m_counts, .ref a_m_lastCounts, .ref a_m_openArc, .ref a_m_with, .ref a_m_tried, .int m_stables, .long m_firstSet]]) (wr := [aI E a_m_from 60 m_from, aI E a_m_to 60 m_to, aI E a_m_weighs 60 m_weighs, aZ E a_m_alive 60 m_alive, aI E a_m_pairCost 65536 m_pairCost_10, aI E a_m_way 256 m_way_3]) (w1 := [oC a_m 12 [.int m_nodes, .int m_made, .ref a_m_from, .ref a_m_to, .ref a_m_weighs, .ref a_m_alive, .ref a_m_ranks, .int m_known, .ref a_m_best, .ref a_m_most, .ref a_m_apart, .ref a_m_near, .ref a_m_worth, .ref a_m_mates, .ref a_m_sizes, .ref a_m_sums, .ref a_m_has, .ref a_m_sorts, .ref a_m_pieces, .int m_pieceCount, .int m_parts, .int m_halves, .ref a_m_inCover, .int m_coverSize, .int m_holdSet, .ref a_m_pairCost, .ref a_m_inJoin, .int m_hasJoin, .ref a_m_half, .ref a_m_way, .ref a_m_counts, .ref a_m_lastCounts, .ref a_m_openArc, .ref a_m_with, .ref a_m_tried, .int m_stables, .long m_firstSet]]) (va_runV (As := []) (rest := [.int v1_9]) S (c_X12_all l E m_nodes m_made a_m_from a_m_to a_m_weighs a_m_alive a_m_ranks m_known a_m_best a_m_most a_m_apart a_m_near a_m_worth a_m_mates a_m_sizes a_m_sums a_m_has a_m_sorts a_m_pieces m_pieceCount m_parts m_halves a_m_inCover m_coverSize m_holdSet a_m_pairCost a_m_inJoin m_hasJoin a_m_half a_m_way a_m_counts a_m_lastCounts a_m_openArc a_m_with a_m_tried m_stables m_firstSet a_m (f_X12_all m_nodes) rfl _) (cwV 0 S.2.2.2.2 gX12_findPairCosts_X12_all rfl rfl rfl (by decide +kernel) (rm_le (by omega) (by decide))) (preV (q := (RX12, TX12, 37)) hN hw [0] rfl rfl rfl rfl) rfl rfl hl.1 rfl (lv_room (Nat.le_of_ble_eq_true rfl)) dX12_findPairCosts_283 ⟨Nat.le_refl _, Nat.le_refl _⟩) hw hA [0] [1, 2, 3, 4, 5, 6] rfl rfl rfl (by decide) (fun H locs hw => ?_)
            have hw : Wo E A s [aI E a_m_from 60 m_from, aI E a_m_to 60 m_to, aI E a_m_weighs 60 m_weighs, aZ E a_m_alive 60 m_alive, aI E a_m_pairCost 65536 m_pairCost_10, aI E a_m_way 256 m_way_3, oC a_m 12 [.int m_nodes, .int m_made, .ref a_m_from, .ref a_m_to, .ref a_m_weighs, .ref a_m_alive, .ref a_m_ranks, .int m_known, .ref a_m_best, .ref a_m_most, .ref a_m_apart, .ref a_m_near, .ref a_m_worth, .ref a_m_mates, .ref a_m_sizes, .ref a_m_sums, .ref a_m_has, .ref a_m_sorts, .ref a_m_pieces, .int m_pieceCount, .int m_parts, .int m_halves, .ref a_m_inCover, .int m_coverSize, .int m_holdSet, .ref a_m_pairCost, .ref a_m_inJoin, .int m_hasJoin, .ref a_m_half, .ref a_m_way, .ref a_m_counts, .ref a_m_lastCounts, .ref a_m_openArc, .ref a_m_with, .ref a_m_tried, .int m_stables, .long m_firstSet]] H _ := hw
            refine lv_icmp_gt (tgt := 429) S.1 S.2.1 dX12_findPairCosts_286 (by decide) (fun h_13 => ?_) (fun h_13 => ?_)
            · replace hf := if_t h_13 hf
              exact hJ_kk_429_7 m_pairCost_10 _ _ _ (hw.sub [6, 0, 1, 2, 3, 4, 5] rfl rfl) (lv_sub hl [] rfl) hf
            · replace hf := if_f h_13 hf
              refine lv_iload_n S.1 S.2.1 dX12_findPairCosts_289 rfl (lv_at hl 1 rfl) ?_
              obtain ⟨r_14, hc_14, hf⟩ := bd_s hf
              refine g_calli (r := r_14) (wc := []) (wr := [aI E a_m_from 60 m_from, aI E a_m_to 60 m_to, aI E a_m_weighs 60 m_weighs, aZ E a_m_alive 60 m_alive, aI E a_m_pairCost 65536 m_pairCost_10, aI E a_m_way 256 m_way_3, oC a_m 12 [.int m_nodes, .int m_made, .ref a_m_from, .ref a_m_to, .ref a_m_weighs, .ref a_m_alive, .ref a_m_ranks, .int m_known, .ref a_m_best, .ref a_m_most, .ref a_m_apart, .ref a_m_near, .ref a_m_worth, .ref a_m_mates, .ref a_m_sizes, .ref a_m_sums, .ref a_m_has, .ref a_m_sorts, .ref a_m_pieces, .int m_pieceCount, .int m_parts, .int m_halves, .ref a_m_inCover, .int m_coverSize, .int m_holdSet, .ref a_m_pairCost, .ref a_m_inJoin, .int m_hasJoin, .ref a_m_half, .ref a_m_way, .ref a_m_counts, .ref a_m_lastCounts, .ref a_m_openArc, .ref a_m_with, .ref a_m_tried, .int m_stables, .long m_firstSet]]) (w1 := []) (va_runS (As := [.int v1_9]) (rest := []) S (c_X12_least l E F v1_9 r_14 hc_14 _) (va_cwS 1 S.2.2.2.2 gX12_findPairCosts_X12_least rfl rfl rfl (by decide +kernel) (rm_le (by omega) (by decide))) (preS hN hw [] rfl rfl) rfl rfl hl.1 rfl (lv_room (Nat.le_of_ble_eq_true rfl)) dX12_findPairCosts_290 ⟨Nat.le_refl _, Nat.le_refl _⟩) hw hA [] [0, 1, 2, 3, 4, 5, 6] rfl rfl rfl (by decide) (fun H locs hw => ?_)
              have hw : Wo E A s [aI E a_m_from 60 m_from, aI E a_m_to 60 m_to, aI E a_m_weighs 60 m_weighs, aZ E a_m_alive 60 m_alive, aI E a_m_pairCost 65536 m_pairCost_10, aI E a_m_way 256 m_way_3, oC a_m 12 [.int m_nodes, .int m_made, .ref a_m_from, .ref a_m_to, .ref a_m_weighs, .ref a_m_alive, .ref a_m_ranks, .int m_known, .ref a_m_best, .ref a_m_most, .ref a_m_apart, .ref a_m_near, .ref a_m_worth, .ref a_m_mates, .ref a_m_sizes, .ref a_m_sums, .ref a_m_has, .ref a_m_sorts, .ref a_m_pieces, .int m_pieceCount, .int m_parts, .int m_halves, .ref a_m_inCover, .int m_coverSize, .int m_holdSet, .ref a_m_pairCost, .ref a_m_inJoin, .int m_hasJoin, .ref a_m_half, .ref a_m_way, .ref a_m_counts, .ref a_m_lastCounts, .ref a_m_openArc, .ref a_m_with, .ref a_m_tried, .int m_stables, .long m_firstSet]] H _ := hw
              refine lv_istore_n (lv' := [(2, .int r_14), (0, .ref a_m), (1, .int v1_9)]) S.1 S.2.1 dX12_findPairCosts_293 rfl hl (by decide) rfl (fun ls hl => ?_)
              refine lv_iload_n S.1 S.2.1 dX12_findPairCosts_294 rfl (lv_at hl 2 rfl) ?_
              refine lv_iconst (v := 1) S.1 S.2.1 dX12_findPairCosts_295 (by decide) ?_
              refine lv_iload_n S.1 S.2.1 dX12_findPairCosts_296 rfl (lv_at hl 0 rfl) ?_
              refine lv_ishl S.1 S.2.1 dX12_findPairCosts_297 ?_
              refine lv_iconst (v := (-1)) S.1 S.2.1 dX12_findPairCosts_298 (by decide) ?_
              refine lv_ixor S.1 S.2.1 dX12_findPairCosts_299 ?_
              refine lv_iand S.1 S.2.1 dX12_findPairCosts_300 ?_
              refine lv_istore_n (lv' := [(3, .int (v1_9 &&& (((1 : Int32) <<< (r_14 &&& 31)) ^^^ (-1)))), (2, .int r_14), (0, .ref a_m), (1, .int v1_9)]) S.1 S.2.1 dX12_findPairCosts_301 rfl hl (by decide) rfl (fun ls hl => ?_)
              refine lv_ldc (v := 1000000000) S.1 S.2.1 S.2.2.2.1 k143 dX12_findPairCosts_302 ?_
              refine lv_istore (lv' := [(4, .int 1000000000), (3, .int (v1_9 &&& (((1 : Int32) <<< (r_14 &&& 31)) ^^^ (-1)))), (2, .int r_14), (0, .ref a_m), (1, .int v1_9)]) S.1 S.2.1 dX12_findPairCosts_304 hl (by decide) rfl (fun ls hl => ?_)
              refine lv_iload_n S.1 S.2.1 dX12_findPairCosts_306 rfl (lv_at hl 2 rfl) ?_
              refine lv_iconst (v := 1) S.1 S.2.1 dX12_findPairCosts_307 (by decide) ?_
              refine lv_iadd S.1 S.2.1 dX12_findPairCosts_308 ?_
              refine lv_istore (lv' := [(5, .int (r_14 + 1)), (4, .int 1000000000), (3, .int (v1_9 &&& (((1 : Int32) <<< (r_14 &&& 31)) ^^^ (-1)))), (2, .int r_14), (0, .ref a_m), (1, .int v1_9)]) S.1 S.2.1 dX12_findPairCosts_309 hl (by decide) rfl (fun ls hl => ?_)
              obtain ⟨kk_415_17, ekk_415_17, hf⟩ := jn_s hf
              have hJ_kk_415_17 : ∀ (v4_16 : Int32) (H : Heap) (locs : List Loc) (ls : Array Slot), Wo E A s [aI E a_m_from 60 m_from, aI E a_m_to 60 m_to, aI E a_m_weighs 60 m_weighs, aZ E a_m_alive 60 m_alive, aI E a_m_pairCost 65536 m_pairCost_10, aI E a_m_way 256 m_way_3, oC a_m 12 [.int m_nodes, .int m_made, .ref a_m_from, .ref a_m_to, .ref a_m_weighs, .ref a_m_alive, .ref a_m_ranks, .int m_known, .ref a_m_best, .ref a_m_most, .ref a_m_apart, .ref a_m_near, .ref a_m_worth, .ref a_m_mates, .ref a_m_sizes, .ref a_m_sums, .ref a_m_has, .ref a_m_sorts, .ref a_m_pieces, .int m_pieceCount, .int m_parts, .int m_halves, .ref a_m_inCover, .int m_coverSize, .int m_holdSet, .ref a_m_pairCost, .ref a_m_inJoin, .int m_hasJoin, .ref a_m_half, .ref a_m_way, .ref a_m_counts, .ref a_m_lastCounts, .ref a_m_openArc, .ref a_m_with, .ref a_m_tried, .int m_stables, .long m_firstSet]] H locs → lv_has ls 7 [(0, .ref a_m), (1, .int v1_9), (4, .int v4_16)] → kk_415_17 v4_16 = some (u_m_pairCost, u_m_way) → W p l e (Rm 1) s m (([.ref a_m] : List Value).toArray) below meth c H locs 0 0 Q (F0 m 415 ls []) := by
                intro v4_16 H locs ls hw hl hf
                rw [ekk_415_17] at hf
                refine lv_aload_n S.1 S.2.1 dX12_findPairCosts_415 rfl (lv_at hl 0 rfl) ?_
                refine g_get S hN hw (C := RX12) (T := TX12) (N := 37) (ci := 12) (v := .ref a_m_pairCost) 6 25 iX12 k64 dX12_findPairCosts_416 rfl rfl (by decide) rfl ?_
                refine lv_iload_n S.1 S.2.1 dX12_findPairCosts_419 rfl (lv_at hl 1 rfl) ?_
                refine lv_iload S.1 S.2.1 dX12_findPairCosts_420 (lv_at hl 2 rfl) ?_
                obtain ⟨hi_16, hf⟩ := wr_s hf
                refine g_iast (n := 65536) (f := m_pairCost_10) (w1 := [aI E a_m_from 60 m_from, aI E a_m_to 60 m_to, aI E a_m_weighs 60 m_weighs, aZ E a_m_alive 60 m_alive, aI E a_m_pairCost 65536 (va_up m_pairCost_10 (v1_9 : Int32).toNatClampNeg v4_16), aI E a_m_way 256 m_way_3, oC a_m 12 [.int m_nodes, .int m_made, .ref a_m_from, .ref a_m_to, .ref a_m_weighs, .ref a_m_alive, .ref a_m_ranks, .int m_known, .ref a_m_best, .ref a_m_most, .ref a_m_apart, .ref a_m_near, .ref a_m_worth, .ref a_m_mates, .ref a_m_sizes, .ref a_m_sums, .ref a_m_has, .ref a_m_sorts, .ref a_m_pieces, .int m_pieceCount, .int m_parts, .int m_halves, .ref a_m_inCover, .int m_coverSize, .int m_holdSet, .ref a_m_pairCost, .ref a_m_inJoin, .int m_hasJoin, .ref a_m_half, .ref a_m_way, .ref a_m_counts, .ref a_m_lastCounts, .ref a_m_openArc, .ref a_m_with, .ref a_m_tried, .int m_stables, .long m_firstSet]]) S hN hw 4 hi_16 dX12_findPairCosts_422 rfl rfl (fun H locs hw => ?_)
                generalize va_up m_pairCost_10 (v1_9 : Int32).toNatClampNeg v4_16 = m_pairCost_17 at hf hw
                refine lv_iinc (v := (v1_9 + 1)) (lv' := [(1, .int (v1_9 + 1)), (0, .ref a_m), (4, .int v4_16)]) S.1 S.2.1 dX12_findPairCosts_423 hl (k := 1) rfl rfl (by decide) rfl (fun ls hl => ?_)
                refine lv_goto (tgt := 281) S.1 S.2.1 dX12_findPairCosts_426 (by decide) ?_
                exact ih (v1_9 + 1) m_pairCost_17 _ _ _ (hw.sub [6, 0, 1, 2, 3, 4, 5] rfl rfl) (lv_sub hl [1, 0] rfl) hf
              have hL_311_29 : ∀ (n : Nat) (v4_19 : Int32) (v5_20 : Int32) (H : Heap) (locs : List Loc) (ls : Array Slot), Wo E A s [aI E a_m_from 60 m_from, aI E a_m_to 60 m_to, aI E a_m_weighs 60 m_weighs, aZ E a_m_alive 60 m_alive, aI E a_m_pairCost 65536 m_pairCost_10, aI E a_m_way 256 m_way_3, oC a_m 12 [.int m_nodes, .int m_made, .ref a_m_from, .ref a_m_to, .ref a_m_weighs, .ref a_m_alive, .ref a_m_ranks, .int m_known, .ref a_m_best, .ref a_m_most, .ref a_m_apart, .ref a_m_near, .ref a_m_worth, .ref a_m_mates, .ref a_m_sizes, .ref a_m_sums, .ref a_m_has, .ref a_m_sorts, .ref a_m_pieces, .int m_pieceCount, .int m_parts, .int m_halves, .ref a_m_inCover, .int m_coverSize, .int m_holdSet, .ref a_m_pairCost, .ref a_m_inJoin, .int m_hasJoin, .ref a_m_half, .ref a_m_way, .ref a_m_counts, .ref a_m_lastCounts, .ref a_m_openArc, .ref a_m_with, .ref a_m_tried, .int m_stables, .long m_firstSet]] H locs → lv_has ls 7 [(0, .ref a_m), (1, .int v1_9), (2, .int r_14), (3, .int (v1_9 &&& (((1 : Int32) <<< (r_14 &&& 31)) ^^^ (-1)))), (4, .int v4_19), (5, .int v5_20)] → f_X12_findPairCosts_L311 m_nodes m_way_3 v1_9 m_pairCost_10 r_14 kk_415_17 n v4_19 v5_20 = some (u_m_pairCost, u_m_way) → W p l e (Rm 1) s m (([.ref a_m] : List Value).toArray) below meth c H locs 0 0 Q (F0 m 311 ls []) := by
                intro n
                induction n with
                | zero => intro v4_19 v5_20 H locs ls hw hl hf; unfold f_X12_findPairCosts_L311 at hf; cases hf
                | succ n ih =>
                  intro v4_19 v5_20 H locs ls hw hl hf
                  unfold f_X12_findPairCosts_L311 at hf
                  refine lv_iload S.1 S.2.1 dX12_findPairCosts_311 (lv_at hl 5 rfl) ?_
                  refine lv_aload_n S.1 S.2.1 dX12_findPairCosts_313 rfl (lv_at hl 0 rfl) ?_
                  refine g_get S hN hw (C := RX12) (T := TX12) (N := 37) (ci := 12) (v := .int m_nodes) 6 0 iX12 k92 dX12_findPairCosts_314 rfl rfl (by decide) rfl ?_
                  refine lv_icmp_ge (tgt := 415) S.1 S.2.1 dX12_findPairCosts_317 (by decide) (fun h_21 => ?_) (fun h_21 => ?_)
                  · replace hf := if_t h_21 hf
                    exact hJ_kk_415_17 v4_19 _ _ _ hw (lv_sub hl [0, 1, 4] rfl) hf
                  · replace hf := if_f h_21 hf
                    refine lv_iload_n S.1 S.2.1 dX12_findPairCosts_320 rfl (lv_at hl 3 rfl) ?_
                    refine lv_iload S.1 S.2.1 dX12_findPairCosts_321 (lv_at hl 5 rfl) ?_
                    refine lv_ishr S.1 S.2.1 dX12_findPairCosts_323 ?_
                    refine lv_iconst (v := 1) S.1 S.2.1 dX12_findPairCosts_324 (by decide) ?_
                    refine lv_iand S.1 S.2.1 dX12_findPairCosts_325 ?_
                    refine lv_iconst (v := 1) S.1 S.2.1 dX12_findPairCosts_326 (by decide) ?_
                    refine lv_icmp_ne (tgt := 409) S.1 S.2.1 dX12_findPairCosts_327 (by decide) (fun h_22 => ?_) (fun h_22 => ?_)
                    · replace hf := if_f h_22 hf
                      refine lv_iinc (v := (v5_20 + 1)) (lv' := [(5, .int (v5_20 + 1)), (0, .ref a_m), (1, .int v1_9), (2, .int r_14), (3, .int (v1_9 &&& (((1 : Int32) <<< (r_14 &&& 31)) ^^^ (-1)))), (4, .int v4_19)]) S.1 S.2.1 dX12_findPairCosts_409 hl (k := 5) rfl rfl (by decide) rfl (fun ls hl => ?_)
                      refine lv_goto (tgt := 311) S.1 S.2.1 dX12_findPairCosts_412 (by decide) ?_
                      exact ih v4_19 (v5_20 + 1) _ _ _ hw (lv_sub hl [1, 2, 3, 4, 5, 0] rfl) hf
                    · replace hf := if_t h_22 hf
                      refine lv_aload_n S.1 S.2.1 dX12_findPairCosts_330 rfl (lv_at hl 0 rfl) ?_
                      refine g_get S hN hw (C := RX12) (T := TX12) (N := 37) (ci := 12) (v := .ref a_m_way) 6 29 iX12 k73 dX12_findPairCosts_331 rfl rfl (by decide) rfl ?_
                      refine lv_bipush (v := 16) S.1 S.2.1 dX12_findPairCosts_334 (by decide) ?_
                      refine lv_iload_n S.1 S.2.1 dX12_findPairCosts_336 rfl (lv_at hl 2 rfl) ?_
                      refine lv_imul S.1 S.2.1 dX12_findPairCosts_337 ?_
                      refine lv_iload S.1 S.2.1 dX12_findPairCosts_338 (lv_at hl 5 rfl) ?_
                      refine lv_iadd S.1 S.2.1 dX12_findPairCosts_340 ?_
                      obtain ⟨hi_22, hf⟩ := rd_s hf
                      refine g_iald (n := 256) (f := m_way_3) S hN hw 5 hi_22 dX12_findPairCosts_341 rfl ?_
                      generalize m_way_3 (((16 * r_14) + v5_20) : Int32).toNatClampNeg = y_23 at hf ⊢
                      refine lv_ldc (v := 1000000000) S.1 S.2.1 S.2.2.2.1 k143 dX12_findPairCosts_342 ?_
                      refine lv_icmp_ge (tgt := 409) S.1 S.2.1 dX12_findPairCosts_344 (by decide) (fun h_24 => ?_) (fun h_24 => ?_)
                      · replace hf := if_t h_24 hf
                        refine lv_iinc (v := (v5_20 + 1)) (lv' := [(5, .int (v5_20 + 1)), (0, .ref a_m), (1, .int v1_9), (2, .int r_14), (3, .int (v1_9 &&& (((1 : Int32) <<< (r_14 &&& 31)) ^^^ (-1)))), (4, .int v4_19)]) S.1 S.2.1 dX12_findPairCosts_409 hl (k := 5) rfl rfl (by decide) rfl (fun ls hl => ?_)
                        refine lv_goto (tgt := 311) S.1 S.2.1 dX12_findPairCosts_412 (by decide) ?_
                        exact ih v4_19 (v5_20 + 1) _ _ _ hw (lv_sub hl [1, 2, 3, 4, 5, 0] rfl) hf
                      · replace hf := if_f h_24 hf
                        refine lv_aload_n S.1 S.2.1 dX12_findPairCosts_347 rfl (lv_at hl 0 rfl) ?_
                        refine g_get S hN hw (C := RX12) (T := TX12) (N := 37) (ci := 12) (v := .ref a_m_pairCost) 6 25 iX12 k64 dX12_findPairCosts_348 rfl rfl (by decide) rfl ?_
                        refine lv_iload_n S.1 S.2.1 dX12_findPairCosts_351 rfl (lv_at hl 3 rfl) ?_
                        refine lv_iconst (v := 1) S.1 S.2.1 dX12_findPairCosts_352 (by decide) ?_
                        refine lv_iload S.1 S.2.1 dX12_findPairCosts_353 (lv_at hl 5 rfl) ?_
                        refine lv_ishl S.1 S.2.1 dX12_findPairCosts_355 ?_
                        refine lv_iconst (v := (-1)) S.1 S.2.1 dX12_findPairCosts_356 (by decide) ?_
                        refine lv_ixor S.1 S.2.1 dX12_findPairCosts_357 ?_
                        refine lv_iand S.1 S.2.1 dX12_findPairCosts_358 ?_
                        obtain ⟨hi_24, hf⟩ := rd_s hf
                        refine g_iald (n := 65536) (f := m_pairCost_10) S hN hw 4 hi_24 dX12_findPairCosts_359 rfl ?_
                        generalize m_pairCost_10 (((v1_9 &&& (((1 : Int32) <<< (r_14 &&& 31)) ^^^ (-1))) &&& (((1 : Int32) <<< (v5_20 &&& 31)) ^^^ (-1))) : Int32).toNatClampNeg = y_25 at hf ⊢
                        refine lv_ldc (v := 1000000000) S.1 S.2.1 S.2.2.2.1 k143 dX12_findPairCosts_360 ?_
                        refine lv_icmp_ge (tgt := 409) S.1 S.2.1 dX12_findPairCosts_362 (by decide) (fun h_26 => ?_) (fun h_26 => ?_)
                        · replace hf := if_t h_26 hf
                          refine lv_iinc (v := (v5_20 + 1)) (lv' := [(5, .int (v5_20 + 1)), (0, .ref a_m), (1, .int v1_9), (2, .int r_14), (3, .int (v1_9 &&& (((1 : Int32) <<< (r_14 &&& 31)) ^^^ (-1)))), (4, .int v4_19)]) S.1 S.2.1 dX12_findPairCosts_409 hl (k := 5) rfl rfl (by decide) rfl (fun ls hl => ?_)
                          refine lv_goto (tgt := 311) S.1 S.2.1 dX12_findPairCosts_412 (by decide) ?_
                          exact ih v4_19 (v5_20 + 1) _ _ _ hw (lv_sub hl [1, 2, 3, 4, 5, 0] rfl) hf
                        · replace hf := if_f h_26 hf
                          refine lv_aload_n S.1 S.2.1 dX12_findPairCosts_365 rfl (lv_at hl 0 rfl) ?_
                          refine g_get S hN hw (C := RX12) (T := TX12) (N := 37) (ci := 12) (v := .ref a_m_way) 6 29 iX12 k73 dX12_findPairCosts_366 rfl rfl (by decide) rfl ?_
                          refine lv_bipush (v := 16) S.1 S.2.1 dX12_findPairCosts_369 (by decide) ?_
                          refine lv_iload_n S.1 S.2.1 dX12_findPairCosts_371 rfl (lv_at hl 2 rfl) ?_
                          refine lv_imul S.1 S.2.1 dX12_findPairCosts_372 ?_
                          refine lv_iload S.1 S.2.1 dX12_findPairCosts_373 (lv_at hl 5 rfl) ?_
                          refine lv_iadd S.1 S.2.1 dX12_findPairCosts_375 ?_
                          obtain ⟨hi_26, hf⟩ := rd_s hf
                          refine g_iald (n := 256) (f := m_way_3) S hN hw 5 hi_26 dX12_findPairCosts_376 rfl ?_
                          generalize m_way_3 (((16 * r_14) + v5_20) : Int32).toNatClampNeg = y_27 at hf ⊢
                          refine lv_aload_n S.1 S.2.1 dX12_findPairCosts_377 rfl (lv_at hl 0 rfl) ?_
                          refine g_get S hN hw (C := RX12) (T := TX12) (N := 37) (ci := 12) (v := .ref a_m_pairCost) 6 25 iX12 k64 dX12_findPairCosts_378 rfl rfl (by decide) rfl ?_
                          refine lv_iload_n S.1 S.2.1 dX12_findPairCosts_381 rfl (lv_at hl 3 rfl) ?_
                          refine lv_iconst (v := 1) S.1 S.2.1 dX12_findPairCosts_382 (by decide) ?_
                          refine lv_iload S.1 S.2.1 dX12_findPairCosts_383 (lv_at hl 5 rfl) ?_
                          refine lv_ishl S.1 S.2.1 dX12_findPairCosts_385 ?_
                          refine lv_iconst (v := (-1)) S.1 S.2.1 dX12_findPairCosts_386 (by decide) ?_
                          refine lv_ixor S.1 S.2.1 dX12_findPairCosts_387 ?_
                          refine lv_iand S.1 S.2.1 dX12_findPairCosts_388 ?_
                          obtain ⟨hi_27, hf⟩ := rd_s hf
                          refine g_iald (n := 65536) (f := m_pairCost_10) S hN hw 4 hi_27 dX12_findPairCosts_389 rfl ?_
                          generalize m_pairCost_10 (((v1_9 &&& (((1 : Int32) <<< (r_14 &&& 31)) ^^^ (-1))) &&& (((1 : Int32) <<< (v5_20 &&& 31)) ^^^ (-1))) : Int32).toNatClampNeg = y_28 at hf ⊢
                          refine lv_iadd S.1 S.2.1 dX12_findPairCosts_390 ?_
                          refine lv_istore (lv' := [(6, .int (y_27 + y_28)), (0, .ref a_m), (1, .int v1_9), (2, .int r_14), (3, .int (v1_9 &&& (((1 : Int32) <<< (r_14 &&& 31)) ^^^ (-1)))), (4, .int v4_19), (5, .int v5_20)]) S.1 S.2.1 dX12_findPairCosts_391 hl (by decide) rfl (fun ls hl => ?_)
                          refine lv_iload S.1 S.2.1 dX12_findPairCosts_393 (lv_at hl 0 rfl) ?_
                          refine lv_iload S.1 S.2.1 dX12_findPairCosts_395 (lv_at hl 5 rfl) ?_
                          refine lv_icmp_ge (tgt := 405) S.1 S.2.1 dX12_findPairCosts_397 (by decide) (fun h_29 => ?_) (fun h_29 => ?_)
                          · replace hf := if_t h_29 hf
                            refine lv_iload S.1 S.2.1 dX12_findPairCosts_405 (lv_at hl 5 rfl) ?_
                            refine lv_istore (lv' := [(4, .int v4_19), (6, .int (y_27 + y_28)), (0, .ref a_m), (1, .int v1_9), (2, .int r_14), (3, .int (v1_9 &&& (((1 : Int32) <<< (r_14 &&& 31)) ^^^ (-1)))), (5, .int v5_20)]) S.1 S.2.1 dX12_findPairCosts_407 hl (by decide) rfl (fun ls hl => ?_)
                            refine lv_iinc (v := (v5_20 + 1)) (lv' := [(5, .int (v5_20 + 1)), (4, .int v4_19), (6, .int (y_27 + y_28)), (0, .ref a_m), (1, .int v1_9), (2, .int r_14), (3, .int (v1_9 &&& (((1 : Int32) <<< (r_14 &&& 31)) ^^^ (-1))))]) S.1 S.2.1 dX12_findPairCosts_409 hl (k := 6) rfl rfl (by decide) rfl (fun ls hl => ?_)
                            refine lv_goto (tgt := 311) S.1 S.2.1 dX12_findPairCosts_412 (by decide) ?_
                            exact ih v4_19 (v5_20 + 1) _ _ _ hw (lv_sub hl [3, 4, 5, 6, 1, 0] rfl) hf
                          · replace hf := if_f h_29 hf
                            refine lv_iload S.1 S.2.1 dX12_findPairCosts_400 (lv_at hl 0 rfl) ?_
                            refine lv_goto (tgt := 407) S.1 S.2.1 dX12_findPairCosts_402 (by decide) ?_
                            refine lv_istore (lv' := [(4, .int (y_27 + y_28)), (6, .int (y_27 + y_28)), (0, .ref a_m), (1, .int v1_9), (2, .int r_14), (3, .int (v1_9 &&& (((1 : Int32) <<< (r_14 &&& 31)) ^^^ (-1)))), (5, .int v5_20)]) S.1 S.2.1 dX12_findPairCosts_407 hl (by decide) rfl (fun ls hl => ?_)
                            refine lv_iinc (v := (v5_20 + 1)) (lv' := [(5, .int (v5_20 + 1)), (4, .int (y_27 + y_28)), (6, .int (y_27 + y_28)), (0, .ref a_m), (1, .int v1_9), (2, .int r_14), (3, .int (v1_9 &&& (((1 : Int32) <<< (r_14 &&& 31)) ^^^ (-1))))]) S.1 S.2.1 dX12_findPairCosts_409 hl (k := 6) rfl rfl (by decide) rfl (fun ls hl => ?_)
                            refine lv_goto (tgt := 311) S.1 S.2.1 dX12_findPairCosts_412 (by decide) ?_
                            exact ih (y_27 + y_28) (v5_20 + 1) _ _ _ hw (lv_sub hl [3, 4, 5, 6, 1, 0] rfl) hf
              exact hL_311_29 F 1000000000 (r_14 + 1) _ _ _ hw (lv_sub hl [4, 5, 3, 2, 1, 0] rfl) hf
        exact hL_281_30 F 1 m_pairCost_4 _ _ _ hw (lv_sub hl [1, 0] rfl) hf
      have hL_158_54 : ∀ (n : Nat) (v1_33 : Int32) (m_way_34 : Nat → Int32) (H : Heap) (locs : List Loc) (ls : Array Slot), Wo E A s [oC a_m 12 [.int m_nodes, .int m_made, .ref a_m_from, .ref a_m_to, .ref a_m_weighs, .ref a_m_alive, .ref a_m_ranks, .int m_known, .ref a_m_best, .ref a_m_most, .ref a_m_apart, .ref a_m_near, .ref a_m_worth, .ref a_m_mates, .ref a_m_sizes, .ref a_m_sums, .ref a_m_has, .ref a_m_sorts, .ref a_m_pieces, .int m_pieceCount, .int m_parts, .int m_halves, .ref a_m_inCover, .int m_coverSize, .int m_holdSet, .ref a_m_pairCost, .ref a_m_inJoin, .int m_hasJoin, .ref a_m_half, .ref a_m_way, .ref a_m_counts, .ref a_m_lastCounts, .ref a_m_openArc, .ref a_m_with, .ref a_m_tried, .int m_stables, .long m_firstSet], aI E a_m_from 60 m_from, aI E a_m_to 60 m_to, aI E a_m_weighs 60 m_weighs, aZ E a_m_alive 60 m_alive, aI E a_m_pairCost 65536 m_pairCost, aI E a_m_way 256 m_way_34] H locs → lv_has ls 7 [(0, .ref a_m), (1, .int v1_33)] → f_X12_findPairCosts_L158 F m_nodes kk_272_31 n v1_33 m_way_34 = some (u_m_pairCost, u_m_way) → W p l e (Rm 1) s m (([.ref a_m] : List Value).toArray) below meth c H locs 0 0 Q (F0 m 158 ls []) := by
        intro n
        induction n with
        | zero => intro v1_33 m_way_34 H locs ls hw hl hf; unfold f_X12_findPairCosts_L158 at hf; cases hf
        | succ n ih =>
          intro v1_33 m_way_34 H locs ls hw hl hf
          unfold f_X12_findPairCosts_L158 at hf
          refine lv_iload_n S.1 S.2.1 dX12_findPairCosts_158 rfl (lv_at hl 1 rfl) ?_
          refine lv_aload_n S.1 S.2.1 dX12_findPairCosts_159 rfl (lv_at hl 0 rfl) ?_
          refine g_get S hN hw (C := RX12) (T := TX12) (N := 37) (ci := 12) (v := .int m_nodes) 0 0 iX12 k92 dX12_findPairCosts_160 rfl rfl (by decide) rfl ?_
          refine lv_icmp_ge (tgt := 272) S.1 S.2.1 dX12_findPairCosts_163 (by decide) (fun h_35 => ?_) (fun h_35 => ?_)
          · replace hf := if_t h_35 hf
            exact hJ_kk_272_31 m_way_34 _ _ _ hw (lv_sub hl [0] rfl) hf
          · replace hf := if_f h_35 hf
            refine lv_iconst (v := 0) S.1 S.2.1 dX12_findPairCosts_166 (by decide) ?_
            refine lv_istore_n (lv' := [(2, .int 0), (0, .ref a_m), (1, .int v1_33)]) S.1 S.2.1 dX12_findPairCosts_167 rfl hl (by decide) rfl (fun ls hl => ?_)
            obtain ⟨kk_266_36, ekk_266_36, hf⟩ := jn_s hf
            have hJ_kk_266_36 : ∀ (m_way_36 : Nat → Int32) (H : Heap) (locs : List Loc) (ls : Array Slot), Wo E A s [oC a_m 12 [.int m_nodes, .int m_made, .ref a_m_from, .ref a_m_to, .ref a_m_weighs, .ref a_m_alive, .ref a_m_ranks, .int m_known, .ref a_m_best, .ref a_m_most, .ref a_m_apart, .ref a_m_near, .ref a_m_worth, .ref a_m_mates, .ref a_m_sizes, .ref a_m_sums, .ref a_m_has, .ref a_m_sorts, .ref a_m_pieces, .int m_pieceCount, .int m_parts, .int m_halves, .ref a_m_inCover, .int m_coverSize, .int m_holdSet, .ref a_m_pairCost, .ref a_m_inJoin, .int m_hasJoin, .ref a_m_half, .ref a_m_way, .ref a_m_counts, .ref a_m_lastCounts, .ref a_m_openArc, .ref a_m_with, .ref a_m_tried, .int m_stables, .long m_firstSet], aI E a_m_from 60 m_from, aI E a_m_to 60 m_to, aI E a_m_weighs 60 m_weighs, aZ E a_m_alive 60 m_alive, aI E a_m_pairCost 65536 m_pairCost, aI E a_m_way 256 m_way_36] H locs → lv_has ls 7 [(0, .ref a_m), (1, .int v1_33)] → kk_266_36 m_way_36 = some (u_m_pairCost, u_m_way) → W p l e (Rm 1) s m (([.ref a_m] : List Value).toArray) below meth c H locs 0 0 Q (F0 m 266 ls []) := by
              intro m_way_36 H locs ls hw hl hf
              rw [ekk_266_36] at hf
              refine lv_iinc (v := (v1_33 + 1)) (lv' := [(1, .int (v1_33 + 1)), (0, .ref a_m)]) S.1 S.2.1 dX12_findPairCosts_266 hl (k := 1) rfl rfl (by decide) rfl (fun ls hl => ?_)
              refine lv_goto (tgt := 158) S.1 S.2.1 dX12_findPairCosts_269 (by decide) ?_
              exact ih (v1_33 + 1) m_way_36 _ _ _ hw (lv_sub hl [1, 0] rfl) hf
            have hL_168_53 : ∀ (n : Nat) (v2_38 : Int32) (m_way_39 : Nat → Int32) (H : Heap) (locs : List Loc) (ls : Array Slot), Wo E A s [oC a_m 12 [.int m_nodes, .int m_made, .ref a_m_from, .ref a_m_to, .ref a_m_weighs, .ref a_m_alive, .ref a_m_ranks, .int m_known, .ref a_m_best, .ref a_m_most, .ref a_m_apart, .ref a_m_near, .ref a_m_worth, .ref a_m_mates, .ref a_m_sizes, .ref a_m_sums, .ref a_m_has, .ref a_m_sorts, .ref a_m_pieces, .int m_pieceCount, .int m_parts, .int m_halves, .ref a_m_inCover, .int m_coverSize, .int m_holdSet, .ref a_m_pairCost, .ref a_m_inJoin, .int m_hasJoin, .ref a_m_half, .ref a_m_way, .ref a_m_counts, .ref a_m_lastCounts, .ref a_m_openArc, .ref a_m_with, .ref a_m_tried, .int m_stables, .long m_firstSet], aI E a_m_from 60 m_from, aI E a_m_to 60 m_to, aI E a_m_weighs 60 m_weighs, aZ E a_m_alive 60 m_alive, aI E a_m_pairCost 65536 m_pairCost, aI E a_m_way 256 m_way_39] H locs → lv_has ls 7 [(0, .ref a_m), (1, .int v1_33), (2, .int v2_38)] → f_X12_findPairCosts_L168 F m_nodes v1_33 kk_266_36 n v2_38 m_way_39 = some (u_m_pairCost, u_m_way) → W p l e (Rm 1) s m (([.ref a_m] : List Value).toArray) below meth c H locs 0 0 Q (F0 m 168 ls []) := by
              intro n
              induction n with
              | zero => intro v2_38 m_way_39 H locs ls hw hl hf; unfold f_X12_findPairCosts_L168 at hf; cases hf
              | succ n ih =>
                intro v2_38 m_way_39 H locs ls hw hl hf
                unfold f_X12_findPairCosts_L168 at hf
                refine lv_iload_n S.1 S.2.1 dX12_findPairCosts_168 rfl (lv_at hl 2 rfl) ?_
                refine lv_aload_n S.1 S.2.1 dX12_findPairCosts_169 rfl (lv_at hl 0 rfl) ?_
                refine g_get S hN hw (C := RX12) (T := TX12) (N := 37) (ci := 12) (v := .int m_nodes) 0 0 iX12 k92 dX12_findPairCosts_170 rfl rfl (by decide) rfl ?_
                refine lv_icmp_ge (tgt := 266) S.1 S.2.1 dX12_findPairCosts_173 (by decide) (fun h_40 => ?_) (fun h_40 => ?_)
                · replace hf := if_t h_40 hf
                  exact hJ_kk_266_36 m_way_39 _ _ _ hw (lv_sub hl [0, 1] rfl) hf
                · replace hf := if_f h_40 hf
                  refine lv_iconst (v := 0) S.1 S.2.1 dX12_findPairCosts_176 (by decide) ?_
                  refine lv_istore_n (lv' := [(3, .int 0), (0, .ref a_m), (1, .int v1_33), (2, .int v2_38)]) S.1 S.2.1 dX12_findPairCosts_177 rfl hl (by decide) rfl (fun ls hl => ?_)
                  obtain ⟨kk_260_41, ekk_260_41, hf⟩ := jn_s hf
                  have hJ_kk_260_41 : ∀ (m_way_41 : Nat → Int32) (H : Heap) (locs : List Loc) (ls : Array Slot), Wo E A s [oC a_m 12 [.int m_nodes, .int m_made, .ref a_m_from, .ref a_m_to, .ref a_m_weighs, .ref a_m_alive, .ref a_m_ranks, .int m_known, .ref a_m_best, .ref a_m_most, .ref a_m_apart, .ref a_m_near, .ref a_m_worth, .ref a_m_mates, .ref a_m_sizes, .ref a_m_sums, .ref a_m_has, .ref a_m_sorts, .ref a_m_pieces, .int m_pieceCount, .int m_parts, .int m_halves, .ref a_m_inCover, .int m_coverSize, .int m_holdSet, .ref a_m_pairCost, .ref a_m_inJoin, .int m_hasJoin, .ref a_m_half, .ref a_m_way, .ref a_m_counts, .ref a_m_lastCounts, .ref a_m_openArc, .ref a_m_with, .ref a_m_tried, .int m_stables, .long m_firstSet], aI E a_m_from 60 m_from, aI E a_m_to 60 m_to, aI E a_m_weighs 60 m_weighs, aZ E a_m_alive 60 m_alive, aI E a_m_pairCost 65536 m_pairCost, aI E a_m_way 256 m_way_41] H locs → lv_has ls 7 [(0, .ref a_m), (1, .int v1_33), (2, .int v2_38)] → kk_260_41 m_way_41 = some (u_m_pairCost, u_m_way) → W p l e (Rm 1) s m (([.ref a_m] : List Value).toArray) below meth c H locs 0 0 Q (F0 m 260 ls []) := by
                    intro m_way_41 H locs ls hw hl hf
                    rw [ekk_260_41] at hf
                    refine lv_iinc (v := (v2_38 + 1)) (lv' := [(2, .int (v2_38 + 1)), (0, .ref a_m), (1, .int v1_33)]) S.1 S.2.1 dX12_findPairCosts_260 hl (k := 2) rfl rfl (by decide) rfl (fun ls hl => ?_)
                    refine lv_goto (tgt := 168) S.1 S.2.1 dX12_findPairCosts_263 (by decide) ?_
                    exact ih (v2_38 + 1) m_way_41 _ _ _ hw (lv_sub hl [1, 2, 0] rfl) hf
                  have hL_178_52 : ∀ (n : Nat) (v3_43 : Int32) (m_way_44 : Nat → Int32) (H : Heap) (locs : List Loc) (ls : Array Slot), Wo E A s [oC a_m 12 [.int m_nodes, .int m_made, .ref a_m_from, .ref a_m_to, .ref a_m_weighs, .ref a_m_alive, .ref a_m_ranks, .int m_known, .ref a_m_best, .ref a_m_most, .ref a_m_apart, .ref a_m_near, .ref a_m_worth, .ref a_m_mates, .ref a_m_sizes, .ref a_m_sums, .ref a_m_has, .ref a_m_sorts, .ref a_m_pieces, .int m_pieceCount, .int m_parts, .int m_halves, .ref a_m_inCover, .int m_coverSize, .int m_holdSet, .ref a_m_pairCost, .ref a_m_inJoin, .int m_hasJoin, .ref a_m_half, .ref a_m_way, .ref a_m_counts, .ref a_m_lastCounts, .ref a_m_openArc, .ref a_m_with, .ref a_m_tried, .int m_stables, .long m_firstSet], aI E a_m_from 60 m_from, aI E a_m_to 60 m_to, aI E a_m_weighs 60 m_weighs, aZ E a_m_alive 60 m_alive, aI E a_m_pairCost 65536 m_pairCost, aI E a_m_way 256 m_way_44] H locs → lv_has ls 7 [(0, .ref a_m), (1, .int v1_33), (2, .int v2_38), (3, .int v3_43)] → f_X12_findPairCosts_L178 m_nodes v1_33 v2_38 kk_260_41 n v3_43 m_way_44 = some (u_m_pairCost, u_m_way) → W p l e (Rm 1) s m (([.ref a_m] : List Value).toArray) below meth c H locs 0 0 Q (F0 m 178 ls []) := by
                    intro n
                    induction n with
                    | zero => intro v3_43 m_way_44 H locs ls hw hl hf; unfold f_X12_findPairCosts_L178 at hf; cases hf
                    | succ n ih =>
                      intro v3_43 m_way_44 H locs ls hw hl hf
                      unfold f_X12_findPairCosts_L178 at hf
                      refine lv_iload_n S.1 S.2.1 dX12_findPairCosts_178 rfl (lv_at hl 3 rfl) ?_
                      refine lv_aload_n S.1 S.2.1 dX12_findPairCosts_179 rfl (lv_at hl 0 rfl) ?_
                      refine g_get S hN hw (C := RX12) (T := TX12) (N := 37) (ci := 12) (v := .int m_nodes) 0 0 iX12 k92 dX12_findPairCosts_180 rfl rfl (by decide) rfl ?_
                      refine lv_icmp_ge (tgt := 260) S.1 S.2.1 dX12_findPairCosts_183 (by decide) (fun h_45 => ?_) (fun h_45 => ?_)
                      · replace hf := if_t h_45 hf
                        exact hJ_kk_260_41 m_way_44 _ _ _ hw (lv_sub hl [0, 1, 2] rfl) hf
                      · replace hf := if_f h_45 hf
                        refine lv_aload_n S.1 S.2.1 dX12_findPairCosts_186 rfl (lv_at hl 0 rfl) ?_
                        refine g_get S hN hw (C := RX12) (T := TX12) (N := 37) (ci := 12) (v := .ref a_m_way) 0 29 iX12 k73 dX12_findPairCosts_187 rfl rfl (by decide) rfl ?_
                        refine lv_bipush (v := 16) S.1 S.2.1 dX12_findPairCosts_190 (by decide) ?_
                        refine lv_iload_n S.1 S.2.1 dX12_findPairCosts_192 rfl (lv_at hl 2 rfl) ?_
                        refine lv_imul S.1 S.2.1 dX12_findPairCosts_193 ?_
                        refine lv_iload_n S.1 S.2.1 dX12_findPairCosts_194 rfl (lv_at hl 1 rfl) ?_
                        refine lv_iadd S.1 S.2.1 dX12_findPairCosts_195 ?_
                        obtain ⟨hi_45, hf⟩ := rd_s hf
                        refine g_iald (n := 256) (f := m_way_44) S hN hw 6 hi_45 dX12_findPairCosts_196 rfl ?_
                        generalize m_way_44 (((16 * v2_38) + v1_33) : Int32).toNatClampNeg = y_46 at hf ⊢
                        refine lv_aload_n S.1 S.2.1 dX12_findPairCosts_197 rfl (lv_at hl 0 rfl) ?_
                        refine g_get S hN hw (C := RX12) (T := TX12) (N := 37) (ci := 12) (v := .ref a_m_way) 0 29 iX12 k73 dX12_findPairCosts_198 rfl rfl (by decide) rfl ?_
                        refine lv_bipush (v := 16) S.1 S.2.1 dX12_findPairCosts_201 (by decide) ?_
                        refine lv_iload_n S.1 S.2.1 dX12_findPairCosts_203 rfl (lv_at hl 1 rfl) ?_
                        refine lv_imul S.1 S.2.1 dX12_findPairCosts_204 ?_
                        refine lv_iload_n S.1 S.2.1 dX12_findPairCosts_205 rfl (lv_at hl 3 rfl) ?_
                        refine lv_iadd S.1 S.2.1 dX12_findPairCosts_206 ?_
                        obtain ⟨hi_46, hf⟩ := rd_s hf
                        refine g_iald (n := 256) (f := m_way_44) S hN hw 6 hi_46 dX12_findPairCosts_207 rfl ?_
                        generalize m_way_44 (((16 * v1_33) + v3_43) : Int32).toNatClampNeg = y_47 at hf ⊢
                        refine lv_iadd S.1 S.2.1 dX12_findPairCosts_208 ?_
                        refine lv_istore (lv' := [(4, .int (y_46 + y_47)), (0, .ref a_m), (1, .int v1_33), (2, .int v2_38), (3, .int v3_43)]) S.1 S.2.1 dX12_findPairCosts_209 hl (by decide) rfl (fun ls hl => ?_)
                        refine lv_aload_n S.1 S.2.1 dX12_findPairCosts_211 rfl (lv_at hl 1 rfl) ?_
                        refine g_get S hN hw (C := RX12) (T := TX12) (N := 37) (ci := 12) (v := .ref a_m_way) 0 29 iX12 k73 dX12_findPairCosts_212 rfl rfl (by decide) rfl ?_
                        refine lv_bipush (v := 16) S.1 S.2.1 dX12_findPairCosts_215 (by decide) ?_
                        refine lv_iload_n S.1 S.2.1 dX12_findPairCosts_217 rfl (lv_at hl 3 rfl) ?_
                        refine lv_imul S.1 S.2.1 dX12_findPairCosts_218 ?_
                        refine lv_iload_n S.1 S.2.1 dX12_findPairCosts_219 rfl (lv_at hl 4 rfl) ?_
                        refine lv_iadd S.1 S.2.1 dX12_findPairCosts_220 ?_
                        refine lv_iload S.1 S.2.1 dX12_findPairCosts_221 (lv_at hl 0 rfl) ?_
                        refine lv_aload_n S.1 S.2.1 dX12_findPairCosts_223 rfl (lv_at hl 1 rfl) ?_
                        refine g_get S hN hw (C := RX12) (T := TX12) (N := 37) (ci := 12) (v := .ref a_m_way) 0 29 iX12 k73 dX12_findPairCosts_224 rfl rfl (by decide) rfl ?_
                        refine lv_bipush (v := 16) S.1 S.2.1 dX12_findPairCosts_227 (by decide) ?_
                        refine lv_iload_n S.1 S.2.1 dX12_findPairCosts_229 rfl (lv_at hl 3 rfl) ?_
                        refine lv_imul S.1 S.2.1 dX12_findPairCosts_230 ?_
                        refine lv_iload_n S.1 S.2.1 dX12_findPairCosts_231 rfl (lv_at hl 4 rfl) ?_
                        refine lv_iadd S.1 S.2.1 dX12_findPairCosts_232 ?_
                        obtain ⟨hi_47, hf⟩ := rd_s hf
                        refine g_iald (n := 256) (f := m_way_44) S hN hw 6 hi_47 dX12_findPairCosts_233 rfl ?_
                        generalize m_way_44 (((16 * v2_38) + v3_43) : Int32).toNatClampNeg = y_48 at hf ⊢
                        refine lv_icmp_ge (tgt := 242) S.1 S.2.1 dX12_findPairCosts_234 (by decide) (fun h_49 => ?_) (fun h_49 => ?_)
                        · replace hf := if_t h_49 hf
                          refine lv_aload_n S.1 S.2.1 dX12_findPairCosts_242 rfl (lv_at hl 1 rfl) ?_
                          refine g_get S hN hw (C := RX12) (T := TX12) (N := 37) (ci := 12) (v := .ref a_m_way) 0 29 iX12 k73 dX12_findPairCosts_243 rfl rfl (by decide) rfl ?_
                          refine lv_bipush (v := 16) S.1 S.2.1 dX12_findPairCosts_246 (by decide) ?_
                          refine lv_iload_n S.1 S.2.1 dX12_findPairCosts_248 rfl (lv_at hl 3 rfl) ?_
                          refine lv_imul S.1 S.2.1 dX12_findPairCosts_249 ?_
                          refine lv_iload_n S.1 S.2.1 dX12_findPairCosts_250 rfl (lv_at hl 4 rfl) ?_
                          refine lv_iadd S.1 S.2.1 dX12_findPairCosts_251 ?_
                          obtain ⟨hi_49, hf⟩ := rd_s hf
                          refine g_iald (n := 256) (f := m_way_44) S hN hw 6 hi_49 dX12_findPairCosts_252 rfl ?_
                          generalize m_way_44 (((16 * v2_38) + v3_43) : Int32).toNatClampNeg = y_50 at hf ⊢
                          obtain ⟨hi_50, hf⟩ := wr_s hf
                          refine g_iast (n := 256) (f := m_way_44) (w1 := [oC a_m 12 [.int m_nodes, .int m_made, .ref a_m_from, .ref a_m_to, .ref a_m_weighs, .ref a_m_alive, .ref a_m_ranks, .int m_known, .ref a_m_best, .ref a_m_most, .ref a_m_apart, .ref a_m_near, .ref a_m_worth, .ref a_m_mates, .ref a_m_sizes, .ref a_m_sums, .ref a_m_has, .ref a_m_sorts, .ref a_m_pieces, .int m_pieceCount, .int m_parts, .int m_halves, .ref a_m_inCover, .int m_coverSize, .int m_holdSet, .ref a_m_pairCost, .ref a_m_inJoin, .int m_hasJoin, .ref a_m_half, .ref a_m_way, .ref a_m_counts, .ref a_m_lastCounts, .ref a_m_openArc, .ref a_m_with, .ref a_m_tried, .int m_stables, .long m_firstSet], aI E a_m_from 60 m_from, aI E a_m_to 60 m_to, aI E a_m_weighs 60 m_weighs, aZ E a_m_alive 60 m_alive, aI E a_m_pairCost 65536 m_pairCost, aI E a_m_way 256 (va_up m_way_44 (((16 * v2_38) + v3_43) : Int32).toNatClampNeg y_50)]) S hN hw 6 hi_50 dX12_findPairCosts_253 rfl rfl (fun H locs hw => ?_)
                          generalize va_up m_way_44 (((16 * v2_38) + v3_43) : Int32).toNatClampNeg y_50 = m_way_51 at hf hw
                          refine lv_iinc (v := (v3_43 + 1)) (lv' := [(3, .int (v3_43 + 1)), (4, .int (y_46 + y_47)), (0, .ref a_m), (1, .int v1_33), (2, .int v2_38)]) S.1 S.2.1 dX12_findPairCosts_254 hl (k := 4) rfl rfl (by decide) rfl (fun ls hl => ?_)
                          refine lv_goto (tgt := 178) S.1 S.2.1 dX12_findPairCosts_257 (by decide) ?_
                          exact ih (v3_43 + 1) m_way_51 _ _ _ hw (lv_sub hl [2, 3, 4, 0] rfl) hf
                        · replace hf := if_f h_49 hf
                          refine lv_iload S.1 S.2.1 dX12_findPairCosts_237 (lv_at hl 0 rfl) ?_
                          refine lv_goto (tgt := 253) S.1 S.2.1 dX12_findPairCosts_239 (by decide) ?_
                          obtain ⟨hi_51, hf⟩ := wr_s hf
                          refine g_iast (n := 256) (f := m_way_44) (w1 := [oC a_m 12 [.int m_nodes, .int m_made, .ref a_m_from, .ref a_m_to, .ref a_m_weighs, .ref a_m_alive, .ref a_m_ranks, .int m_known, .ref a_m_best, .ref a_m_most, .ref a_m_apart, .ref a_m_near, .ref a_m_worth, .ref a_m_mates, .ref a_m_sizes, .ref a_m_sums, .ref a_m_has, .ref a_m_sorts, .ref a_m_pieces, .int m_pieceCount, .int m_parts, .int m_halves, .ref a_m_inCover, .int m_coverSize, .int m_holdSet, .ref a_m_pairCost, .ref a_m_inJoin, .int m_hasJoin, .ref a_m_half, .ref a_m_way, .ref a_m_counts, .ref a_m_lastCounts, .ref a_m_openArc, .ref a_m_with, .ref a_m_tried, .int m_stables, .long m_firstSet], aI E a_m_from 60 m_from, aI E a_m_to 60 m_to, aI E a_m_weighs 60 m_weighs, aZ E a_m_alive 60 m_alive, aI E a_m_pairCost 65536 m_pairCost, aI E a_m_way 256 (va_up m_way_44 (((16 * v2_38) + v3_43) : Int32).toNatClampNeg (y_46 + y_47))]) S hN hw 6 hi_51 dX12_findPairCosts_253 rfl rfl (fun H locs hw => ?_)
                          generalize va_up m_way_44 (((16 * v2_38) + v3_43) : Int32).toNatClampNeg (y_46 + y_47) = m_way_52 at hf hw
                          refine lv_iinc (v := (v3_43 + 1)) (lv' := [(3, .int (v3_43 + 1)), (4, .int (y_46 + y_47)), (0, .ref a_m), (1, .int v1_33), (2, .int v2_38)]) S.1 S.2.1 dX12_findPairCosts_254 hl (k := 4) rfl rfl (by decide) rfl (fun ls hl => ?_)
                          refine lv_goto (tgt := 178) S.1 S.2.1 dX12_findPairCosts_257 (by decide) ?_
                          exact ih (v3_43 + 1) m_way_52 _ _ _ hw (lv_sub hl [2, 3, 4, 0] rfl) hf
                  exact hL_178_52 F 0 m_way_39 _ _ _ hw (lv_sub hl [1, 2, 3, 0] rfl) hf
            exact hL_168_53 F 0 m_way_34 _ _ _ hw (lv_sub hl [1, 2, 0] rfl) hf
      exact hL_158_54 F 0 m_way_2 _ _ _ hw (lv_sub hl [1, 0] rfl) hf
    have hL_52_72 : ∀ (n : Nat) (v1_57 : Int32) (m_way_58 : Nat → Int32) (H : Heap) (locs : List Loc) (ls : Array Slot), Wo E A s [oC a_m 12 [.int m_nodes, .int m_made, .ref a_m_from, .ref a_m_to, .ref a_m_weighs, .ref a_m_alive, .ref a_m_ranks, .int m_known, .ref a_m_best, .ref a_m_most, .ref a_m_apart, .ref a_m_near, .ref a_m_worth, .ref a_m_mates, .ref a_m_sizes, .ref a_m_sums, .ref a_m_has, .ref a_m_sorts, .ref a_m_pieces, .int m_pieceCount, .int m_parts, .int m_halves, .ref a_m_inCover, .int m_coverSize, .int m_holdSet, .ref a_m_pairCost, .ref a_m_inJoin, .int m_hasJoin, .ref a_m_half, .ref a_m_way, .ref a_m_counts, .ref a_m_lastCounts, .ref a_m_openArc, .ref a_m_with, .ref a_m_tried, .int m_stables, .long m_firstSet], aI E a_m_from 60 m_from, aI E a_m_to 60 m_to, aI E a_m_weighs 60 m_weighs, aZ E a_m_alive 60 m_alive, aI E a_m_pairCost 65536 m_pairCost, aI E a_m_way 256 m_way_58] H locs → lv_has ls 7 [(0, .ref a_m), (1, .int v1_57)] → f_X12_findPairCosts_L52 m_made m_from m_to m_weighs m_alive kk_156_55 n v1_57 m_way_58 = some (u_m_pairCost, u_m_way) → W p l e (Rm 1) s m (([.ref a_m] : List Value).toArray) below meth c H locs 0 0 Q (F0 m 52 ls []) := by
      intro n
      induction n with
      | zero => intro v1_57 m_way_58 H locs ls hw hl hf; unfold f_X12_findPairCosts_L52 at hf; cases hf
      | succ n ih =>
        intro v1_57 m_way_58 H locs ls hw hl hf
        unfold f_X12_findPairCosts_L52 at hf
        refine lv_iload_n S.1 S.2.1 dX12_findPairCosts_52 rfl (lv_at hl 1 rfl) ?_
        refine lv_aload_n S.1 S.2.1 dX12_findPairCosts_53 rfl (lv_at hl 0 rfl) ?_
        refine g_get S hN hw (C := RX12) (T := TX12) (N := 37) (ci := 12) (v := .int m_made) 0 1 iX12 k97 dX12_findPairCosts_54 rfl rfl (by decide) rfl ?_
        refine lv_icmp_ge (tgt := 156) S.1 S.2.1 dX12_findPairCosts_57 (by decide) (fun h_59 => ?_) (fun h_59 => ?_)
        · replace hf := if_t h_59 hf
          exact hJ_kk_156_55 m_way_58 _ _ _ hw (lv_sub hl [0] rfl) hf
        · replace hf := if_f h_59 hf
          refine lv_aload_n S.1 S.2.1 dX12_findPairCosts_60 rfl (lv_at hl 0 rfl) ?_
          refine g_get S hN hw (C := RX12) (T := TX12) (N := 37) (ci := 12) (v := .ref a_m_weighs) 0 4 iX12 k16 dX12_findPairCosts_61 rfl rfl (by decide) rfl ?_
          refine lv_iload_n S.1 S.2.1 dX12_findPairCosts_64 rfl (lv_at hl 1 rfl) ?_
          obtain ⟨hi_59, hf⟩ := rd_s hf
          refine g_iald (n := 60) (f := m_weighs) S hN hw 3 hi_59 dX12_findPairCosts_65 rfl ?_
          generalize m_weighs (v1_57 : Int32).toNatClampNeg = y_60 at hf ⊢
          refine lv_bipush (v := 64) S.1 S.2.1 dX12_findPairCosts_66 (by decide) ?_
          refine lv_imul S.1 S.2.1 dX12_findPairCosts_68 ?_
          refine lv_iconst (v := 1) S.1 S.2.1 dX12_findPairCosts_69 (by decide) ?_
          refine lv_iadd S.1 S.2.1 dX12_findPairCosts_70 ?_
          refine lv_istore_n (lv' := [(2, .int ((y_60 * 64) + 1)), (0, .ref a_m), (1, .int v1_57)]) S.1 S.2.1 dX12_findPairCosts_71 rfl hl (by decide) rfl (fun ls hl => ?_)
          refine lv_aload_n S.1 S.2.1 dX12_findPairCosts_72 rfl (lv_at hl 1 rfl) ?_
          refine g_get S hN hw (C := RX12) (T := TX12) (N := 37) (ci := 12) (v := .ref a_m_alive) 0 5 iX12 k19 dX12_findPairCosts_73 rfl rfl (by decide) rfl ?_
          refine lv_iload_n S.1 S.2.1 dX12_findPairCosts_76 rfl (lv_at hl 2 rfl) ?_
          obtain ⟨hi_60, hf⟩ := rd_s hf
          refine g_zald (n := 60) (f := m_alive) S hN hw 4 hi_60 dX12_findPairCosts_77 rfl ?_
          generalize m_alive (v1_57 : Int32).toNatClampNeg = y_61 at hf ⊢
          refine lv_if_eq (tgt := 150) S.1 S.2.1 dX12_findPairCosts_78 (by decide) (fun h_62 => ?_) (fun h_62 => ?_)
          · replace hf := if_t h_62 hf
            refine lv_iinc (v := (v1_57 + 1)) (lv' := [(1, .int (v1_57 + 1)), (2, .int ((y_60 * 64) + 1)), (0, .ref a_m)]) S.1 S.2.1 dX12_findPairCosts_150 hl (k := 2) rfl rfl (by decide) rfl (fun ls hl => ?_)
            refine lv_goto (tgt := 52) S.1 S.2.1 dX12_findPairCosts_153 (by decide) ?_
            exact ih (v1_57 + 1) m_way_58 _ _ _ hw (lv_sub hl [2, 0] rfl) hf
          · replace hf := if_f h_62 hf
            refine lv_iload_n S.1 S.2.1 dX12_findPairCosts_81 rfl (lv_at hl 0 rfl) ?_
            refine lv_aload_n S.1 S.2.1 dX12_findPairCosts_82 rfl (lv_at hl 1 rfl) ?_
            refine g_get S hN hw (C := RX12) (T := TX12) (N := 37) (ci := 12) (v := .ref a_m_way) 0 29 iX12 k73 dX12_findPairCosts_83 rfl rfl (by decide) rfl ?_
            refine lv_bipush (v := 16) S.1 S.2.1 dX12_findPairCosts_86 (by decide) ?_
            refine lv_aload_n S.1 S.2.1 dX12_findPairCosts_88 rfl (lv_at hl 1 rfl) ?_
            refine g_get S hN hw (C := RX12) (T := TX12) (N := 37) (ci := 12) (v := .ref a_m_from) 0 2 iX12 k7 dX12_findPairCosts_89 rfl rfl (by decide) rfl ?_
            refine lv_iload_n S.1 S.2.1 dX12_findPairCosts_92 rfl (lv_at hl 2 rfl) ?_
            obtain ⟨hi_62, hf⟩ := rd_s hf
            refine g_iald (n := 60) (f := m_from) S hN hw 1 hi_62 dX12_findPairCosts_93 rfl ?_
            generalize m_from (v1_57 : Int32).toNatClampNeg = y_63 at hf ⊢
            refine lv_imul S.1 S.2.1 dX12_findPairCosts_94 ?_
            refine lv_aload_n S.1 S.2.1 dX12_findPairCosts_95 rfl (lv_at hl 1 rfl) ?_
            refine g_get S hN hw (C := RX12) (T := TX12) (N := 37) (ci := 12) (v := .ref a_m_to) 0 3 iX12 k13 dX12_findPairCosts_96 rfl rfl (by decide) rfl ?_
            refine lv_iload_n S.1 S.2.1 dX12_findPairCosts_99 rfl (lv_at hl 2 rfl) ?_
            obtain ⟨hi_63, hf⟩ := rd_s hf
            refine g_iald (n := 60) (f := m_to) S hN hw 2 hi_63 dX12_findPairCosts_100 rfl ?_
            generalize m_to (v1_57 : Int32).toNatClampNeg = y_64 at hf ⊢
            refine lv_iadd S.1 S.2.1 dX12_findPairCosts_101 ?_
            obtain ⟨hi_64, hf⟩ := rd_s hf
            refine g_iald (n := 256) (f := m_way_58) S hN hw 6 hi_64 dX12_findPairCosts_102 rfl ?_
            generalize m_way_58 (((16 * y_63) + y_64) : Int32).toNatClampNeg = y_65 at hf ⊢
            refine lv_icmp_ge (tgt := 150) S.1 S.2.1 dX12_findPairCosts_103 (by decide) (fun h_66 => ?_) (fun h_66 => ?_)
            · replace hf := if_t h_66 hf
              refine lv_iinc (v := (v1_57 + 1)) (lv' := [(1, .int (v1_57 + 1)), (2, .int ((y_60 * 64) + 1)), (0, .ref a_m)]) S.1 S.2.1 dX12_findPairCosts_150 hl (k := 2) rfl rfl (by decide) rfl (fun ls hl => ?_)
              refine lv_goto (tgt := 52) S.1 S.2.1 dX12_findPairCosts_153 (by decide) ?_
              exact ih (v1_57 + 1) m_way_58 _ _ _ hw (lv_sub hl [2, 0] rfl) hf
            · replace hf := if_f h_66 hf
              refine lv_aload_n S.1 S.2.1 dX12_findPairCosts_106 rfl (lv_at hl 1 rfl) ?_
              refine g_get S hN hw (C := RX12) (T := TX12) (N := 37) (ci := 12) (v := .ref a_m_way) 0 29 iX12 k73 dX12_findPairCosts_107 rfl rfl (by decide) rfl ?_
              refine lv_bipush (v := 16) S.1 S.2.1 dX12_findPairCosts_110 (by decide) ?_
              refine lv_aload_n S.1 S.2.1 dX12_findPairCosts_112 rfl (lv_at hl 1 rfl) ?_
              refine g_get S hN hw (C := RX12) (T := TX12) (N := 37) (ci := 12) (v := .ref a_m_from) 0 2 iX12 k7 dX12_findPairCosts_113 rfl rfl (by decide) rfl ?_
              refine lv_iload_n S.1 S.2.1 dX12_findPairCosts_116 rfl (lv_at hl 2 rfl) ?_
              obtain ⟨hi_66, hf⟩ := rd_s hf
              refine g_iald (n := 60) (f := m_from) S hN hw 1 hi_66 dX12_findPairCosts_117 rfl ?_
              generalize m_from (v1_57 : Int32).toNatClampNeg = y_67 at hf ⊢
              refine lv_imul S.1 S.2.1 dX12_findPairCosts_118 ?_
              refine lv_aload_n S.1 S.2.1 dX12_findPairCosts_119 rfl (lv_at hl 1 rfl) ?_
              refine g_get S hN hw (C := RX12) (T := TX12) (N := 37) (ci := 12) (v := .ref a_m_to) 0 3 iX12 k13 dX12_findPairCosts_120 rfl rfl (by decide) rfl ?_
              refine lv_iload_n S.1 S.2.1 dX12_findPairCosts_123 rfl (lv_at hl 2 rfl) ?_
              obtain ⟨hi_67, hf⟩ := rd_s hf
              refine g_iald (n := 60) (f := m_to) S hN hw 2 hi_67 dX12_findPairCosts_124 rfl ?_
              generalize m_to (v1_57 : Int32).toNatClampNeg = y_68 at hf ⊢
              refine lv_iadd S.1 S.2.1 dX12_findPairCosts_125 ?_
              refine lv_iload_n S.1 S.2.1 dX12_findPairCosts_126 rfl (lv_at hl 0 rfl) ?_
              obtain ⟨hi_68, hf⟩ := wr_s hf
              refine g_iast (n := 256) (f := m_way_58) (w1 := [oC a_m 12 [.int m_nodes, .int m_made, .ref a_m_from, .ref a_m_to, .ref a_m_weighs, .ref a_m_alive, .ref a_m_ranks, .int m_known, .ref a_m_best, .ref a_m_most, .ref a_m_apart, .ref a_m_near, .ref a_m_worth, .ref a_m_mates, .ref a_m_sizes, .ref a_m_sums, .ref a_m_has, .ref a_m_sorts, .ref a_m_pieces, .int m_pieceCount, .int m_parts, .int m_halves, .ref a_m_inCover, .int m_coverSize, .int m_holdSet, .ref a_m_pairCost, .ref a_m_inJoin, .int m_hasJoin, .ref a_m_half, .ref a_m_way, .ref a_m_counts, .ref a_m_lastCounts, .ref a_m_openArc, .ref a_m_with, .ref a_m_tried, .int m_stables, .long m_firstSet], aI E a_m_from 60 m_from, aI E a_m_to 60 m_to, aI E a_m_weighs 60 m_weighs, aZ E a_m_alive 60 m_alive, aI E a_m_pairCost 65536 m_pairCost, aI E a_m_way 256 (va_up m_way_58 (((16 * y_67) + y_68) : Int32).toNatClampNeg ((y_60 * 64) + 1))]) S hN hw 6 hi_68 dX12_findPairCosts_127 rfl rfl (fun H locs hw => ?_)
              generalize va_up m_way_58 (((16 * y_67) + y_68) : Int32).toNatClampNeg ((y_60 * 64) + 1) = m_way_69 at hf hw
              refine lv_aload_n S.1 S.2.1 dX12_findPairCosts_128 rfl (lv_at hl 1 rfl) ?_
              refine g_get S hN hw (C := RX12) (T := TX12) (N := 37) (ci := 12) (v := .ref a_m_way) 0 29 iX12 k73 dX12_findPairCosts_129 rfl rfl (by decide) rfl ?_
              refine lv_bipush (v := 16) S.1 S.2.1 dX12_findPairCosts_132 (by decide) ?_
              refine lv_aload_n S.1 S.2.1 dX12_findPairCosts_134 rfl (lv_at hl 1 rfl) ?_
              refine g_get S hN hw (C := RX12) (T := TX12) (N := 37) (ci := 12) (v := .ref a_m_to) 0 3 iX12 k13 dX12_findPairCosts_135 rfl rfl (by decide) rfl ?_
              refine lv_iload_n S.1 S.2.1 dX12_findPairCosts_138 rfl (lv_at hl 2 rfl) ?_
              obtain ⟨hi_69, hf⟩ := rd_s hf
              refine g_iald (n := 60) (f := m_to) S hN hw 2 hi_69 dX12_findPairCosts_139 rfl ?_
              generalize m_to (v1_57 : Int32).toNatClampNeg = y_70 at hf ⊢
              refine lv_imul S.1 S.2.1 dX12_findPairCosts_140 ?_
              refine lv_aload_n S.1 S.2.1 dX12_findPairCosts_141 rfl (lv_at hl 1 rfl) ?_
              refine g_get S hN hw (C := RX12) (T := TX12) (N := 37) (ci := 12) (v := .ref a_m_from) 0 2 iX12 k7 dX12_findPairCosts_142 rfl rfl (by decide) rfl ?_
              refine lv_iload_n S.1 S.2.1 dX12_findPairCosts_145 rfl (lv_at hl 2 rfl) ?_
              obtain ⟨hi_70, hf⟩ := rd_s hf
              refine g_iald (n := 60) (f := m_from) S hN hw 1 hi_70 dX12_findPairCosts_146 rfl ?_
              generalize m_from (v1_57 : Int32).toNatClampNeg = y_71 at hf ⊢
              refine lv_iadd S.1 S.2.1 dX12_findPairCosts_147 ?_
              refine lv_iload_n S.1 S.2.1 dX12_findPairCosts_148 rfl (lv_at hl 0 rfl) ?_
              obtain ⟨hi_71, hf⟩ := wr_s hf
              refine g_iast (n := 256) (f := m_way_69) (w1 := [oC a_m 12 [.int m_nodes, .int m_made, .ref a_m_from, .ref a_m_to, .ref a_m_weighs, .ref a_m_alive, .ref a_m_ranks, .int m_known, .ref a_m_best, .ref a_m_most, .ref a_m_apart, .ref a_m_near, .ref a_m_worth, .ref a_m_mates, .ref a_m_sizes, .ref a_m_sums, .ref a_m_has, .ref a_m_sorts, .ref a_m_pieces, .int m_pieceCount, .int m_parts, .int m_halves, .ref a_m_inCover, .int m_coverSize, .int m_holdSet, .ref a_m_pairCost, .ref a_m_inJoin, .int m_hasJoin, .ref a_m_half, .ref a_m_way, .ref a_m_counts, .ref a_m_lastCounts, .ref a_m_openArc, .ref a_m_with, .ref a_m_tried, .int m_stables, .long m_firstSet], aI E a_m_from 60 m_from, aI E a_m_to 60 m_to, aI E a_m_weighs 60 m_weighs, aZ E a_m_alive 60 m_alive, aI E a_m_pairCost 65536 m_pairCost, aI E a_m_way 256 (va_up m_way_69 (((16 * y_70) + y_71) : Int32).toNatClampNeg ((y_60 * 64) + 1))]) S hN hw 6 hi_71 dX12_findPairCosts_149 rfl rfl (fun H locs hw => ?_)
              generalize va_up m_way_69 (((16 * y_70) + y_71) : Int32).toNatClampNeg ((y_60 * 64) + 1) = m_way_72 at hf hw
              refine lv_iinc (v := (v1_57 + 1)) (lv' := [(1, .int (v1_57 + 1)), (2, .int ((y_60 * 64) + 1)), (0, .ref a_m)]) S.1 S.2.1 dX12_findPairCosts_150 hl (k := 2) rfl rfl (by decide) rfl (fun ls hl => ?_)
              refine lv_goto (tgt := 52) S.1 S.2.1 dX12_findPairCosts_153 (by decide) ?_
              exact ih (v1_57 + 1) m_way_72 _ _ _ hw (lv_sub hl [2, 0] rfl) hf
    exact hL_52_72 F 0 m_way_1 _ _ _ hw (lv_sub hl [1, 0] rfl) hf
  have hL_2_86 : ∀ (n : Nat) (v1_75 : Int32) (m_way_76 : Nat → Int32) (H : Heap) (locs : List Loc) (ls : Array Slot), Wo E A s [oC a_m 12 [.int m_nodes, .int m_made, .ref a_m_from, .ref a_m_to, .ref a_m_weighs, .ref a_m_alive, .ref a_m_ranks, .int m_known, .ref a_m_best, .ref a_m_most, .ref a_m_apart, .ref a_m_near, .ref a_m_worth, .ref a_m_mates, .ref a_m_sizes, .ref a_m_sums, .ref a_m_has, .ref a_m_sorts, .ref a_m_pieces, .int m_pieceCount, .int m_parts, .int m_halves, .ref a_m_inCover, .int m_coverSize, .int m_holdSet, .ref a_m_pairCost, .ref a_m_inJoin, .int m_hasJoin, .ref a_m_half, .ref a_m_way, .ref a_m_counts, .ref a_m_lastCounts, .ref a_m_openArc, .ref a_m_with, .ref a_m_tried, .int m_stables, .long m_firstSet], aI E a_m_from 60 m_from, aI E a_m_to 60 m_to, aI E a_m_weighs 60 m_weighs, aZ E a_m_alive 60 m_alive, aI E a_m_pairCost 65536 m_pairCost, aI E a_m_way 256 m_way_76] H locs → lv_has ls 7 [(0, .ref a_m), (1, .int v1_75)] → f_X12_findPairCosts_L2 F kk_50_73 n v1_75 m_way_76 = some (u_m_pairCost, u_m_way) → W p l e (Rm 1) s m (([.ref a_m] : List Value).toArray) below meth c H locs 0 0 Q (F0 m 2 ls []) := by
    intro n
    induction n with
    | zero => intro v1_75 m_way_76 H locs ls hw hl hf; unfold f_X12_findPairCosts_L2 at hf; cases hf
    | succ n ih =>
      intro v1_75 m_way_76 H locs ls hw hl hf
      unfold f_X12_findPairCosts_L2 at hf
      refine lv_iload_n S.1 S.2.1 dX12_findPairCosts_2 rfl (lv_at hl 1 rfl) ?_
      refine lv_bipush (v := 16) S.1 S.2.1 dX12_findPairCosts_3 (by decide) ?_
      refine lv_icmp_ge (tgt := 50) S.1 S.2.1 dX12_findPairCosts_5 (by decide) (fun h_77 => ?_) (fun h_77 => ?_)
      · replace hf := if_t h_77 hf
        exact hJ_kk_50_73 m_way_76 _ _ _ hw (lv_sub hl [0] rfl) hf
      · replace hf := if_f h_77 hf
        refine lv_iconst (v := 0) S.1 S.2.1 dX12_findPairCosts_8 (by decide) ?_
        refine lv_istore_n (lv' := [(2, .int 0), (0, .ref a_m), (1, .int v1_75)]) S.1 S.2.1 dX12_findPairCosts_9 rfl hl (by decide) rfl (fun ls hl => ?_)
        obtain ⟨kk_44_78, ekk_44_78, hf⟩ := jn_s hf
        have hJ_kk_44_78 : ∀ (m_way_78 : Nat → Int32) (H : Heap) (locs : List Loc) (ls : Array Slot), Wo E A s [oC a_m 12 [.int m_nodes, .int m_made, .ref a_m_from, .ref a_m_to, .ref a_m_weighs, .ref a_m_alive, .ref a_m_ranks, .int m_known, .ref a_m_best, .ref a_m_most, .ref a_m_apart, .ref a_m_near, .ref a_m_worth, .ref a_m_mates, .ref a_m_sizes, .ref a_m_sums, .ref a_m_has, .ref a_m_sorts, .ref a_m_pieces, .int m_pieceCount, .int m_parts, .int m_halves, .ref a_m_inCover, .int m_coverSize, .int m_holdSet, .ref a_m_pairCost, .ref a_m_inJoin, .int m_hasJoin, .ref a_m_half, .ref a_m_way, .ref a_m_counts, .ref a_m_lastCounts, .ref a_m_openArc, .ref a_m_with, .ref a_m_tried, .int m_stables, .long m_firstSet], aI E a_m_from 60 m_from, aI E a_m_to 60 m_to, aI E a_m_weighs 60 m_weighs, aZ E a_m_alive 60 m_alive, aI E a_m_pairCost 65536 m_pairCost, aI E a_m_way 256 m_way_78] H locs → lv_has ls 7 [(0, .ref a_m), (1, .int v1_75)] → kk_44_78 m_way_78 = some (u_m_pairCost, u_m_way) → W p l e (Rm 1) s m (([.ref a_m] : List Value).toArray) below meth c H locs 0 0 Q (F0 m 44 ls []) := by
          intro m_way_78 H locs ls hw hl hf
          rw [ekk_44_78] at hf
          refine lv_iinc (v := (v1_75 + 1)) (lv' := [(1, .int (v1_75 + 1)), (0, .ref a_m)]) S.1 S.2.1 dX12_findPairCosts_44 hl (k := 1) rfl rfl (by decide) rfl (fun ls hl => ?_)
          refine lv_goto (tgt := 2) S.1 S.2.1 dX12_findPairCosts_47 (by decide) ?_
          exact ih (v1_75 + 1) m_way_78 _ _ _ hw (lv_sub hl [1, 0] rfl) hf
        have hL_10_85 : ∀ (n : Nat) (v2_80 : Int32) (m_way_81 : Nat → Int32) (H : Heap) (locs : List Loc) (ls : Array Slot), Wo E A s [oC a_m 12 [.int m_nodes, .int m_made, .ref a_m_from, .ref a_m_to, .ref a_m_weighs, .ref a_m_alive, .ref a_m_ranks, .int m_known, .ref a_m_best, .ref a_m_most, .ref a_m_apart, .ref a_m_near, .ref a_m_worth, .ref a_m_mates, .ref a_m_sizes, .ref a_m_sums, .ref a_m_has, .ref a_m_sorts, .ref a_m_pieces, .int m_pieceCount, .int m_parts, .int m_halves, .ref a_m_inCover, .int m_coverSize, .int m_holdSet, .ref a_m_pairCost, .ref a_m_inJoin, .int m_hasJoin, .ref a_m_half, .ref a_m_way, .ref a_m_counts, .ref a_m_lastCounts, .ref a_m_openArc, .ref a_m_with, .ref a_m_tried, .int m_stables, .long m_firstSet], aI E a_m_from 60 m_from, aI E a_m_to 60 m_to, aI E a_m_weighs 60 m_weighs, aZ E a_m_alive 60 m_alive, aI E a_m_pairCost 65536 m_pairCost, aI E a_m_way 256 m_way_81] H locs → lv_has ls 7 [(0, .ref a_m), (1, .int v1_75), (2, .int v2_80)] → f_X12_findPairCosts_L10 v1_75 kk_44_78 n v2_80 m_way_81 = some (u_m_pairCost, u_m_way) → W p l e (Rm 1) s m (([.ref a_m] : List Value).toArray) below meth c H locs 0 0 Q (F0 m 10 ls []) := by
          intro n
          induction n with
          | zero => intro v2_80 m_way_81 H locs ls hw hl hf; unfold f_X12_findPairCosts_L10 at hf; cases hf
          | succ n ih =>
            intro v2_80 m_way_81 H locs ls hw hl hf
            unfold f_X12_findPairCosts_L10 at hf
            refine lv_iload_n S.1 S.2.1 dX12_findPairCosts_10 rfl (lv_at hl 2 rfl) ?_
            refine lv_bipush (v := 16) S.1 S.2.1 dX12_findPairCosts_11 (by decide) ?_
            refine lv_icmp_ge (tgt := 44) S.1 S.2.1 dX12_findPairCosts_13 (by decide) (fun h_82 => ?_) (fun h_82 => ?_)
            · replace hf := if_t h_82 hf
              exact hJ_kk_44_78 m_way_81 _ _ _ hw (lv_sub hl [0, 1] rfl) hf
            · replace hf := if_f h_82 hf
              refine lv_aload_n S.1 S.2.1 dX12_findPairCosts_16 rfl (lv_at hl 0 rfl) ?_
              refine g_get S hN hw (C := RX12) (T := TX12) (N := 37) (ci := 12) (v := .ref a_m_way) 0 29 iX12 k73 dX12_findPairCosts_17 rfl rfl (by decide) rfl ?_
              refine lv_bipush (v := 16) S.1 S.2.1 dX12_findPairCosts_20 (by decide) ?_
              refine lv_iload_n S.1 S.2.1 dX12_findPairCosts_22 rfl (lv_at hl 1 rfl) ?_
              refine lv_imul S.1 S.2.1 dX12_findPairCosts_23 ?_
              refine lv_iload_n S.1 S.2.1 dX12_findPairCosts_24 rfl (lv_at hl 2 rfl) ?_
              refine lv_iadd S.1 S.2.1 dX12_findPairCosts_25 ?_
              refine lv_iload_n S.1 S.2.1 dX12_findPairCosts_26 rfl (lv_at hl 1 rfl) ?_
              refine lv_iload_n S.1 S.2.1 dX12_findPairCosts_27 rfl (lv_at hl 2 rfl) ?_
              refine lv_icmp_ne (tgt := 35) S.1 S.2.1 dX12_findPairCosts_28 (by decide) (fun h_83 => ?_) (fun h_83 => ?_)
              · replace hf := if_f h_83 hf
                refine lv_ldc (v := 1000000000) S.1 S.2.1 S.2.2.2.1 k143 dX12_findPairCosts_35 ?_
                obtain ⟨hi_83, hf⟩ := wr_s hf
                refine g_iast (n := 256) (f := m_way_81) (w1 := [oC a_m 12 [.int m_nodes, .int m_made, .ref a_m_from, .ref a_m_to, .ref a_m_weighs, .ref a_m_alive, .ref a_m_ranks, .int m_known, .ref a_m_best, .ref a_m_most, .ref a_m_apart, .ref a_m_near, .ref a_m_worth, .ref a_m_mates, .ref a_m_sizes, .ref a_m_sums, .ref a_m_has, .ref a_m_sorts, .ref a_m_pieces, .int m_pieceCount, .int m_parts, .int m_halves, .ref a_m_inCover, .int m_coverSize, .int m_holdSet, .ref a_m_pairCost, .ref a_m_inJoin, .int m_hasJoin, .ref a_m_half, .ref a_m_way, .ref a_m_counts, .ref a_m_lastCounts, .ref a_m_openArc, .ref a_m_with, .ref a_m_tried, .int m_stables, .long m_firstSet], aI E a_m_from 60 m_from, aI E a_m_to 60 m_to, aI E a_m_weighs 60 m_weighs, aZ E a_m_alive 60 m_alive, aI E a_m_pairCost 65536 m_pairCost, aI E a_m_way 256 (va_up m_way_81 (((16 * v1_75) + v2_80) : Int32).toNatClampNeg 1000000000)]) S hN hw 6 hi_83 dX12_findPairCosts_37 rfl rfl (fun H locs hw => ?_)
                generalize va_up m_way_81 (((16 * v1_75) + v2_80) : Int32).toNatClampNeg 1000000000 = m_way_84 at hf hw
                refine lv_iinc (v := (v2_80 + 1)) (lv' := [(2, .int (v2_80 + 1)), (0, .ref a_m), (1, .int v1_75)]) S.1 S.2.1 dX12_findPairCosts_38 hl (k := 2) rfl rfl (by decide) rfl (fun ls hl => ?_)
                refine lv_goto (tgt := 10) S.1 S.2.1 dX12_findPairCosts_41 (by decide) ?_
                exact ih (v2_80 + 1) m_way_84 _ _ _ hw (lv_sub hl [1, 2, 0] rfl) hf
              · replace hf := if_t h_83 hf
                refine lv_iconst (v := 0) S.1 S.2.1 dX12_findPairCosts_31 (by decide) ?_
                refine lv_goto (tgt := 37) S.1 S.2.1 dX12_findPairCosts_32 (by decide) ?_
                obtain ⟨hi_84, hf⟩ := wr_s hf
                refine g_iast (n := 256) (f := m_way_81) (w1 := [oC a_m 12 [.int m_nodes, .int m_made, .ref a_m_from, .ref a_m_to, .ref a_m_weighs, .ref a_m_alive, .ref a_m_ranks, .int m_known, .ref a_m_best, .ref a_m_most, .ref a_m_apart, .ref a_m_near, .ref a_m_worth, .ref a_m_mates, .ref a_m_sizes, .ref a_m_sums, .ref a_m_has, .ref a_m_sorts, .ref a_m_pieces, .int m_pieceCount, .int m_parts, .int m_halves, .ref a_m_inCover, .int m_coverSize, .int m_holdSet, .ref a_m_pairCost, .ref a_m_inJoin, .int m_hasJoin, .ref a_m_half, .ref a_m_way, .ref a_m_counts, .ref a_m_lastCounts, .ref a_m_openArc, .ref a_m_with, .ref a_m_tried, .int m_stables, .long m_firstSet], aI E a_m_from 60 m_from, aI E a_m_to 60 m_to, aI E a_m_weighs 60 m_weighs, aZ E a_m_alive 60 m_alive, aI E a_m_pairCost 65536 m_pairCost, aI E a_m_way 256 (va_up m_way_81 (((16 * v1_75) + v2_80) : Int32).toNatClampNeg 0)]) S hN hw 6 hi_84 dX12_findPairCosts_37 rfl rfl (fun H locs hw => ?_)
                generalize va_up m_way_81 (((16 * v1_75) + v2_80) : Int32).toNatClampNeg 0 = m_way_85 at hf hw
                refine lv_iinc (v := (v2_80 + 1)) (lv' := [(2, .int (v2_80 + 1)), (0, .ref a_m), (1, .int v1_75)]) S.1 S.2.1 dX12_findPairCosts_38 hl (k := 2) rfl rfl (by decide) rfl (fun ls hl => ?_)
                refine lv_goto (tgt := 10) S.1 S.2.1 dX12_findPairCosts_41 (by decide) ?_
                exact ih (v2_80 + 1) m_way_85 _ _ _ hw (lv_sub hl [1, 2, 0] rfl) hf
        exact hL_10_85 F 0 m_way_76 _ _ _ hw (lv_sub hl [1, 2, 0] rfl) hf
  exact hL_2_86 F 0 m_way _ _ _ hw (lv_sub hl [1, 0] rfl) hf
