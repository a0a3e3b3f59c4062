def f_X12_wants (p1 : Int32) (p2 : Int32) (m_ranks : Nat → Int32) (m_with : Nat → Int32) : Option (Int32) :=
  rd 16 m_with p1 (fun y_1 => (if y_1 < 0 then some 1 else rd 256 m_ranks ((16 * p1) + p2) (fun y_4 => rd 16 m_with p1 (fun y_5 => rd 256 m_ranks ((16 * p1) + y_5) (fun y_6 => (if y_6 ≤ y_4 then some 0 else some 1))))))
set_option maxHeartbeats 4000000 in
set_option maxRecDepth 100000 in
theorem c_X12_wants (l : Launch) (E : Ev) (m_nodes : Int32) (m_made : Int32) (a_m_from : Nat) (a_m_to : Nat) (a_m_weighs : Nat) (a_m_alive : Nat) (m_ranks : Nat → Int32) (a_m_ranks : Nat) (m_known : Int32) (a_m_best : Nat) (a_m_most : Nat) (a_m_apart : Nat) (a_m_near : Nat) (a_m_worth : Nat) (a_m_mates : Nat) (a_m_sizes : Nat) (a_m_sums : Nat) (a_m_has : Nat) (a_m_sorts : Nat) (a_m_pieces : Nat) (m_pieceCount : Int32) (m_parts : Int32) (m_halves : Int32) (a_m_inCover : Nat) (m_coverSize : Int32) (m_holdSet : Int32) (a_m_pairCost : Nat) (a_m_inJoin : Nat) (m_hasJoin : Int32) (a_m_half : Nat) (a_m_way : Nat) (a_m_counts : Nat) (a_m_lastCounts : Nat) (a_m_openArc : Nat) (m_with : Nat → Int32) (a_m_with : Nat) (a_m_tried : Nat) (m_stables : Int32) (m_firstSet : Int64) (a_m : Nat) (p1 : Int32) (p2 : Int32) (ro : Int32) (hf : f_X12_wants p1 p2 m_ranks m_with = some ro) :
    CtI l yX12_wants wsX12_wants (Rm 0) E [.ref a_m, .int p1, .int p2] [oC a_m 12 [.int m_nodes, .int m_made, .ref a_m_from, .ref a_m_to, .ref a_m_weighs, .ref a_m_alive, .ref a_m_ranks, .int m_known, .ref a_m_best, .ref a_m_most, .ref a_m_apart, .ref a_m_near, .ref a_m_worth, .ref a_m_mates, .ref a_m_sizes, .ref a_m_sums, .ref a_m_has, .ref a_m_sorts, .ref a_m_pieces, .int m_pieceCount, .int m_parts, .int m_halves, .ref a_m_inCover, .int m_coverSize, .int m_holdSet, .ref a_m_pairCost, .ref a_m_inJoin, .int m_hasJoin, .ref a_m_half, .ref a_m_way, .ref a_m_counts, .ref a_m_lastCounts, .ref a_m_openArc, .ref a_m_with, .ref a_m_tried, .int m_stables, .long m_firstSet], aI E a_m_ranks 256 m_ranks, aI E a_m_with 16 m_with] ro [oC a_m 12 [.int m_nodes, .int m_made, .ref a_m_from, .ref a_m_to, .ref a_m_weighs, .ref a_m_alive, .ref a_m_ranks, .int m_known, .ref a_m_best, .ref a_m_most, .ref a_m_apart, .ref a_m_near, .ref a_m_worth, .ref a_m_mates, .ref a_m_sizes, .ref a_m_sums, .ref a_m_has, .ref a_m_sorts, .ref a_m_pieces, .int m_pieceCount, .int m_parts, .int m_halves, .ref a_m_inCover, .int m_coverSize, .int m_holdSet, .ref a_m_pairCost, .ref a_m_inJoin, .int m_hasJoin, .ref a_m_half, .ref a_m_way, .ref a_m_counts, .ref a_m_lastCounts, .ref a_m_openArc, .ref a_m_with, .ref a_m_tried, .int m_stables, .long m_firstSet], aI E a_m_ranks 256 m_ranks, aI E a_m_with 16 m_with] := by
  refine ofZ (cc := cX12_wants) (maxL := 3) (own := RX12) rfl rfl (by decide) rfl rfl ?_
  intro p e s m below meth c A ls Q S hnm hN hw hA hl0 hE
  have hE2 : ∀ (H : Heap) (locs : List Loc) (pc : Nat) (ls : Array Slot) (r' : Int32) (w' : va_W), Wo E A s w' H locs → w' = [oC a_m 12 [.int m_nodes, .int m_made, .ref a_m_from, .ref a_m_to, .ref a_m_weighs, .ref a_m_alive, .ref a_m_ranks, .int m_known, .ref a_m_best, .ref a_m_most, .ref a_m_apart, .ref a_m_near, .ref a_m_worth, .ref a_m_mates, .ref a_m_sizes, .ref a_m_sums, .ref a_m_has, .ref a_m_sorts, .ref a_m_pieces, .int m_pieceCount, .int m_parts, .int m_halves, .ref a_m_inCover, .int m_coverSize, .int m_holdSet, .ref a_m_pairCost, .ref a_m_inJoin, .int m_hasJoin, .ref a_m_half, .ref a_m_way, .ref a_m_counts, .ref a_m_lastCounts, .ref a_m_openArc, .ref a_m_with, .ref a_m_tried, .int m_stables, .long m_firstSet], aI E a_m_ranks 256 m_ranks, aI E a_m_with 16 m_with] → r' = ro → decode cX12_wants pc = .ok (.ireturn, 1) → r' &&& 1 = r' → W p l e (Rm 0) s m (([.ref a_m, .int p1, .int p2] : List Value).toArray) below meth c H locs 0 0 Q (F0 m pc ls [.int r']) := by
    intro H locs pc ls r' w' hw e1 e2 hd hz
    subst e1
    subst e2
    exact hE H locs pc ls hw hd hz
  have hl : lv_has ls 3 [(0, .ref a_m), (1, .int p1), (2, .int p2)] := hl0 _ (lv_entry [.ref a_m, .int p1, .int p2] (n := 3) (Nat.le_of_ble_eq_true rfl))
  have iX12 : ∀ w ∈ wsX120, w ∈ wsX12_wants := by decide +kernel
  have k23 := S.2.2.2.2 (.fieldLink RX12 23 "PairMatchingModel" "ranks" "[I") (by decide +kernel)
  have k86 := S.2.2.2.2 (.fieldLink RX12 86 "PairMatchingModel" "with" "[I") (by decide +kernel)
  unfold f_X12_wants at hf
  refine lv_aload_n S.1 S.2.1 dX12_wants_0 rfl (lv_at hl 0 rfl) ?_
  refine g_get S hN hw (C := RX12) (T := TX12) (N := 37) (ci := 12) (v := .ref a_m_with) 0 33 iX12 k86 dX12_wants_1 rfl rfl (by decide) rfl ?_
  refine lv_iload_n S.1 S.2.1 dX12_wants_4 rfl (lv_at hl 1 rfl) ?_
  obtain ⟨hi_0, hf⟩ := rd_s hf
  refine g_iald (n := 16) (f := m_with) S hN hw 2 hi_0 dX12_wants_5 rfl ?_
  generalize m_with (p1 : Int32).toNatClampNeg = y_1 at hf ⊢
  refine lv_if_lt (tgt := 39) S.1 S.2.1 dX12_wants_6 (by decide) (fun h_2 => ?_) (fun h_2 => ?_)
  · replace hf := if_t h_2 hf
    refine lv_iconst (v := 1) S.1 S.2.1 dX12_wants_39 (by decide) ?_
    refine lv_goto (tgt := 44) S.1 S.2.1 dX12_wants_40 (by decide) ?_
    have e_3 := Option.some.inj hf
    exact hE2 _ _ _ _ _ _ hw rfl e_3 dX12_wants_44 (by decide)
  · replace hf := if_f h_2 hf
    refine lv_aload_n S.1 S.2.1 dX12_wants_9 rfl (lv_at hl 0 rfl) ?_
    refine g_get S hN hw (C := RX12) (T := TX12) (N := 37) (ci := 12) (v := .ref a_m_ranks) 0 6 iX12 k23 dX12_wants_10 rfl rfl (by decide) rfl ?_
    refine lv_bipush (v := 16) S.1 S.2.1 dX12_wants_13 (by decide) ?_
    refine lv_iload_n S.1 S.2.1 dX12_wants_15 rfl (lv_at hl 1 rfl) ?_
    refine lv_imul S.1 S.2.1 dX12_wants_16 ?_
    refine lv_iload_n S.1 S.2.1 dX12_wants_17 rfl (lv_at hl 2 rfl) ?_
    refine lv_iadd S.1 S.2.1 dX12_wants_18 ?_
    obtain ⟨hi_3, hf⟩ := rd_s hf
    refine g_iald (n := 256) (f := m_ranks) S hN hw 1 hi_3 dX12_wants_19 rfl ?_
    generalize m_ranks (((16 * p1) + p2) : Int32).toNatClampNeg = y_4 at hf ⊢
    refine lv_aload_n S.1 S.2.1 dX12_wants_20 rfl (lv_at hl 0 rfl) ?_
    refine g_get S hN hw (C := RX12) (T := TX12) (N := 37) (ci := 12) (v := .ref a_m_ranks) 0 6 iX12 k23 dX12_wants_21 rfl rfl (by decide) rfl ?_
    refine lv_bipush (v := 16) S.1 S.2.1 dX12_wants_24 (by decide) ?_
    refine lv_iload_n S.1 S.2.1 dX12_wants_26 rfl (lv_at hl 1 rfl) ?_
    refine lv_imul S.1 S.2.1 dX12_wants_27 ?_
    refine lv_aload_n S.1 S.2.1 dX12_wants_28 rfl (lv_at hl 0 rfl) ?_
    refine g_get S hN hw (C := RX12) (T := TX12) (N := 37) (ci := 12) (v := .ref a_m_with) 0 33 iX12 k86 dX12_wants_29 rfl rfl (by decide) rfl ?_
    refine lv_iload_n S.1 S.2.1 dX12_wants_32 rfl (lv_at hl 1 rfl) ?_
    obtain ⟨hi_4, hf⟩ := rd_s hf
    refine g_iald (n := 16) (f := m_with) S hN hw 2 hi_4 dX12_wants_33 rfl ?_
    generalize m_with (p1 : Int32).toNatClampNeg = y_5 at hf ⊢
    refine lv_iadd S.1 S.2.1 dX12_wants_34 ?_
    obtain ⟨hi_5, hf⟩ := rd_s hf
    refine g_iald (n := 256) (f := m_ranks) S hN hw 1 hi_5 dX12_wants_35 rfl ?_
    generalize m_ranks (((16 * p1) + y_5) : Int32).toNatClampNeg = y_6 at hf ⊢
    refine lv_icmp_ge (tgt := 43) S.1 S.2.1 dX12_wants_36 (by decide) (fun h_7 => ?_) (fun h_7 => ?_)
    · replace hf := if_t h_7 hf
      refine lv_iconst (v := 0) S.1 S.2.1 dX12_wants_43 (by decide) ?_
      have e_8 := Option.some.inj hf
      exact hE2 _ _ _ _ _ _ hw rfl e_8 dX12_wants_44 (by decide)
    · replace hf := if_f h_7 hf
      refine lv_iconst (v := 1) S.1 S.2.1 dX12_wants_39 (by decide) ?_
      refine lv_goto (tgt := 44) S.1 S.2.1 dX12_wants_40 (by decide) ?_
      have e_9 := Option.some.inj hf
      exact hE2 _ _ _ _ _ _ hw rfl e_9 dX12_wants_44 (by decide)
def f_X12_judge_L48 (m_nodes : Int32) (m_ranks : Nat → Int32) (m_openArc : Nat → Int32) (m_with : Nat → Int32) (m_stables : Int32) (m_firstSet : Int64) (v3_10 : Int32) (kk_99_14 : Option (Int32 × Int64)) : Nat → Int32 → Option (Int32 × Int64)
  | 0, _ => none
  | n + 1, v4_16 => (if m_nodes ≤ v4_16 then (kk_99_14) else rd 256 m_openArc ((16 * v3_10) + v4_16) (fun y_18 => (if y_18 < 0 then (f_X12_judge_L48 m_nodes m_ranks m_openArc m_with m_stables m_firstSet v3_10 kk_99_14 n (v4_16 + 1)) else (f_X12_wants v3_10 v4_16 m_ranks m_with).bind (fun r_20 => (if r_20 = 0 then (f_X12_judge_L48 m_nodes m_ranks m_openArc m_with m_stables m_firstSet v3_10 kk_99_14 n (v4_16 + 1)) else (f_X12_wants v4_16 v3_10 m_ranks m_with).bind (fun r_23 => (if r_23 = 0 then (f_X12_judge_L48 m_nodes m_ranks m_openArc m_with m_stables m_firstSet v3_10 kk_99_14 n (v4_16 + 1)) else some (m_stables, m_firstSet))))))))
def f_X12_judge_L4 (F : Nat) (m_nodes : Int32) (m_ranks : Nat → Int32) (m_openArc : Nat → Int32) (m_with : Nat → Int32) (m_stables : Int32) (m_firstSet : Int64) (kk_105_7 : Int64 → Option (Int32 × Int64)) : Nat → Int64 → Int32 → Option (Int32 × Int64)
  | 0, _, _ => none
  | n + 1, v1_9, v3_10 => (if m_nodes ≤ v3_10 then (kk_105_7 v1_9) else rd 16 m_with v3_10 (fun y_12 => (jn (fun (v1_13 : Int64) => (jn ((f_X12_judge_L4 F m_nodes m_ranks m_openArc m_with m_stables m_firstSet kk_105_7 n v1_13 (v3_10 + 1))) (fun kk_99_14 => (f_X12_judge_L48 m_nodes m_ranks m_openArc m_with m_stables m_firstSet v3_10 kk_99_14 F (v3_10 + 1))))) (fun jj_43_13 => (if y_12 ≤ v3_10 then (jj_43_13 v1_9) else rd 16 m_with v3_10 (fun y_30 => rd 256 m_openArc ((16 * v3_10) + y_30) (fun y_31 => (jj_43_13 (v1_9 ||| ((1 : Int64) <<< ((y_31 : Int32).toInt64 &&& 63)))))))))))
def f_X12_judge (F : Nat) (m_nodes : Int32) (m_ranks : Nat → Int32) (m_openArc : Nat → Int32) (m_with : Nat → Int32) (m_stables : Int32) (m_firstSet : Int64) : Option (Int32 × Int64) :=
  (jn (fun (v1_1 : Int64) => (jn (fun (m_firstSet_2 : Int64) => some ((m_stables + 1), m_firstSet_2)) (fun jj_135_2 => (if m_stables = 0 then (jj_135_2 v1_1) else (if (lg_cmp ((v1_1 &&& (v1_1 ^^^ m_firstSet)) &&& (-(v1_1 ^^^ m_firstSet))) (0 : Int64)) = 0 then (jj_135_2 m_firstSet) else (jj_135_2 v1_1)))))) (fun kk_105_7 => (f_X12_judge_L4 F m_nodes m_ranks m_openArc m_with m_stables m_firstSet kk_105_7 F (0 : Int64) 0)))
set_option maxHeartbeats 4000000 in
set_option maxRecDepth 100000 in
theorem c_X12_judge (l : Launch) (E : Ev) (F : Nat) (m_nodes : Int32) (m_made : Int32) (a_m_from : Nat) (a_m_to : Nat) (a_m_weighs : Nat) (a_m_alive : Nat) (m_ranks : Nat → Int32) (a_m_ranks : Nat) (m_known : Int32) (a_m_best : Nat) (a_m_most : Nat) (a_m_apart : Nat) (a_m_near : Nat) (a_m_worth : Nat) (a_m_mates : Nat) (a_m_sizes : Nat) (a_m_sums : Nat) (a_m_has : Nat) (a_m_sorts : Nat) (a_m_pieces : Nat) (m_pieceCount : Int32) (m_parts : Int32) (m_halves : Int32) (a_m_inCover : Nat) (m_coverSize : Int32) (m_holdSet : Int32) (a_m_pairCost : Nat) (a_m_inJoin : Nat) (m_hasJoin : Int32) (a_m_half : Nat) (a_m_way : Nat) (a_m_counts : Nat) (a_m_lastCounts : Nat) (m_openArc : Nat → Int32) (a_m_openArc : Nat) (m_with : Nat → Int32) (a_m_with : Nat) (a_m_tried : Nat) (m_stables : Int32) (m_firstSet : Int64) (a_m : Nat) (u_m_stables : Int32) (u_m_firstSet : Int64) (hf : f_X12_judge F m_nodes m_ranks m_openArc m_with m_stables m_firstSet = some (u_m_stables, u_m_firstSet)) :
    CtV l yX12_judge wsX12_judge (Rm 1) E [.ref a_m] [oC a_m 12 [.int m_nodes, .int m_made, .ref a_m_from, .ref a_m_to, .ref a_m_weighs, .ref a_m_alive, .ref a_m_ranks, .int m_known, .ref a_m_best, .ref a_m_most, .ref a_m_apart, .ref a_m_near, .ref a_m_worth, .ref a_m_mates, .ref a_m_sizes, .ref a_m_sums, .ref a_m_has, .ref a_m_sorts, .ref a_m_pieces, .int m_pieceCount, .int m_parts, .int m_halves, .ref a_m_inCover, .int m_coverSize, .int m_holdSet, .ref a_m_pairCost, .ref a_m_inJoin, .int m_hasJoin, .ref a_m_half, .ref a_m_way, .ref a_m_counts, .ref a_m_lastCounts, .ref a_m_openArc, .ref a_m_with, .ref a_m_tried, .int m_stables, .long m_firstSet], aI E a_m_ranks 256 m_ranks, aI E a_m_openArc 256 m_openArc, aI E a_m_with 16 m_with] [oC a_m 12 [.int m_nodes, .int m_made, .ref a_m_from, .ref a_m_to, .ref a_m_weighs, .ref a_m_alive, .ref a_m_ranks, .int m_known, .ref a_m_best, .ref a_m_most, .ref a_m_apart, .ref a_m_near, .ref a_m_worth, .ref a_m_mates, .ref a_m_sizes, .ref a_m_sums, .ref a_m_has, .ref a_m_sorts, .ref a_m_pieces, .int m_pieceCount, .int m_parts, .int m_halves, .ref a_m_inCover, .int m_coverSize, .int m_holdSet, .ref a_m_pairCost, .ref a_m_inJoin, .int m_hasJoin, .ref a_m_half, .ref a_m_way, .ref a_m_counts, .ref a_m_lastCounts, .ref a_m_openArc, .ref a_m_with, .ref a_m_tried, .int u_m_stables, .long u_m_firstSet], aI E a_m_ranks 256 m_ranks, aI E a_m_openArc 256 m_openArc, aI E a_m_with 16 m_with] := by
  refine ofV (cc := cX12_judge) (maxL := 5) (own := RX12) rfl rfl (by decide) rfl rfl ?_
  intro p e s m below meth c A ls Q S hnm hN hw hA hl0 hE
  have hE2 : ∀ (H : Heap) (locs : List Loc) (pc : Nat) (ls : Array Slot) (w' : va_W), Wo E A s w' H locs → w' = [oC a_m 12 [.int m_nodes, .int m_made, .ref a_m_from, .ref a_m_to, .ref a_m_weighs, .ref a_m_alive, .ref a_m_ranks, .int m_known, .ref a_m_best, .ref a_m_most, .ref a_m_apart, .ref a_m_near, .ref a_m_worth, .ref a_m_mates, .ref a_m_sizes, .ref a_m_sums, .ref a_m_has, .ref a_m_sorts, .ref a_m_pieces, .int m_pieceCount, .int m_parts, .int m_halves, .ref a_m_inCover, .int m_coverSize, .int m_holdSet, .ref a_m_pairCost, .ref a_m_inJoin, .int m_hasJoin, .ref a_m_half, .ref a_m_way, .ref a_m_counts, .ref a_m_lastCounts, .ref a_m_openArc, .ref a_m_with, .ref a_m_tried, .int u_m_stables, .long u_m_firstSet], aI E a_m_ranks 256 m_ranks, aI E a_m_openArc 256 m_openArc, aI E a_m_with 16 m_with] → decode cX12_judge pc = .ok (.return_, 1) → W p l e (Rm 1) s m (([.ref a_m] : List Value).toArray) below meth c H locs 0 0 Q (F0 m pc ls []) := by
    intro H locs pc ls w' hw e1 hd
    subst e1
    exact hE H locs pc ls hw hd
  have hl : lv_has ls 5 [(0, .ref a_m)] := hl0 _ (lv_entry [.ref a_m] (n := 5) (Nat.le_of_ble_eq_true rfl))
  have iX12 : ∀ w ∈ wsX120, w ∈ wsX12_judge := by decide +kernel
  have k185 := S.2.2.2.2 (.fieldLink RX12 185 "PairMatchingModel" "firstSet" "J") (by decide +kernel)
  have k189 := S.2.2.2.2 (.fieldLink RX12 189 "PairMatchingModel" "stables" "I") (by decide +kernel)
  have k83 := S.2.2.2.2 (.fieldLink RX12 83 "PairMatchingModel" "openArc" "[I") (by decide +kernel)
  have k86 := S.2.2.2.2 (.fieldLink RX12 86 "PairMatchingModel" "with" "[I") (by decide +kernel)
  have k92 := S.2.2.2.2 (.fieldLink RX12 92 "PairMatchingModel" "nodes" "I") (by decide +kernel)
  unfold f_X12_judge at hf
  refine lv_lconst (v := 0) S.1 S.2.1 dX12_judge_0 (by decide) ?_
  refine lv_lstore_n (lv' := [(1, .long (0 : Int64)), (0, .ref a_m)]) S.1 S.2.1 dX12_judge_1 rfl hl (by decide) rfl (fun ls hl => ?_)
  refine lv_iconst (v := 0) S.1 S.2.1 dX12_judge_2 (by decide) ?_
  refine lv_istore_n (lv' := [(3, .int 0), (1, .long (0 : Int64)), (0, .ref a_m)]) S.1 S.2.1 dX12_judge_3 rfl hl (by decide) rfl (fun ls hl => ?_)
  obtain ⟨kk_105_7, ekk_105_7, hf⟩ := jn_s hf
  have hJ_kk_105_7 : ∀ (v1_1 : Int64) (H : Heap) (locs : List Loc) (ls : Array Slot), Wo E A s [oC a_m 12 [.int m_nodes, .int m_made, .ref a_m_from, .ref a_m_to, .ref a_m_weighs, .ref a_m_alive, .ref a_m_ranks, .int m_known, .ref a_m_best, .ref a_m_most, .ref a_m_apart, .ref a_m_near, .ref a_m_worth, .ref a_m_mates, .ref a_m_sizes, .ref a_m_sums, .ref a_m_has, .ref a_m_sorts, .ref a_m_pieces, .int m_pieceCount, .int m_parts, .int m_halves, .ref a_m_inCover, .int m_coverSize, .int m_holdSet, .ref a_m_pairCost, .ref a_m_inJoin, .int m_hasJoin, .ref a_m_half, .ref a_m_way, .ref a_m_counts, .ref a_m_lastCounts, .ref a_m_openArc, .ref a_m_with, .ref a_m_tried, .int m_stables, .long m_firstSet], aI E a_m_ranks 256 m_ranks, aI E a_m_openArc 256 m_openArc, aI E a_m_with 16 m_with] H locs → lv_has ls 5 [(0, .ref a_m), (1, .long v1_1)] → kk_105_7 v1_1 = some (u_m_stables, u_m_firstSet) → W p l e (Rm 1) s m (([.ref a_m] : List Value).toArray) below meth c H locs 0 0 Q (F0 m 105 ls []) := by
    intro v1_1 H locs ls hw hl hf
    rw [ekk_105_7] at hf
    refine lv_lload_n S.1 S.2.1 dX12_judge_105 rfl (lv_at hl 1 rfl) ?_
    refine lv_aload_n S.1 S.2.1 dX12_judge_106 rfl (lv_at hl 0 rfl) ?_
    refine g_get S hN hw (C := RX12) (T := TX12) (N := 37) (ci := 12) (v := .long m_firstSet) 0 36 iX12 k185 dX12_judge_107 rfl rfl (by decide) rfl ?_
    refine lv_lxor S.1 S.2.1 dX12_judge_110 ?_
    refine lv_lstore_n (lv' := [(3, .long (v1_1 ^^^ m_firstSet)), (0, .ref a_m), (1, .long v1_1)]) S.1 S.2.1 dX12_judge_111 rfl hl (by decide) rfl (fun ls hl => ?_)
    refine lv_aload_n S.1 S.2.1 dX12_judge_112 rfl (lv_at hl 1 rfl) ?_
    refine g_get S hN hw (C := RX12) (T := TX12) (N := 37) (ci := 12) (v := .int m_stables) 0 35 iX12 k189 dX12_judge_113 rfl rfl (by decide) rfl ?_
    obtain ⟨jj_135_2, ejj_135_2, hf⟩ := jn_s hf
    have hJ_jj_135_2 : ∀ (m_firstSet_2 : Int64) (H : Heap) (locs : List Loc) (ls : Array Slot), Wo E A s [oC a_m 12 [.int m_nodes, .int m_made, .ref a_m_from, .ref a_m_to, .ref a_m_weighs, .ref a_m_alive, .ref a_m_ranks, .int m_known, .ref a_m_best, .ref a_m_most, .ref a_m_apart, .ref a_m_near, .ref a_m_worth, .ref a_m_mates, .ref a_m_sizes, .ref a_m_sums, .ref a_m_has, .ref a_m_sorts, .ref a_m_pieces, .int m_pieceCount, .int m_parts, .int m_halves, .ref a_m_inCover, .int m_coverSize, .int m_holdSet, .ref a_m_pairCost, .ref a_m_inJoin, .int m_hasJoin, .ref a_m_half, .ref a_m_way, .ref a_m_counts, .ref a_m_lastCounts, .ref a_m_openArc, .ref a_m_with, .ref a_m_tried, .int m_stables, .long m_firstSet_2], aI E a_m_ranks 256 m_ranks, aI E a_m_openArc 256 m_openArc, aI E a_m_with 16 m_with] H locs → lv_has ls 5 [(0, .ref a_m)] → jj_135_2 m_firstSet_2 = some (u_m_stables, u_m_firstSet) → W p l e (Rm 1) s m (([.ref a_m] : List Value).toArray) below meth c H locs 0 0 Q (F0 m 135 ls []) := by
      intro m_firstSet_2 H locs ls hw hl hf
      rw [ejj_135_2] at hf
      refine lv_aload_n S.1 S.2.1 dX12_judge_135 rfl (lv_at hl 0 rfl) ?_
      refine lv_dup S.1 S.2.1 dX12_judge_136 rfl ?_
      refine g_get S hN hw (C := RX12) (T := TX12) (N := 37) (ci := 12) (v := .int m_stables) 0 35 iX12 k189 dX12_judge_137 rfl rfl (by decide) rfl ?_
      refine lv_iconst (v := 1) S.1 S.2.1 dX12_judge_140 (by decide) ?_
      refine lv_iadd S.1 S.2.1 dX12_judge_141 ?_
      refine g_put S hN hw (C := RX12) (T := TX12) (N := 37) (ci := 12) (ty := .int) (w1 := [oC a_m 12 [.int m_nodes, .int m_made, .ref a_m_from, .ref a_m_to, .ref a_m_weighs, .ref a_m_alive, .ref a_m_ranks, .int m_known, .ref a_m_best, .ref a_m_most, .ref a_m_apart, .ref a_m_near, .ref a_m_worth, .ref a_m_mates, .ref a_m_sizes, .ref a_m_sums, .ref a_m_has, .ref a_m_sorts, .ref a_m_pieces, .int m_pieceCount, .int m_parts, .int m_halves, .ref a_m_inCover, .int m_coverSize, .int m_holdSet, .ref a_m_pairCost, .ref a_m_inJoin, .int m_hasJoin, .ref a_m_half, .ref a_m_way, .ref a_m_counts, .ref a_m_lastCounts, .ref a_m_openArc, .ref a_m_with, .ref a_m_tried, .int (m_stables + 1), .long m_firstSet_2], aI E a_m_ranks 256 m_ranks, aI E a_m_openArc 256 m_openArc, aI E a_m_with 16 m_with]) 0 35 iX12 k189 tyX12 tyX12_ok nmX12 dX12_judge_142 rfl rfl (by decide) rfl (by decide +kernel) rfl rfl (Nat.le_of_ble_eq_true rfl) rfl (fun H locs hw => ?_)
      obtain ⟨e_4, e_5⟩ := tp2 hf
      exact hE2 _ _ _ _ _ hw (cg2 (fun (x1 : Int32) (x2 : Int64) => [oC a_m 12 [.int m_nodes, .int m_made, .ref a_m_from, .ref a_m_to, .ref a_m_weighs, .ref a_m_alive, .ref a_m_ranks, .int m_known, .ref a_m_best, .ref a_m_most, .ref a_m_apart, .ref a_m_near, .ref a_m_worth, .ref a_m_mates, .ref a_m_sizes, .ref a_m_sums, .ref a_m_has, .ref a_m_sorts, .ref a_m_pieces, .int m_pieceCount, .int m_parts, .int m_halves, .ref a_m_inCover, .int m_coverSize, .int m_holdSet, .ref a_m_pairCost, .ref a_m_inJoin, .int m_hasJoin, .ref a_m_half, .ref a_m_way, .ref a_m_counts, .ref a_m_lastCounts, .ref a_m_openArc, .ref a_m_with, .ref a_m_tried, .int x1, .long x2], aI E a_m_ranks 256 m_ranks, aI E a_m_openArc 256 m_openArc, aI E a_m_with 16 m_with]) e_4 e_5) dX12_judge_145
    refine lv_if_eq (tgt := 130) S.1 S.2.1 dX12_judge_116 (by decide) (fun h_6 => ?_) (fun h_6 => ?_)
    · replace hf := if_t h_6 hf
      refine lv_aload_n S.1 S.2.1 dX12_judge_130 rfl (lv_at hl 1 rfl) ?_
      refine lv_lload_n S.1 S.2.1 dX12_judge_131 rfl (lv_at hl 2 rfl) ?_
      refine g_put S hN hw (C := RX12) (T := TX12) (N := 37) (ci := 12) (ty := .long) (w1 := [oC a_m 12 [.int m_nodes, .int m_made, .ref a_m_from, .ref a_m_to, .ref a_m_weighs, .ref a_m_alive, .ref a_m_ranks, .int m_known, .ref a_m_best, .ref a_m_most, .ref a_m_apart, .ref a_m_near, .ref a_m_worth, .ref a_m_mates, .ref a_m_sizes, .ref a_m_sums, .ref a_m_has, .ref a_m_sorts, .ref a_m_pieces, .int m_pieceCount, .int m_parts, .int m_halves, .ref a_m_inCover, .int m_coverSize, .int m_holdSet, .ref a_m_pairCost, .ref a_m_inJoin, .int m_hasJoin, .ref a_m_half, .ref a_m_way, .ref a_m_counts, .ref a_m_lastCounts, .ref a_m_openArc, .ref a_m_with, .ref a_m_tried, .int m_stables, .long v1_1], aI E a_m_ranks 256 m_ranks, aI E a_m_openArc 256 m_openArc, aI E a_m_with 16 m_with]) 0 36 iX12 k185 tyX12 tyX12_ok nmX12 dX12_judge_132 rfl rfl (by decide) rfl (by decide +kernel) rfl rfl (Nat.le_of_ble_eq_true rfl) rfl (fun H locs hw => ?_)
      exact hJ_jj_135_2 v1_1 _ _ _ hw (lv_sub hl [1] rfl) hf
    · replace hf := if_f h_6 hf
      refine lv_lload_n S.1 S.2.1 dX12_judge_119 rfl (lv_at hl 2 rfl) ?_
      refine lv_lload_n S.1 S.2.1 dX12_judge_120 rfl (lv_at hl 0 rfl) ?_
      refine lv_land S.1 S.2.1 dX12_judge_121 ?_
      refine lv_lload_n S.1 S.2.1 dX12_judge_122 rfl (lv_at hl 0 rfl) ?_
      refine lv_lneg S.1 S.2.1 dX12_judge_123 ?_
      refine lv_land S.1 S.2.1 dX12_judge_124 ?_
      refine lv_lconst (v := 0) S.1 S.2.1 dX12_judge_125 (by decide) ?_
      refine W.lcmp S.1 S.2.1 dX12_judge_126 ?_
      refine lv_if_eq (tgt := 135) S.1 S.2.1 dX12_judge_127 (by decide) (fun h_7 => ?_) (fun h_7 => ?_)
      · replace hf := if_t h_7 hf
        exact hJ_jj_135_2 m_firstSet _ _ _ hw (lv_sub hl [1] rfl) hf
      · replace hf := if_f h_7 hf
        refine lv_aload_n S.1 S.2.1 dX12_judge_130 rfl (lv_at hl 1 rfl) ?_
        refine lv_lload_n S.1 S.2.1 dX12_judge_131 rfl (lv_at hl 2 rfl) ?_
        refine g_put S hN hw (C := RX12) (T := TX12) (N := 37) (ci := 12) (ty := .long) (w1 := [oC a_m 12 [.int m_nodes, .int m_made, .ref a_m_from, .ref a_m_to, .ref a_m_weighs, .ref a_m_alive, .ref a_m_ranks, .int m_known, .ref a_m_best, .ref a_m_most, .ref a_m_apart, .ref a_m_near, .ref a_m_worth, .ref a_m_mates, .ref a_m_sizes, .ref a_m_sums, .ref a_m_has, .ref a_m_sorts, .ref a_m_pieces, .int m_pieceCount, .int m_parts, .int m_halves, .ref a_m_inCover, .int m_coverSize, .int m_holdSet, .ref a_m_pairCost, .ref a_m_inJoin, .int m_hasJoin, .ref a_m_half, .ref a_m_way, .ref a_m_counts, .ref a_m_lastCounts, .ref a_m_openArc, .ref a_m_with, .ref a_m_tried, .int m_stables, .long v1_1], aI E a_m_ranks 256 m_ranks, aI E a_m_openArc 256 m_openArc, aI E a_m_with 16 m_with]) 0 36 iX12 k185 tyX12 tyX12_ok nmX12 dX12_judge_132 rfl rfl (by decide) rfl (by decide +kernel) rfl rfl (Nat.le_of_ble_eq_true rfl) rfl (fun H locs hw => ?_)
        exact hJ_jj_135_2 v1_1 _ _ _ hw (lv_sub hl [1] rfl) hf
  have hL_4_31 : ∀ (n : Nat) (v1_9 : Int64) (v3_10 : Int32) (H : Heap) (locs : List Loc) (ls : Array Slot), Wo E A s [oC a_m 12 [.int m_nodes, .int m_made, .ref a_m_from, .ref a_m_to, .ref a_m_weighs, .ref a_m_alive, .ref a_m_ranks, .int m_known, .ref a_m_best, .ref a_m_most, .ref a_m_apart, .ref a_m_near, .ref a_m_worth, .ref a_m_mates, .ref a_m_sizes, .ref a_m_sums, .ref a_m_has, .ref a_m_sorts, .ref a_m_pieces, .int m_pieceCount, .int m_parts, .int m_halves, .ref a_m_inCover, .int m_coverSize, .int m_holdSet, .ref a_m_pairCost, .ref a_m_inJoin, .int m_hasJoin, .ref a_m_half, .ref a_m_way, .ref a_m_counts, .ref a_m_lastCounts, .ref a_m_openArc, .ref a_m_with, .ref a_m_tried, .int m_stables, .long m_firstSet], aI E a_m_ranks 256 m_ranks, aI E a_m_openArc 256 m_openArc, aI E a_m_with 16 m_with] H locs → lv_has ls 5 [(0, .ref a_m), (1, .long v1_9), (3, .int v3_10)] → f_X12_judge_L4 F m_nodes m_ranks m_openArc m_with m_stables m_firstSet kk_105_7 n v1_9 v3_10 = some (u_m_stables, u_m_firstSet) → W p l e (Rm 1) s m (([.ref a_m] : List Value).toArray) below meth c H locs 0 0 Q (F0 m 4 ls []) := by
    intro n
    induction n with
    | zero => intro v1_9 v3_10 H locs ls hw hl hf; unfold f_X12_judge_L4 at hf; cases hf
    | succ n ih =>
      intro v1_9 v3_10 H locs ls hw hl hf
      unfold f_X12_judge_L4 at hf
      refine lv_iload_n S.1 S.2.1 dX12_judge_4 rfl (lv_at hl 2 rfl) ?_
      refine lv_aload_n S.1 S.2.1 dX12_judge_5 rfl (lv_at hl 0 rfl) ?_
      refine g_get S hN hw (C := RX12) (T := TX12) (N := 37) (ci := 12) (v := .int m_nodes) 0 0 iX12 k92 dX12_judge_6 rfl rfl (by decide) rfl ?_
      refine lv_icmp_ge (tgt := 105) S.1 S.2.1 dX12_judge_9 (by decide) (fun h_11 => ?_) (fun h_11 => ?_)
      · replace hf := if_t h_11 hf
        exact hJ_kk_105_7 v1_9 _ _ _ hw (lv_sub hl [0, 1] rfl) hf
      · replace hf := if_f h_11 hf
        refine lv_aload_n S.1 S.2.1 dX12_judge_12 rfl (lv_at hl 0 rfl) ?_
        refine g_get S hN hw (C := RX12) (T := TX12) (N := 37) (ci := 12) (v := .ref a_m_with) 0 33 iX12 k86 dX12_judge_13 rfl rfl (by decide) rfl ?_
        refine lv_iload_n S.1 S.2.1 dX12_judge_16 rfl (lv_at hl 2 rfl) ?_
        obtain ⟨hi_11, hf⟩ := rd_s hf
        refine g_iald (n := 16) (f := m_with) S hN hw 3 hi_11 dX12_judge_17 rfl ?_
        generalize m_with (v3_10 : Int32).toNatClampNeg = y_12 at hf ⊢
        refine lv_iload_n S.1 S.2.1 dX12_judge_18 rfl (lv_at hl 2 rfl) ?_
        obtain ⟨jj_43_13, ejj_43_13, hf⟩ := jn_s hf
        have hJ_jj_43_13 : ∀ (v1_13 : Int64) (H : Heap) (locs : List Loc) (ls : Array Slot), Wo E A s [oC a_m 12 [.int m_nodes, .int m_made, .ref a_m_from, .ref a_m_to, .ref a_m_weighs, .ref a_m_alive, .ref a_m_ranks, .int m_known, .ref a_m_best, .ref a_m_most, .ref a_m_apart, .ref a_m_near, .ref a_m_worth, .ref a_m_mates, .ref a_m_sizes, .ref a_m_sums, .ref a_m_has, .ref a_m_sorts, .ref a_m_pieces, .int m_pieceCount, .int m_parts, .int m_halves, .ref a_m_inCover, .int m_coverSize, .int m_holdSet, .ref a_m_pairCost, .ref a_m_inJoin, .int m_hasJoin, .ref a_m_half, .ref a_m_way, .ref a_m_counts, .ref a_m_lastCounts, .ref a_m_openArc, .ref a_m_with, .ref a_m_tried, .int m_stables, .long m_firstSet], aI E a_m_ranks 256 m_ranks, aI E a_m_openArc 256 m_openArc, aI E a_m_with 16 m_with] H locs → lv_has ls 5 [(0, .ref a_m), (1, .long v1_13), (3, .int v3_10)] → jj_43_13 v1_13 = some (u_m_stables, u_m_firstSet) → W p l e (Rm 1) s m (([.ref a_m] : List Value).toArray) below meth c H locs 0 0 Q (F0 m 43 ls []) := by
          intro v1_13 H locs ls hw hl hf
          rw [ejj_43_13] at hf
          refine lv_iload_n S.1 S.2.1 dX12_judge_43 rfl (lv_at hl 2 rfl) ?_
          refine lv_iconst (v := 1) S.1 S.2.1 dX12_judge_44 (by decide) ?_
          refine lv_iadd S.1 S.2.1 dX12_judge_45 ?_
          refine lv_istore (lv' := [(4, .int (v3_10 + 1)), (0, .ref a_m), (1, .long v1_13), (3, .int v3_10)]) S.1 S.2.1 dX12_judge_46 hl (by decide) rfl (fun ls hl => ?_)
          obtain ⟨kk_99_14, ekk_99_14, hf⟩ := jn_s hf
          have hJ_kk_99_14 : ∀  (H : Heap) (locs : List Loc) (ls : Array Slot), Wo E A s [oC a_m 12 [.int m_nodes, .int m_made, .ref a_m_from, .ref a_m_to, .ref a_m_weighs, .ref a_m_alive, .ref a_m_ranks, .int m_known, .ref a_m_best, .ref a_m_most, .ref a_m_apart, .ref a_m_near, .ref a_m_worth, .ref a_m_mates, .ref a_m_sizes, .ref a_m_sums, .ref a_m_has, .ref a_m_sorts, .ref a_m_pieces, .int m_pieceCount, .int m_parts, .int m_halves, .ref a_m_inCover, .int m_coverSize, .int m_holdSet, .ref a_m_pairCost, .ref a_m_inJoin, .int m_hasJoin, .ref a_m_half, .ref a_m_way, .ref a_m_counts, .ref a_m_lastCounts, .ref a_m_openArc, .ref a_m_with, .ref a_m_tried, .int m_stables, .long m_firstSet], aI E a_m_ranks 256 m_ranks, aI E a_m_openArc 256 m_openArc, aI E a_m_with 16 m_with] H locs → lv_has ls 5 [(0, .ref a_m), (1, .long v1_13), (3, .int v3_10)] → kk_99_14 = some (u_m_stables, u_m_firstSet) → W p l e (Rm 1) s m (([.ref a_m] : List Value).toArray) below meth c H locs 0 0 Q (F0 m 99 ls []) := by
            intro H locs ls hw hl hf
            rw [ekk_99_14] at hf
            refine lv_iinc (v := (v3_10 + 1)) (lv' := [(3, .int (v3_10 + 1)), (0, .ref a_m), (1, .long v1_13)]) S.1 S.2.1 dX12_judge_99 hl (k := 2) rfl rfl (by decide) rfl (fun ls hl => ?_)
            refine lv_goto (tgt := 4) S.1 S.2.1 dX12_judge_102 (by decide) ?_
            exact ih v1_13 (v3_10 + 1) _ _ _ hw (lv_sub hl [1, 2, 0] rfl) hf
          have hL_48_27 : ∀ (n : Nat) (v4_16 : Int32) (H : Heap) (locs : List Loc) (ls : Array Slot), Wo E A s [oC a_m 12 [.int m_nodes, .int m_made, .ref a_m_from, .ref a_m_to, .ref a_m_weighs, .ref a_m_alive, .ref a_m_ranks, .int m_known, .ref a_m_best, .ref a_m_most, .ref a_m_apart, .ref a_m_near, .ref a_m_worth, .ref a_m_mates, .ref a_m_sizes, .ref a_m_sums, .ref a_m_has, .ref a_m_sorts, .ref a_m_pieces, .int m_pieceCount, .int m_parts, .int m_halves, .ref a_m_inCover, .int m_coverSize, .int m_holdSet, .ref a_m_pairCost, .ref a_m_inJoin, .int m_hasJoin, .ref a_m_half, .ref a_m_way, .ref a_m_counts, .ref a_m_lastCounts, .ref a_m_openArc, .ref a_m_with, .ref a_m_tried, .int m_stables, .long m_firstSet], aI E a_m_ranks 256 m_ranks, aI E a_m_openArc 256 m_openArc, aI E a_m_with 16 m_with] H locs → lv_has ls 5 [(0, .ref a_m), (1, .long v1_13), (3, .int v3_10), (4, .int v4_16)] → f_X12_judge_L48 m_nodes m_ranks m_openArc m_with m_stables m_firstSet v3_10 kk_99_14 n v4_16 = some (u_m_stables, u_m_firstSet) → W p l e (Rm 1) s m (([.ref a_m] : List Value).toArray) below meth c H locs 0 0 Q (F0 m 48 ls []) := by
            intro n
            induction n with
            | zero => intro v4_16 H locs ls hw hl hf; unfold f_X12_judge_L48 at hf; cases hf
            | succ n ih =>
              intro v4_16 H locs ls hw hl hf
              unfold f_X12_judge_L48 at hf
              refine lv_iload S.1 S.2.1 dX12_judge_48 (lv_at hl 3 rfl) ?_
              refine lv_aload_n S.1 S.2.1 dX12_judge_50 rfl (lv_at hl 0 rfl) ?_
              refine g_get S hN hw (C := RX12) (T := TX12) (N := 37) (ci := 12) (v := .int m_nodes) 0 0 iX12 k92 dX12_judge_51 rfl rfl (by decide) rfl ?_
              refine lv_icmp_ge (tgt := 99) S.1 S.2.1 dX12_judge_54 (by decide) (fun h_17 => ?_) (fun h_17 => ?_)
              · replace hf := if_t h_17 hf
                exact hJ_kk_99_14 _ _ _ hw (lv_sub hl [0, 1, 2] rfl) hf
              · replace hf := if_f h_17 hf
                refine lv_aload_n S.1 S.2.1 dX12_judge_57 rfl (lv_at hl 0 rfl) ?_
                refine g_get S hN hw (C := RX12) (T := TX12) (N := 37) (ci := 12) (v := .ref a_m_openArc) 0 32 iX12 k83 dX12_judge_58 rfl rfl (by decide) rfl ?_
                refine lv_bipush (v := 16) S.1 S.2.1 dX12_judge_61 (by decide) ?_
                refine lv_iload_n S.1 S.2.1 dX12_judge_63 rfl (lv_at hl 2 rfl) ?_
                refine lv_imul S.1 S.2.1 dX12_judge_64 ?_
                refine lv_iload S.1 S.2.1 dX12_judge_65 (lv_at hl 3 rfl) ?_
                refine lv_iadd S.1 S.2.1 dX12_judge_67 ?_
                obtain ⟨hi_17, hf⟩ := rd_s hf
                refine g_iald (n := 256) (f := m_openArc) S hN hw 2 hi_17 dX12_judge_68 rfl ?_
                generalize m_openArc (((16 * v3_10) + v4_16) : Int32).toNatClampNeg = y_18 at hf ⊢
                refine lv_if_lt (tgt := 93) S.1 S.2.1 dX12_judge_69 (by decide) (fun h_19 => ?_) (fun h_19 => ?_)
                · replace hf := if_t h_19 hf
                  refine lv_iinc (v := (v4_16 + 1)) (lv' := [(4, .int (v4_16 + 1)), (0, .ref a_m), (1, .long v1_13), (3, .int v3_10)]) S.1 S.2.1 dX12_judge_93 hl (k := 3) rfl rfl (by decide) rfl (fun ls hl => ?_)
                  refine lv_goto (tgt := 48) S.1 S.2.1 dX12_judge_96 (by decide) ?_
                  exact ih (v4_16 + 1) _ _ _ hw (lv_sub hl [1, 2, 3, 0] rfl) hf
                · replace hf := if_f h_19 hf
                  refine lv_aload_n S.1 S.2.1 dX12_judge_72 rfl (lv_at hl 0 rfl) ?_
                  refine lv_iload_n S.1 S.2.1 dX12_judge_73 rfl (lv_at hl 2 rfl) ?_
                  refine lv_iload S.1 S.2.1 dX12_judge_74 (lv_at hl 3 rfl) ?_
                  obtain ⟨r_20, hc_20, hf⟩ := bd_s hf
                  refine g_calli (r := r_20) (wc := [oC a_m 12 [.int m_nodes, .int m_made, .ref a_m_from, .ref a_m_to, .ref a_m_weighs, .ref a_m_alive, .ref a_m_ranks, .int m_known, .ref a_m_best, .ref a_m_most, .ref a_m_apart, .ref a_m_near, .ref a_m_worth, .ref a_m_mates, .ref a_m_sizes, .ref a_m_sums, .ref a_m_has, .ref a_m_sorts, .ref a_m_pieces, .int m_pieceCount, .int m_parts, .int m_halves, .ref a_m_inCover, .int m_coverSize, .int m_holdSet, .ref a_m_pairCost, .ref a_m_inJoin, .int m_hasJoin, .ref a_m_half, .ref a_m_way, .ref a_m_counts, .ref a_m_lastCounts, .ref a_m_openArc, .ref a_m_with, .ref a_m_tried, .int m_stables, .long m_firstSet], aI E a_m_ranks 256 m_ranks, aI E a_m_with 16 m_with]) (wr := [aI E a_m_openArc 256 m_openArc]) (w1 := [oC a_m 12 [.int m_nodes, .int m_made, .ref a_m_from, .ref a_m_to, .ref a_m_weighs, .ref a_m_alive, .ref a_m_ranks, .int m_known, .ref a_m_best, .ref a_m_most, .ref a_m_apart, .ref a_m_near, .ref a_m_worth, .ref a_m_mates, .ref a_m_sizes, .ref a_m_sums, .ref a_m_has, .ref a_m_sorts, .ref a_m_pieces, .int m_pieceCount, .int m_parts, .int m_halves, .ref a_m_inCover, .int m_coverSize, .int m_holdSet, .ref a_m_pairCost, .ref a_m_inJoin, .int m_hasJoin, .ref a_m_half, .ref a_m_way, .ref a_m_counts, .ref a_m_lastCounts, .ref a_m_openArc, .ref a_m_with, .ref a_m_tried, .int m_stables, .long m_firstSet], aI E a_m_ranks 256 m_ranks, aI E a_m_with 16 m_with]) (va_runV (As := [.int v3_10, .int v4_16]) (rest := []) S (c_X12_wants l E m_nodes m_made a_m_from a_m_to a_m_weighs a_m_alive m_ranks a_m_ranks m_known a_m_best a_m_most a_m_apart a_m_near a_m_worth a_m_mates a_m_sizes a_m_sums a_m_has a_m_sorts a_m_pieces m_pieceCount m_parts m_halves a_m_inCover m_coverSize m_holdSet a_m_pairCost a_m_inJoin m_hasJoin a_m_half a_m_way a_m_counts a_m_lastCounts a_m_openArc m_with a_m_with a_m_tried m_stables m_firstSet a_m v3_10 v4_16 r_20 hc_20 _) (cwV 2 S.2.2.2.2 gX12_judge_X12_wants rfl rfl rfl (by decide +kernel) (rm_le (by omega) (by decide))) (preV (q := (RX12, TX12, 37)) hN hw [0, 1, 3] rfl rfl rfl rfl) rfl rfl hl.1 rfl (lv_room (Nat.le_of_ble_eq_true rfl)) dX12_judge_76 ⟨Nat.le_refl _, Nat.le_refl _⟩) hw hA [0, 1, 3] [2] rfl rfl rfl (by decide) (fun H locs hw => ?_)
                  have hw : Wo E A s [aI E a_m_openArc 256 m_openArc, oC a_m 12 [.int m_nodes, .int m_made, .ref a_m_from, .ref a_m_to, .ref a_m_weighs, .ref a_m_alive, .ref a_m_ranks, .int m_known, .ref a_m_best, .ref a_m_most, .ref a_m_apart, .ref a_m_near, .ref a_m_worth, .ref a_m_mates, .ref a_m_sizes, .ref a_m_sums, .ref a_m_has, .ref a_m_sorts, .ref a_m_pieces, .int m_pieceCount, .int m_parts, .int m_halves, .ref a_m_inCover, .int m_coverSize, .int m_holdSet, .ref a_m_pairCost, .ref a_m_inJoin, .int m_hasJoin, .ref a_m_half, .ref a_m_way, .ref a_m_counts, .ref a_m_lastCounts, .ref a_m_openArc, .ref a_m_with, .ref a_m_tried, .int m_stables, .long m_firstSet], aI E a_m_ranks 256 m_ranks, aI E a_m_with 16 m_with] H _ := hw
                  refine lv_if_eq (tgt := 93) S.1 S.2.1 dX12_judge_79 (by decide) (fun h_22 => ?_) (fun h_22 => ?_)
                  · replace hf := if_t h_22 hf
                    refine lv_iinc (v := (v4_16 + 1)) (lv' := [(4, .int (v4_16 + 1)), (0, .ref a_m), (1, .long v1_13), (3, .int v3_10)]) S.1 S.2.1 dX12_judge_93 hl (k := 3) rfl rfl (by decide) rfl (fun ls hl => ?_)
                    refine lv_goto (tgt := 48) S.1 S.2.1 dX12_judge_96 (by decide) ?_
                    exact ih (v4_16 + 1) _ _ _ (hw.sub [1, 2, 0, 3] rfl rfl) (lv_sub hl [1, 2, 3, 0] rfl) hf
                  · replace hf := if_f h_22 hf
                    refine lv_aload_n S.1 S.2.1 dX12_judge_82 rfl (lv_at hl 0 rfl) ?_
                    refine lv_iload S.1 S.2.1 dX12_judge_83 (lv_at hl 3 rfl) ?_
                    refine lv_iload_n S.1 S.2.1 dX12_judge_85 rfl (lv_at hl 2 rfl) ?_
                    obtain ⟨r_23, hc_23, hf⟩ := bd_s hf
                    refine g_calli (r := r_23) (wc := [oC a_m 12 [.int m_nodes, .int m_made, .ref a_m_from, .ref a_m_to, .ref a_m_weighs, .ref a_m_alive, .ref a_m_ranks, .int m_known, .ref a_m_best, .ref a_m_most, .ref a_m_apart, .ref a_m_near, .ref a_m_worth, .ref a_m_mates, .ref a_m_sizes, .ref a_m_sums, .ref a_m_has, .ref a_m_sorts, .ref a_m_pieces, .int m_pieceCount, .int m_parts, .int m_halves, .ref a_m_inCover, .int m_coverSize, .int m_holdSet, .ref a_m_pairCost, .ref a_m_inJoin, .int m_hasJoin, .ref a_m_half, .ref a_m_way, .ref a_m_counts, .ref a_m_lastCounts, .ref a_m_openArc, .ref a_m_with, .ref a_m_tried, .int m_stables, .long m_firstSet], aI E a_m_ranks 256 m_ranks, aI E a_m_with 16 m_with]) (wr := [aI E a_m_openArc 256 m_openArc]) (w1 := [oC a_m 12 [.int m_nodes, .int m_made, .ref a_m_from, .ref a_m_to, .ref a_m_weighs, .ref a_m_alive, .ref a_m_ranks, .int m_known, .ref a_m_best, .ref a_m_most, .ref a_m_apart, .ref a_m_near, .ref a_m_worth, .ref a_m_mates, .ref a_m_sizes, .ref a_m_sums, .ref a_m_has, .ref a_m_sorts, .ref a_m_pieces, .int m_pieceCount, .int m_parts, .int m_halves, .ref a_m_inCover, .int m_coverSize, .int m_holdSet, .ref a_m_pairCost, .ref a_m_inJoin, .int m_hasJoin, .ref a_m_half, .ref a_m_way, .ref a_m_counts, .ref a_m_lastCounts, .ref a_m_openArc, .ref a_m_with, .ref a_m_tried, .int m_stables, .long m_firstSet], aI E a_m_ranks 256 m_ranks, aI E a_m_with 16 m_with]) (va_runV (As := [.int v4_16, .int v3_10]) (rest := []) S (c_X12_wants l E m_nodes m_made a_m_from a_m_to a_m_weighs a_m_alive m_ranks a_m_ranks m_known a_m_best a_m_most a_m_apart a_m_near a_m_worth a_m_mates a_m_sizes a_m_sums a_m_has a_m_sorts a_m_pieces m_pieceCount m_parts m_halves a_m_inCover m_coverSize m_holdSet a_m_pairCost a_m_inJoin m_hasJoin a_m_half a_m_way a_m_counts a_m_lastCounts a_m_openArc m_with a_m_with a_m_tried m_stables m_firstSet a_m v4_16 v3_10 r_23 hc_23 _) (cwV 2 S.2.2.2.2 gX12_judge_X12_wants rfl rfl rfl (by decide +kernel) (rm_le (by omega) (by decide))) (preV (q := (RX12, TX12, 37)) hN hw [1, 2, 3] rfl rfl rfl rfl) rfl rfl hl.1 rfl (lv_room (Nat.le_of_ble_eq_true rfl)) dX12_judge_86 ⟨Nat.le_refl _, Nat.le_refl _⟩) hw hA [1, 2, 3] [0] rfl rfl rfl (by decide) (fun H locs hw => ?_)
                    have hw : Wo E A s [aI E a_m_openArc 256 m_openArc, oC a_m 12 [.int m_nodes, .int m_made, .ref a_m_from, .ref a_m_to, .ref a_m_weighs, .ref a_m_alive, .ref a_m_ranks, .int m_known, .ref a_m_best, .ref a_m_most, .ref a_m_apart, .ref a_m_near, .ref a_m_worth, .ref a_m_mates, .ref a_m_sizes, .ref a_m_sums, .ref a_m_has, .ref a_m_sorts, .ref a_m_pieces, .int m_pieceCount, .int m_parts, .int m_halves, .ref a_m_inCover, .int m_coverSize, .int m_holdSet, .ref a_m_pairCost, .ref a_m_inJoin, .int m_hasJoin, .ref a_m_half, .ref a_m_way, .ref a_m_counts, .ref a_m_lastCounts, .ref a_m_openArc, .ref a_m_with, .ref a_m_tried, .int m_stables, .long m_firstSet], aI E a_m_ranks 256 m_ranks, aI E a_m_with 16 m_with] H _ := hw
                    refine lv_if_eq (tgt := 93) S.1 S.2.1 dX12_judge_89 (by decide) (fun h_25 => ?_) (fun h_25 => ?_)
                    · replace hf := if_t h_25 hf
                      refine lv_iinc (v := (v4_16 + 1)) (lv' := [(4, .int (v4_16 + 1)), (0, .ref a_m), (1, .long v1_13), (3, .int v3_10)]) S.1 S.2.1 dX12_judge_93 hl (k := 3) rfl rfl (by decide) rfl (fun ls hl => ?_)
                      refine lv_goto (tgt := 48) S.1 S.2.1 dX12_judge_96 (by decide) ?_
                      exact ih (v4_16 + 1) _ _ _ (hw.sub [1, 2, 0, 3] rfl rfl) (lv_sub hl [1, 2, 3, 0] rfl) hf
                    · replace hf := if_f h_25 hf
                      obtain ⟨e_26, e_27⟩ := tp2 hf
                      exact hE2 _ _ _ _ _ (hw.sub [1, 2, 0, 3] rfl rfl) (cg2 (fun (x1 : Int32) (x2 : Int64) => [oC a_m 12 [.int m_nodes, .int m_made, .ref a_m_from, .ref a_m_to, .ref a_m_weighs, .ref a_m_alive, .ref a_m_ranks, .int m_known, .ref a_m_best, .ref a_m_most, .ref a_m_apart, .ref a_m_near, .ref a_m_worth, .ref a_m_mates, .ref a_m_sizes, .ref a_m_sums, .ref a_m_has, .ref a_m_sorts, .ref a_m_pieces, .int m_pieceCount, .int m_parts, .int m_halves, .ref a_m_inCover, .int m_coverSize, .int m_holdSet, .ref a_m_pairCost, .ref a_m_inJoin, .int m_hasJoin, .ref a_m_half, .ref a_m_way, .ref a_m_counts, .ref a_m_lastCounts, .ref a_m_openArc, .ref a_m_with, .ref a_m_tried, .int x1, .long x2], aI E a_m_ranks 256 m_ranks, aI E a_m_openArc 256 m_openArc, aI E a_m_with 16 m_with]) e_26 e_27) dX12_judge_92
          exact hL_48_27 F (v3_10 + 1) _ _ _ hw (lv_sub hl [1, 2, 3, 0] rfl) hf
        refine lv_icmp_le (tgt := 43) S.1 S.2.1 dX12_judge_19 (by decide) (fun h_29 => ?_) (fun h_29 => ?_)
        · replace hf := if_t h_29 hf
          exact hJ_jj_43_13 v1_9 _ _ _ hw hl hf
        · replace hf := if_f h_29 hf
          refine lv_lload_n S.1 S.2.1 dX12_judge_22 rfl (lv_at hl 1 rfl) ?_
          refine lv_lconst (v := 1) S.1 S.2.1 dX12_judge_23 (by decide) ?_
          refine lv_aload_n S.1 S.2.1 dX12_judge_24 rfl (lv_at hl 0 rfl) ?_
          refine g_get S hN hw (C := RX12) (T := TX12) (N := 37) (ci := 12) (v := .ref a_m_openArc) 0 32 iX12 k83 dX12_judge_25 rfl rfl (by decide) rfl ?_
          refine lv_bipush (v := 16) S.1 S.2.1 dX12_judge_28 (by decide) ?_
          refine lv_iload_n S.1 S.2.1 dX12_judge_30 rfl (lv_at hl 2 rfl) ?_
          refine lv_imul S.1 S.2.1 dX12_judge_31 ?_
          refine lv_aload_n S.1 S.2.1 dX12_judge_32 rfl (lv_at hl 0 rfl) ?_
          refine g_get S hN hw (C := RX12) (T := TX12) (N := 37) (ci := 12) (v := .ref a_m_with) 0 33 iX12 k86 dX12_judge_33 rfl rfl (by decide) rfl ?_
          refine lv_iload_n S.1 S.2.1 dX12_judge_36 rfl (lv_at hl 2 rfl) ?_
          obtain ⟨hi_29, hf⟩ := rd_s hf
          refine g_iald (n := 16) (f := m_with) S hN hw 3 hi_29 dX12_judge_37 rfl ?_
          generalize m_with (v3_10 : Int32).toNatClampNeg = y_30 at hf ⊢
          refine lv_iadd S.1 S.2.1 dX12_judge_38 ?_
          obtain ⟨hi_30, hf⟩ := rd_s hf
          refine g_iald (n := 256) (f := m_openArc) S hN hw 2 hi_30 dX12_judge_39 rfl ?_
          generalize m_openArc (((16 * v3_10) + y_30) : Int32).toNatClampNeg = y_31 at hf ⊢
          refine lv_lshl S.1 S.2.1 dX12_judge_40 rfl ?_
          refine lv_lor S.1 S.2.1 dX12_judge_41 ?_
          refine lv_lstore_n (lv' := [(1, .long (v1_9 ||| ((1 : Int64) <<< ((y_31 : Int32).toInt64 &&& 63)))), (0, .ref a_m), (3, .int v3_10)]) S.1 S.2.1 dX12_judge_42 rfl hl (by decide) rfl (fun ls hl => ?_)
          exact hJ_jj_43_13 (v1_9 ||| ((1 : Int64) <<< ((y_31 : Int32).toInt64 &&& 63))) _ _ _ hw (lv_sub hl [1, 0, 2] rfl) hf
  exact hL_4_31 F (0 : Int64) 0 _ _ _ hw (lv_sub hl [2, 1, 0] rfl) hf
def f_X12_back_L4 (m_with : Nat → Int32) (kk_33_2 : Int32 → Option (Int32)) : Nat → Int32 → Option (Int32)
  | 0, _ => none
  | n + 1, v2_4 => (if v2_4 < 0 then (kk_33_2 v2_4) else rd 16 m_with v2_4 (fun y_6 => (if y_6 < 0 then (kk_33_2 v2_4) else rd 16 m_with v2_4 (fun y_8 => (if v2_4 ≤ y_8 then (kk_33_2 v2_4) else (f_X12_back_L4 m_with kk_33_2 n (v2_4 + (-1))))))))
def f_X12_back (F : Nat) (p1 : Int32) (m_with : Nat → Int32) : Option (Int32) :=
  (jn (fun (v2_1 : Int32) => some v2_1) (fun kk_33_2 => (f_X12_back_L4 m_with kk_33_2 F (p1 - 1))))
set_option maxHeartbeats 4000000 in
set_option maxRecDepth 100000 in
theorem c_X12_back (l : Launch) (E : Ev) (F : Nat) (m_nodes : Int32) (m_made : Int32) (a_m_from : Nat) (a_m_to : Nat) (a_m_weighs : Nat) (a_m_alive : Nat) (a_m_ranks : Nat) (m_known : Int32) (a_m_best : Nat) (a_m_most : Nat) (a_m_apart : Nat) (a_m_near : Nat) (a_m_worth : Nat) (a_m_mates : Nat) (a_m_sizes : Nat) (a_m_sums : Nat) (a_m_has : Nat) (a_m_sorts : Nat) (a_m_pieces : Nat) (m_pieceCount : Int32) (m_parts : Int32) (m_halves : Int32) (a_m_inCover : Nat) (m_coverSize : Int32) (m_holdSet : Int32) (a_m_pairCost : Nat) (a_m_inJoin : Nat) (m_hasJoin : Int32) (a_m_half : Nat) (a_m_way : Nat) (a_m_counts : Nat) (a_m_lastCounts : Nat) (a_m_openArc : Nat) (m_with : Nat → Int32) (a_m_with : Nat) (a_m_tried : Nat) (m_stables : Int32) (m_firstSet : Int64) (a_m : Nat) (p1 : Int32) (ro : Int32) (hf : f_X12_back F p1 m_with = some ro) :
    CtI l yX12_back wsX12_back (Rm 0) E [.ref a_m, .int p1] [oC a_m 12 [.int m_nodes, .int m_made, .ref a_m_from, .ref a_m_to, .ref a_m_weighs, .ref a_m_alive, .ref a_m_ranks, .int m_known, .ref a_m_best, .ref a_m_most, .ref a_m_apart, .ref a_m_near, .ref a_m_worth, .ref a_m_mates, .ref a_m_sizes, .ref a_m_sums, .ref a_m_has, .ref a_m_sorts, .ref a_m_pieces, .int m_pieceCount, .int m_parts, .int m_halves, .ref a_m_inCover, .int m_coverSize, .int m_holdSet, .ref a_m_pairCost, .ref a_m_inJoin, .int m_hasJoin, .ref a_m_half, .ref a_m_way, .ref a_m_counts, .ref a_m_lastCounts, .ref a_m_openArc, .ref a_m_with, .ref a_m_tried, .int m_stables, .long m_firstSet], aI E a_m_with 16 m_with] ro [oC a_m 12 [.int m_nodes, .int m_made, .ref a_m_from, .ref a_m_to, .ref a_m_weighs, .ref a_m_alive, .ref a_m_ranks, .int m_known, .ref a_m_best, .ref a_m_most, .ref a_m_apart, .ref a_m_near, .ref a_m_worth, .ref a_m_mates, .ref a_m_sizes, .ref a_m_sums, .ref a_m_has, .ref a_m_sorts, .ref a_m_pieces, .int m_pieceCount, .int m_parts, .int m_halves, .ref a_m_inCover, .int m_coverSize, .int m_holdSet, .ref a_m_pairCost, .ref a_m_inJoin, .int m_hasJoin, .ref a_m_half, .ref a_m_way, .ref a_m_counts, .ref a_m_lastCounts, .ref a_m_openArc, .ref a_m_with, .ref a_m_tried, .int m_stables, .long m_firstSet], aI E a_m_with 16 m_with] := by
  refine ofI (cc := cX12_back) (maxL := 3) (own := RX12) rfl rfl (by decide) rfl rfl ?_
  intro p e s m below meth c A ls Q S hnm hN hw hA hl0 hE
  have hE2 : ∀ (H : Heap) (locs : List Loc) (pc : Nat) (ls : Array Slot) (r' : Int32) (w' : va_W), Wo E A s w' H locs → w' = [oC a_m 12 [.int m_nodes, .int m_made, .ref a_m_from, .ref a_m_to, .ref a_m_weighs, .ref a_m_alive, .ref a_m_ranks, .int m_known, .ref a_m_best, .ref a_m_most, .ref a_m_apart, .ref a_m_near, .ref a_m_worth, .ref a_m_mates, .ref a_m_sizes, .ref a_m_sums, .ref a_m_has, .ref a_m_sorts, .ref a_m_pieces, .int m_pieceCount, .int m_parts, .int m_halves, .ref a_m_inCover, .int m_coverSize, .int m_holdSet, .ref a_m_pairCost, .ref a_m_inJoin, .int m_hasJoin, .ref a_m_half, .ref a_m_way, .ref a_m_counts, .ref a_m_lastCounts, .ref a_m_openArc, .ref a_m_with, .ref a_m_tried, .int m_stables, .long m_firstSet], aI E a_m_with 16 m_with] → r' = ro → decode cX12_back pc = .ok (.ireturn, 1) → W p l e (Rm 0) s m (([.ref a_m, .int p1] : List Value).toArray) below meth c H locs 0 0 Q (F0 m pc ls [.int r']) := by
    intro H locs pc ls r' w' hw e1 e2 hd
    subst e1
    subst e2
    exact hE H locs pc ls hw hd
  have hl : lv_has ls 3 [(0, .ref a_m), (1, .int p1)] := hl0 _ (lv_entry [.ref a_m, .int p1] (n := 3) (Nat.le_of_ble_eq_true rfl))
  have iX12 : ∀ w ∈ wsX120, w ∈ wsX12_back := by decide +kernel
  have k86 := S.2.2.2.2 (.fieldLink RX12 86 "PairMatchingModel" "with" "[I") (by decide +kernel)
  unfold f_X12_back at hf
  refine lv_iload_n S.1 S.2.1 dX12_back_0 rfl (lv_at hl 1 rfl) ?_
  refine lv_iconst (v := 1) S.1 S.2.1 dX12_back_1 (by decide) ?_
  refine lv_isub S.1 S.2.1 dX12_back_2 ?_
  refine lv_istore_n (lv' := [(2, .int (p1 - 1)), (0, .ref a_m), (1, .int p1)]) S.1 S.2.1 dX12_back_3 rfl hl (by decide) rfl (fun ls hl => ?_)
  obtain ⟨kk_33_2, ekk_33_2, hf⟩ := jn_s hf
  have hJ_kk_33_2 : ∀ (v2_1 : Int32) (H : Heap) (locs : List Loc) (ls : Array Slot), Wo E A s [oC a_m 12 [.int m_nodes, .int m_made, .ref a_m_from, .ref a_m_to, .ref a_m_weighs, .ref a_m_alive, .ref a_m_ranks, .int m_known, .ref a_m_best, .ref a_m_most, .ref a_m_apart, .ref a_m_near, .ref a_m_worth, .ref a_m_mates, .ref a_m_sizes, .ref a_m_sums, .ref a_m_has, .ref a_m_sorts, .ref a_m_pieces, .int m_pieceCount, .int m_parts, .int m_halves, .ref a_m_inCover, .int m_coverSize, .int m_holdSet, .ref a_m_pairCost, .ref a_m_inJoin, .int m_hasJoin, .ref a_m_half, .ref a_m_way, .ref a_m_counts, .ref a_m_lastCounts, .ref a_m_openArc, .ref a_m_with, .ref a_m_tried, .int m_stables, .long m_firstSet], aI E a_m_with 16 m_with] H locs → lv_has ls 3 [(2, .int v2_1)] → kk_33_2 v2_1 = some ro → W p l e (Rm 0) s m (([.ref a_m, .int p1] : List Value).toArray) below meth c H locs 0 0 Q (F0 m 33 ls []) := by
    intro v2_1 H locs ls hw hl hf
    rw [ekk_33_2] at hf
    refine lv_iload_n S.1 S.2.1 dX12_back_33 rfl (lv_at hl 0 rfl) ?_
    have e_2 := Option.some.inj hf
    exact hE2 _ _ _ _ _ _ hw rfl e_2 dX12_back_34
  have hL_4_9 : ∀ (n : Nat) (v2_4 : Int32) (H : Heap) (locs : List Loc) (ls : Array Slot), Wo E A s [oC a_m 12 [.int m_nodes, .int m_made, .ref a_m_from, .ref a_m_to, .ref a_m_weighs, .ref a_m_alive, .ref a_m_ranks, .int m_known, .ref a_m_best, .ref a_m_most, .ref a_m_apart, .ref a_m_near, .ref a_m_worth, .ref a_m_mates, .ref a_m_sizes, .ref a_m_sums, .ref a_m_has, .ref a_m_sorts, .ref a_m_pieces, .int m_pieceCount, .int m_parts, .int m_halves, .ref a_m_inCover, .int m_coverSize, .int m_holdSet, .ref a_m_pairCost, .ref a_m_inJoin, .int m_hasJoin, .ref a_m_half, .ref a_m_way, .ref a_m_counts, .ref a_m_lastCounts, .ref a_m_openArc, .ref a_m_with, .ref a_m_tried, .int m_stables, .long m_firstSet], aI E a_m_with 16 m_with] H locs → lv_has ls 3 [(0, .ref a_m), (2, .int v2_4)] → f_X12_back_L4 m_with kk_33_2 n v2_4 = some ro → W p l e (Rm 0) s m (([.ref a_m, .int p1] : List Value).toArray) below meth c H locs 0 0 Q (F0 m 4 ls []) := by
    intro n
    induction n with
    | zero => intro v2_4 H locs ls hw hl hf; unfold f_X12_back_L4 at hf; cases hf
    | succ n ih =>
      intro v2_4 H locs ls hw hl hf
      unfold f_X12_back_L4 at hf
      refine lv_iload_n S.1 S.2.1 dX12_back_4 rfl (lv_at hl 1 rfl) ?_
      refine lv_if_lt (tgt := 33) S.1 S.2.1 dX12_back_5 (by decide) (fun h_5 => ?_) (fun h_5 => ?_)
      · replace hf := if_t h_5 hf
        exact hJ_kk_33_2 v2_4 _ _ _ hw (lv_sub hl [1] rfl) hf
      · replace hf := if_f h_5 hf
        refine lv_aload_n S.1 S.2.1 dX12_back_8 rfl (lv_at hl 0 rfl) ?_
        refine g_get S hN hw (C := RX12) (T := TX12) (N := 37) (ci := 12) (v := .ref a_m_with) 0 33 iX12 k86 dX12_back_9 rfl rfl (by decide) rfl ?_
        refine lv_iload_n S.1 S.2.1 dX12_back_12 rfl (lv_at hl 1 rfl) ?_
        obtain ⟨hi_5, hf⟩ := rd_s hf
        refine g_iald (n := 16) (f := m_with) S hN hw 1 hi_5 dX12_back_13 rfl ?_
        generalize m_with (v2_4 : Int32).toNatClampNeg = y_6 at hf ⊢
        refine lv_if_lt (tgt := 33) S.1 S.2.1 dX12_back_14 (by decide) (fun h_7 => ?_) (fun h_7 => ?_)
        · replace hf := if_t h_7 hf
          exact hJ_kk_33_2 v2_4 _ _ _ hw (lv_sub hl [1] rfl) hf
        · replace hf := if_f h_7 hf
          refine lv_aload_n S.1 S.2.1 dX12_back_17 rfl (lv_at hl 0 rfl) ?_
          refine g_get S hN hw (C := RX12) (T := TX12) (N := 37) (ci := 12) (v := .ref a_m_with) 0 33 iX12 k86 dX12_back_18 rfl rfl (by decide) rfl ?_
          refine lv_iload_n S.1 S.2.1 dX12_back_21 rfl (lv_at hl 1 rfl) ?_
          obtain ⟨hi_7, hf⟩ := rd_s hf
          refine g_iald (n := 16) (f := m_with) S hN hw 1 hi_7 dX12_back_22 rfl ?_
          generalize m_with (v2_4 : Int32).toNatClampNeg = y_8 at hf ⊢
          refine lv_iload_n S.1 S.2.1 dX12_back_23 rfl (lv_at hl 1 rfl) ?_
          refine lv_icmp_ge (tgt := 33) S.1 S.2.1 dX12_back_24 (by decide) (fun h_9 => ?_) (fun h_9 => ?_)
          · replace hf := if_t h_9 hf
            exact hJ_kk_33_2 v2_4 _ _ _ hw (lv_sub hl [1] rfl) hf
          · replace hf := if_f h_9 hf
            refine lv_iinc (v := (v2_4 + (-1))) (lv' := [(2, .int (v2_4 + (-1))), (0, .ref a_m)]) S.1 S.2.1 dX12_back_27 hl (k := 1) rfl rfl (by decide) rfl (fun ls hl => ?_)
            refine lv_goto (tgt := 4) S.1 S.2.1 dX12_back_30 (by decide) ?_
            exact ih (v2_4 + (-1)) _ _ _ hw (lv_sub hl [1, 0] rfl) hf
  exact hL_4_9 F (p1 - 1) _ _ _ hw (lv_sub hl [1, 0] rfl) hf
