def f_X12_joinArc_L14 (m_made : Int32) (m_inJoin : Nat → Int32) (p1 : Int32) (kk_47_2 : Option (Int32)) : Nat → Int32 → Int32 → Option (Int32)
  | 0, _, _ => none
  | n + 1, v2_4, v3_5 => (if m_made ≤ v3_5 then (kk_47_2) else rd 60 m_inJoin v3_5 (fun y_7 => (if y_7 = 0 then (f_X12_joinArc_L14 m_made m_inJoin p1 kk_47_2 n v2_4 (v3_5 + 1)) else (if v2_4 = p1 then some v3_5 else (f_X12_joinArc_L14 m_made m_inJoin p1 kk_47_2 n (v2_4 + 1) (v3_5 + 1))))))
def f_X12_joinArc (F : Nat) (p1 : Int32) (m_made : Int32) (m_inJoin : Nat → Int32) (m_hasJoin : Int32) : Option (Int32) :=
  (if m_hasJoin = 0 then some (-3) else (jn (some (-1)) (fun kk_47_2 => (f_X12_joinArc_L14 m_made m_inJoin p1 kk_47_2 F 0 0))))
set_option maxHeartbeats 4000000 in
set_option maxRecDepth 100000 in
theorem c_X12_joinArc (l : Launch) (E : Ev) (F : Nat) (m_nodes : Int32) (m_made : Int32) (a_m_from : Nat) (a_m_to : Nat) (a_m_weighs : Nat) (a_m_alive : Nat) (a_m_ranks : Nat) (m_known : Int32) (a_m_best : Nat) (a_m_most : Nat) (a_m_apart : Nat) (a_m_near : Nat) (a_m_worth : Nat) (a_m_mates : Nat) (a_m_sizes : Nat) (a_m_sums : Nat) (a_m_has : Nat) (a_m_sorts : Nat) (a_m_pieces : Nat) (m_pieceCount : Int32) (m_parts : Int32) (m_halves : Int32) (a_m_inCover : Nat) (m_coverSize : Int32) (m_holdSet : Int32) (a_m_pairCost : Nat) (m_inJoin : Nat → Int32) (a_m_inJoin : Nat) (m_hasJoin : Int32) (a_m_half : Nat) (a_m_way : Nat) (a_m_counts : Nat) (a_m_lastCounts : Nat) (a_m_openArc : Nat) (a_m_with : Nat) (a_m_tried : Nat) (m_stables : Int32) (m_firstSet : Int64) (a_m : Nat) (p1 : Int32) (ro : Int32) (hf : f_X12_joinArc F p1 m_made m_inJoin m_hasJoin = some ro) :
    CtI l yX12_joinArc wsX12_joinArc (Rm 0) E [.ref a_m, .int p1] [oC a_m 12 [.int m_nodes, .int m_made, .ref a_m_from, .ref a_m_to, .ref a_m_weighs, .ref a_m_alive, .ref a_m_ranks, .int m_known, .ref a_m_best, .ref a_m_most, .ref a_m_apart, .ref a_m_near, .ref a_m_worth, .ref a_m_mates, .ref a_m_sizes, .ref a_m_sums, .ref a_m_has, .ref a_m_sorts, .ref a_m_pieces, .int m_pieceCount, .int m_parts, .int m_halves, .ref a_m_inCover, .int m_coverSize, .int m_holdSet, .ref a_m_pairCost, .ref a_m_inJoin, .int m_hasJoin, .ref a_m_half, .ref a_m_way, .ref a_m_counts, .ref a_m_lastCounts, .ref a_m_openArc, .ref a_m_with, .ref a_m_tried, .int m_stables, .long m_firstSet], aZ E a_m_inJoin 60 m_inJoin] ro [oC a_m 12 [.int m_nodes, .int m_made, .ref a_m_from, .ref a_m_to, .ref a_m_weighs, .ref a_m_alive, .ref a_m_ranks, .int m_known, .ref a_m_best, .ref a_m_most, .ref a_m_apart, .ref a_m_near, .ref a_m_worth, .ref a_m_mates, .ref a_m_sizes, .ref a_m_sums, .ref a_m_has, .ref a_m_sorts, .ref a_m_pieces, .int m_pieceCount, .int m_parts, .int m_halves, .ref a_m_inCover, .int m_coverSize, .int m_holdSet, .ref a_m_pairCost, .ref a_m_inJoin, .int m_hasJoin, .ref a_m_half, .ref a_m_way, .ref a_m_counts, .ref a_m_lastCounts, .ref a_m_openArc, .ref a_m_with, .ref a_m_tried, .int m_stables, .long m_firstSet], aZ E a_m_inJoin 60 m_inJoin] := by
  refine ofI (cc := cX12_joinArc) (maxL := 4) (own := RX12) rfl rfl (by decide) rfl rfl ?_
  intro p e s m below meth c A ls Q S hnm hN hw hA hl0 hE
  have hE2 : ∀ (H : Heap) (locs : List Loc) (pc : Nat) (ls : Array Slot) (r' : Int32) (w' : va_W), Wo E A s w' H locs → w' = [oC a_m 12 [.int m_nodes, .int m_made, .ref a_m_from, .ref a_m_to, .ref a_m_weighs, .ref a_m_alive, .ref a_m_ranks, .int m_known, .ref a_m_best, .ref a_m_most, .ref a_m_apart, .ref a_m_near, .ref a_m_worth, .ref a_m_mates, .ref a_m_sizes, .ref a_m_sums, .ref a_m_has, .ref a_m_sorts, .ref a_m_pieces, .int m_pieceCount, .int m_parts, .int m_halves, .ref a_m_inCover, .int m_coverSize, .int m_holdSet, .ref a_m_pairCost, .ref a_m_inJoin, .int m_hasJoin, .ref a_m_half, .ref a_m_way, .ref a_m_counts, .ref a_m_lastCounts, .ref a_m_openArc, .ref a_m_with, .ref a_m_tried, .int m_stables, .long m_firstSet], aZ E a_m_inJoin 60 m_inJoin] → r' = ro → decode cX12_joinArc pc = .ok (.ireturn, 1) → W p l e (Rm 0) s m (([.ref a_m, .int p1] : List Value).toArray) below meth c H locs 0 0 Q (F0 m pc ls [.int r']) := by
    intro H locs pc ls r' w' hw e1 e2 hd
    subst e1
    subst e2
    exact hE H locs pc ls hw hd
  have hl : lv_has ls 4 [(0, .ref a_m), (1, .int p1)] := hl0 _ (lv_entry [.ref a_m, .int p1] (n := 4) (Nat.le_of_ble_eq_true rfl))
  have iX12 : ∀ w ∈ wsX120, w ∈ wsX12_joinArc := by decide +kernel
  have k163 := S.2.2.2.2 (.fieldLink RX12 163 "PairMatchingModel" "hasJoin" "Z") (by decide +kernel)
  have k67 := S.2.2.2.2 (.fieldLink RX12 67 "PairMatchingModel" "inJoin" "[Z") (by decide +kernel)
  have k97 := S.2.2.2.2 (.fieldLink RX12 97 "PairMatchingModel" "made" "I") (by decide +kernel)
  unfold f_X12_joinArc at hf
  refine lv_aload_n S.1 S.2.1 dX12_joinArc_0 rfl (lv_at hl 0 rfl) ?_
  refine g_get S hN hw (C := RX12) (T := TX12) (N := 37) (ci := 12) (v := .int m_hasJoin) 0 27 iX12 k163 dX12_joinArc_1 rfl rfl (by decide) rfl ?_
  refine lv_if_ne (tgt := 10) S.1 S.2.1 dX12_joinArc_4 (by decide) (fun h_1 => ?_) (fun h_1 => ?_)
  · replace hf := if_f h_1 hf
    refine lv_iconst (v := 0) S.1 S.2.1 dX12_joinArc_10 (by decide) ?_
    refine lv_istore_n (lv' := [(2, .int 0), (0, .ref a_m), (1, .int p1)]) S.1 S.2.1 dX12_joinArc_11 rfl hl (by decide) rfl (fun ls hl => ?_)
    refine lv_iconst (v := 0) S.1 S.2.1 dX12_joinArc_12 (by decide) ?_
    refine lv_istore_n (lv' := [(3, .int 0), (2, .int 0), (0, .ref a_m), (1, .int p1)]) S.1 S.2.1 dX12_joinArc_13 rfl hl (by decide) rfl (fun ls hl => ?_)
    obtain ⟨kk_47_2, ekk_47_2, hf⟩ := jn_s hf
    have hJ_kk_47_2 : ∀  (H : Heap) (locs : List Loc) (ls : Array Slot), Wo E A s [oC a_m 12 [.int m_nodes, .int m_made, .ref a_m_from, .ref a_m_to, .ref a_m_weighs, .ref a_m_alive, .ref a_m_ranks, .int m_known, .ref a_m_best, .ref a_m_most, .ref a_m_apart, .ref a_m_near, .ref a_m_worth, .ref a_m_mates, .ref a_m_sizes, .ref a_m_sums, .ref a_m_has, .ref a_m_sorts, .ref a_m_pieces, .int m_pieceCount, .int m_parts, .int m_halves, .ref a_m_inCover, .int m_coverSize, .int m_holdSet, .ref a_m_pairCost, .ref a_m_inJoin, .int m_hasJoin, .ref a_m_half, .ref a_m_way, .ref a_m_counts, .ref a_m_lastCounts, .ref a_m_openArc, .ref a_m_with, .ref a_m_tried, .int m_stables, .long m_firstSet], aZ E a_m_inJoin 60 m_inJoin] H locs → lv_has ls 4 [] → kk_47_2 = some ro → W p l e (Rm 0) s m (([.ref a_m, .int p1] : List Value).toArray) below meth c H locs 0 0 Q (F0 m 47 ls []) := by
      intro H locs ls hw hl hf
      rw [ekk_47_2] at hf
      refine lv_iconst (v := (-1)) S.1 S.2.1 dX12_joinArc_47 (by decide) ?_
      have e_2 := Option.some.inj hf
      exact hE2 _ _ _ _ _ _ hw rfl e_2 dX12_joinArc_48
    have hL_14_10 : ∀ (n : Nat) (v2_4 : Int32) (v3_5 : Int32) (H : Heap) (locs : List Loc) (ls : Array Slot), Wo E A s [oC a_m 12 [.int m_nodes, .int m_made, .ref a_m_from, .ref a_m_to, .ref a_m_weighs, .ref a_m_alive, .ref a_m_ranks, .int m_known, .ref a_m_best, .ref a_m_most, .ref a_m_apart, .ref a_m_near, .ref a_m_worth, .ref a_m_mates, .ref a_m_sizes, .ref a_m_sums, .ref a_m_has, .ref a_m_sorts, .ref a_m_pieces, .int m_pieceCount, .int m_parts, .int m_halves, .ref a_m_inCover, .int m_coverSize, .int m_holdSet, .ref a_m_pairCost, .ref a_m_inJoin, .int m_hasJoin, .ref a_m_half, .ref a_m_way, .ref a_m_counts, .ref a_m_lastCounts, .ref a_m_openArc, .ref a_m_with, .ref a_m_tried, .int m_stables, .long m_firstSet], aZ E a_m_inJoin 60 m_inJoin] H locs → lv_has ls 4 [(0, .ref a_m), (1, .int p1), (2, .int v2_4), (3, .int v3_5)] → f_X12_joinArc_L14 m_made m_inJoin p1 kk_47_2 n v2_4 v3_5 = some ro → W p l e (Rm 0) s m (([.ref a_m, .int p1] : List Value).toArray) below meth c H locs 0 0 Q (F0 m 14 ls []) := by
      intro n
      induction n with
      | zero => intro v2_4 v3_5 H locs ls hw hl hf; unfold f_X12_joinArc_L14 at hf; cases hf
      | succ n ih =>
        intro v2_4 v3_5 H locs ls hw hl hf
        unfold f_X12_joinArc_L14 at hf
        refine lv_iload_n S.1 S.2.1 dX12_joinArc_14 rfl (lv_at hl 3 rfl) ?_
        refine lv_aload_n S.1 S.2.1 dX12_joinArc_15 rfl (lv_at hl 0 rfl) ?_
        refine g_get S hN hw (C := RX12) (T := TX12) (N := 37) (ci := 12) (v := .int m_made) 0 1 iX12 k97 dX12_joinArc_16 rfl rfl (by decide) rfl ?_
        refine lv_icmp_ge (tgt := 47) S.1 S.2.1 dX12_joinArc_19 (by decide) (fun h_6 => ?_) (fun h_6 => ?_)
        · replace hf := if_t h_6 hf
          exact hJ_kk_47_2 _ _ _ hw (lv_sub hl [] rfl) hf
        · replace hf := if_f h_6 hf
          refine lv_aload_n S.1 S.2.1 dX12_joinArc_22 rfl (lv_at hl 0 rfl) ?_
          refine g_get S hN hw (C := RX12) (T := TX12) (N := 37) (ci := 12) (v := .ref a_m_inJoin) 0 26 iX12 k67 dX12_joinArc_23 rfl rfl (by decide) rfl ?_
          refine lv_iload_n S.1 S.2.1 dX12_joinArc_26 rfl (lv_at hl 3 rfl) ?_
          obtain ⟨hi_6, hf⟩ := rd_s hf
          refine g_zald (n := 60) (f := m_inJoin) S hN hw 1 hi_6 dX12_joinArc_27 rfl ?_
          generalize m_inJoin (v3_5 : Int32).toNatClampNeg = y_7 at hf ⊢
          refine lv_if_eq (tgt := 41) S.1 S.2.1 dX12_joinArc_28 (by decide) (fun h_8 => ?_) (fun h_8 => ?_)
          · replace hf := if_t h_8 hf
            refine lv_iinc (v := (v3_5 + 1)) (lv' := [(3, .int (v3_5 + 1)), (0, .ref a_m), (1, .int p1), (2, .int v2_4)]) S.1 S.2.1 dX12_joinArc_41 hl (k := 3) rfl rfl (by decide) rfl (fun ls hl => ?_)
            refine lv_goto (tgt := 14) S.1 S.2.1 dX12_joinArc_44 (by decide) ?_
            exact ih v2_4 (v3_5 + 1) _ _ _ hw (lv_sub hl [1, 2, 3, 0] rfl) hf
          · replace hf := if_f h_8 hf
            refine lv_iload_n S.1 S.2.1 dX12_joinArc_31 rfl (lv_at hl 2 rfl) ?_
            refine lv_iload_n S.1 S.2.1 dX12_joinArc_32 rfl (lv_at hl 1 rfl) ?_
            refine lv_icmp_ne (tgt := 38) S.1 S.2.1 dX12_joinArc_33 (by decide) (fun h_9 => ?_) (fun h_9 => ?_)
            · replace hf := if_f h_9 hf
              refine lv_iinc (v := (v2_4 + 1)) (lv' := [(2, .int (v2_4 + 1)), (0, .ref a_m), (1, .int p1), (3, .int v3_5)]) S.1 S.2.1 dX12_joinArc_38 hl (k := 2) rfl rfl (by decide) rfl (fun ls hl => ?_)
              refine lv_iinc (v := (v3_5 + 1)) (lv' := [(3, .int (v3_5 + 1)), (2, .int (v2_4 + 1)), (0, .ref a_m), (1, .int p1)]) S.1 S.2.1 dX12_joinArc_41 hl (k := 3) rfl rfl (by decide) rfl (fun ls hl => ?_)
              refine lv_goto (tgt := 14) S.1 S.2.1 dX12_joinArc_44 (by decide) ?_
              exact ih (v2_4 + 1) (v3_5 + 1) _ _ _ hw (lv_sub hl [2, 3, 1, 0] rfl) hf
            · replace hf := if_t h_9 hf
              refine lv_iload_n S.1 S.2.1 dX12_joinArc_36 rfl (lv_at hl 3 rfl) ?_
              have e_10 := Option.some.inj hf
              exact hE2 _ _ _ _ _ _ hw rfl e_10 dX12_joinArc_37
    exact hL_14_10 F 0 0 _ _ _ hw (lv_sub hl [2, 3, 1, 0] rfl) hf
  · replace hf := if_t h_1 hf
    refine lv_bipush (v := (-3)) S.1 S.2.1 dX12_joinArc_7 (by decide) ?_
    have e_12 := Option.some.inj hf
    exact hE2 _ _ _ _ _ _ hw rfl e_12 dX12_joinArc_9
def f_X12_rank (p1 : Int32) (p2 : Int32) (p3 : Int32) (m_nodes : Int32) (m_ranks : Nat → Int32) : Option (Int32 × (Nat → Int32)) :=
  (if (f_X12_isNode p1 m_nodes) = 0 then some ((-1), m_ranks) else (if (f_X12_isNode p2 m_nodes) = 0 then some ((-1), m_ranks) else (if p1 = p2 then some ((-2), m_ranks) else (if p3 < (-1) then some ((-2), m_ranks) else (if p3 ≤ 99 then rd 256 m_ranks ((16 * p1) + p2) (fun y_16 => wr 256 m_ranks ((16 * p1) + p2) p3 (fun m_ranks_17 => some (y_16, m_ranks_17))) else some ((-2), m_ranks))))))
set_option maxHeartbeats 4000000 in
set_option maxRecDepth 100000 in
theorem c_X12_rank (l : Launch) (E : Ev) (m_nodes : Int32) (m_made : Int32) (a_m_from : Nat) (a_m_to : Nat) (a_m_weighs : Nat) (a_m_alive : Nat) (m_ranks : Nat → Int32) (a_m_ranks : Nat) (m_known : Int32) (a_m_best : Nat) (a_m_most : Nat) (a_m_apart : Nat) (a_m_near : Nat) (a_m_worth : Nat) (a_m_mates : Nat) (a_m_sizes : Nat) (a_m_sums : Nat) (a_m_has : Nat) (a_m_sorts : Nat) (a_m_pieces : Nat) (m_pieceCount : Int32) (m_parts : Int32) (m_halves : Int32) (a_m_inCover : Nat) (m_coverSize : Int32) (m_holdSet : Int32) (a_m_pairCost : Nat) (a_m_inJoin : Nat) (m_hasJoin : Int32) (a_m_half : Nat) (a_m_way : Nat) (a_m_counts : Nat) (a_m_lastCounts : Nat) (a_m_openArc : Nat) (a_m_with : Nat) (a_m_tried : Nat) (m_stables : Int32) (m_firstSet : Int64) (a_m : Nat) (p1 : Int32) (p2 : Int32) (p3 : Int32) (ro : Int32) (u_m_ranks : Nat → Int32) (hf : f_X12_rank p1 p2 p3 m_nodes m_ranks = some (ro, u_m_ranks)) :
    CtI l yX12_rank wsX12_rank (Rm 1) E [.ref a_m, .int p1, .int p2, .int p3] [oC a_m 12 [.int m_nodes, .int m_made, .ref a_m_from, .ref a_m_to, .ref a_m_weighs, .ref a_m_alive, .ref a_m_ranks, .int m_known, .ref a_m_best, .ref a_m_most, .ref a_m_apart, .ref a_m_near, .ref a_m_worth, .ref a_m_mates, .ref a_m_sizes, .ref a_m_sums, .ref a_m_has, .ref a_m_sorts, .ref a_m_pieces, .int m_pieceCount, .int m_parts, .int m_halves, .ref a_m_inCover, .int m_coverSize, .int m_holdSet, .ref a_m_pairCost, .ref a_m_inJoin, .int m_hasJoin, .ref a_m_half, .ref a_m_way, .ref a_m_counts, .ref a_m_lastCounts, .ref a_m_openArc, .ref a_m_with, .ref a_m_tried, .int m_stables, .long m_firstSet], aI E a_m_ranks 256 m_ranks] ro [oC a_m 12 [.int m_nodes, .int m_made, .ref a_m_from, .ref a_m_to, .ref a_m_weighs, .ref a_m_alive, .ref a_m_ranks, .int m_known, .ref a_m_best, .ref a_m_most, .ref a_m_apart, .ref a_m_near, .ref a_m_worth, .ref a_m_mates, .ref a_m_sizes, .ref a_m_sums, .ref a_m_has, .ref a_m_sorts, .ref a_m_pieces, .int m_pieceCount, .int m_parts, .int m_halves, .ref a_m_inCover, .int m_coverSize, .int m_holdSet, .ref a_m_pairCost, .ref a_m_inJoin, .int m_hasJoin, .ref a_m_half, .ref a_m_way, .ref a_m_counts, .ref a_m_lastCounts, .ref a_m_openArc, .ref a_m_with, .ref a_m_tried, .int m_stables, .long m_firstSet], aI E a_m_ranks 256 u_m_ranks] := by
  refine ofI (cc := cX12_rank) (maxL := 5) (own := RX12) rfl rfl (by decide) rfl rfl ?_
  intro p e s m below meth c A ls Q S hnm hN hw hA hl0 hE
  have hE2 : ∀ (H : Heap) (locs : List Loc) (pc : Nat) (ls : Array Slot) (r' : Int32) (w' : va_W), Wo E A s w' H locs → w' = [oC a_m 12 [.int m_nodes, .int m_made, .ref a_m_from, .ref a_m_to, .ref a_m_weighs, .ref a_m_alive, .ref a_m_ranks, .int m_known, .ref a_m_best, .ref a_m_most, .ref a_m_apart, .ref a_m_near, .ref a_m_worth, .ref a_m_mates, .ref a_m_sizes, .ref a_m_sums, .ref a_m_has, .ref a_m_sorts, .ref a_m_pieces, .int m_pieceCount, .int m_parts, .int m_halves, .ref a_m_inCover, .int m_coverSize, .int m_holdSet, .ref a_m_pairCost, .ref a_m_inJoin, .int m_hasJoin, .ref a_m_half, .ref a_m_way, .ref a_m_counts, .ref a_m_lastCounts, .ref a_m_openArc, .ref a_m_with, .ref a_m_tried, .int m_stables, .long m_firstSet], aI E a_m_ranks 256 u_m_ranks] → r' = ro → decode cX12_rank pc = .ok (.ireturn, 1) → W p l e (Rm 1) s m (([.ref a_m, .int p1, .int p2, .int p3] : List Value).toArray) below meth c H locs 0 0 Q (F0 m pc ls [.int r']) := by
    intro H locs pc ls r' w' hw e1 e2 hd
    subst e1
    subst e2
    exact hE H locs pc ls hw hd
  have hl : lv_has ls 5 [(0, .ref a_m), (1, .int p1), (2, .int p2), (3, .int p3)] := hl0 _ (lv_entry [.ref a_m, .int p1, .int p2, .int p3] (n := 5) (Nat.le_of_ble_eq_true rfl))
  have iX12 : ∀ w ∈ wsX120, w ∈ wsX12_rank := by decide +kernel
  have k23 := S.2.2.2.2 (.fieldLink RX12 23 "PairMatchingModel" "ranks" "[I") (by decide +kernel)
  unfold f_X12_rank at hf
  refine lv_aload_n S.1 S.2.1 dX12_rank_0 rfl (lv_at hl 0 rfl) ?_
  refine lv_iload_n S.1 S.2.1 dX12_rank_1 rfl (lv_at hl 1 rfl) ?_
  refine g_calli (r := (f_X12_isNode p1 m_nodes)) (wc := [oC a_m 12 [.int m_nodes, .int m_made, .ref a_m_from, .ref a_m_to, .ref a_m_weighs, .ref a_m_alive, .ref a_m_ranks, .int m_known, .ref a_m_best, .ref a_m_most, .ref a_m_apart, .ref a_m_near, .ref a_m_worth, .ref a_m_mates, .ref a_m_sizes, .ref a_m_sums, .ref a_m_has, .ref a_m_sorts, .ref a_m_pieces, .int m_pieceCount, .int m_parts, .int m_halves, .ref a_m_inCover, .int m_coverSize, .int m_holdSet, .ref a_m_pairCost, .ref a_m_inJoin, .int m_hasJoin, .ref a_m_half, .ref a_m_way, .ref a_m_counts, .ref a_m_lastCounts, .ref a_m_openArc, .ref a_m_with, .ref a_m_tried, .int m_stables, .long m_firstSet]]) (wr := [aI E a_m_ranks 256 m_ranks]) (w1 := [oC a_m 12 [.int m_nodes, .int m_made, .ref a_m_from, .ref a_m_to, .ref a_m_weighs, .ref a_m_alive, .ref a_m_ranks, .int m_known, .ref a_m_best, .ref a_m_most, .ref a_m_apart, .ref a_m_near, .ref a_m_worth, .ref a_m_mates, .ref a_m_sizes, .ref a_m_sums, .ref a_m_has, .ref a_m_sorts, .ref a_m_pieces, .int m_pieceCount, .int m_parts, .int m_halves, .ref a_m_inCover, .int m_coverSize, .int m_holdSet, .ref a_m_pairCost, .ref a_m_inJoin, .int m_hasJoin, .ref a_m_half, .ref a_m_way, .ref a_m_counts, .ref a_m_lastCounts, .ref a_m_openArc, .ref a_m_with, .ref a_m_tried, .int m_stables, .long m_firstSet]]) (va_runV (As := [.int p1]) (rest := []) S (c_X12_isNode l E m_nodes m_made a_m_from a_m_to a_m_weighs a_m_alive a_m_ranks m_known a_m_best a_m_most a_m_apart a_m_near a_m_worth a_m_mates a_m_sizes a_m_sums a_m_has a_m_sorts a_m_pieces m_pieceCount m_parts m_halves a_m_inCover m_coverSize m_holdSet a_m_pairCost a_m_inJoin m_hasJoin a_m_half a_m_way a_m_counts a_m_lastCounts a_m_openArc a_m_with a_m_tried m_stables m_firstSet a_m p1 (f_X12_isNode p1 m_nodes) rfl _) (cwV 1 S.2.2.2.2 gX12_rank_X12_isNode rfl rfl rfl (by decide +kernel) (rm_le (by omega) (by decide))) (preV (q := (RX12, TX12, 37)) hN hw [0] rfl rfl rfl rfl) rfl rfl hl.1 rfl (lv_room (Nat.le_of_ble_eq_true rfl)) dX12_rank_2 ⟨Nat.le_refl _, Nat.le_refl _⟩) hw hA [0] [1] rfl rfl rfl (by decide) (fun H locs hw => ?_)
  have hw : Wo E A s [aI E a_m_ranks 256 m_ranks, oC a_m 12 [.int m_nodes, .int m_made, .ref a_m_from, .ref a_m_to, .ref a_m_weighs, .ref a_m_alive, .ref a_m_ranks, .int m_known, .ref a_m_best, .ref a_m_most, .ref a_m_apart, .ref a_m_near, .ref a_m_worth, .ref a_m_mates, .ref a_m_sizes, .ref a_m_sums, .ref a_m_has, .ref a_m_sorts, .ref a_m_pieces, .int m_pieceCount, .int m_parts, .int m_halves, .ref a_m_inCover, .int m_coverSize, .int m_holdSet, .ref a_m_pairCost, .ref a_m_inJoin, .int m_hasJoin, .ref a_m_half, .ref a_m_way, .ref a_m_counts, .ref a_m_lastCounts, .ref a_m_openArc, .ref a_m_with, .ref a_m_tried, .int m_stables, .long m_firstSet]] H _ := hw
  refine lv_if_eq (tgt := 16) S.1 S.2.1 dX12_rank_5 (by decide) (fun h_3 => ?_) (fun h_3 => ?_)
  · replace hf := if_t h_3 hf
    refine lv_iconst (v := (-1)) S.1 S.2.1 dX12_rank_16 (by decide) ?_
    obtain ⟨e_4, e_5⟩ := tp2 hf
    exact hE2 _ _ _ _ _ _ (hw.sub [1, 0] rfl rfl) (cg1 (fun (x1 : Nat → Int32) => [oC a_m 12 [.int m_nodes, .int m_made, .ref a_m_from, .ref a_m_to, .ref a_m_weighs, .ref a_m_alive, .ref a_m_ranks, .int m_known, .ref a_m_best, .ref a_m_most, .ref a_m_apart, .ref a_m_near, .ref a_m_worth, .ref a_m_mates, .ref a_m_sizes, .ref a_m_sums, .ref a_m_has, .ref a_m_sorts, .ref a_m_pieces, .int m_pieceCount, .int m_parts, .int m_halves, .ref a_m_inCover, .int m_coverSize, .int m_holdSet, .ref a_m_pairCost, .ref a_m_inJoin, .int m_hasJoin, .ref a_m_half, .ref a_m_way, .ref a_m_counts, .ref a_m_lastCounts, .ref a_m_openArc, .ref a_m_with, .ref a_m_tried, .int m_stables, .long m_firstSet], aI E a_m_ranks 256 x1]) e_5) e_4 dX12_rank_17
  · replace hf := if_f h_3 hf
    refine lv_aload_n S.1 S.2.1 dX12_rank_8 rfl (lv_at hl 0 rfl) ?_
    refine lv_iload_n S.1 S.2.1 dX12_rank_9 rfl (lv_at hl 2 rfl) ?_
    refine g_calli (r := (f_X12_isNode p2 m_nodes)) (wc := [oC a_m 12 [.int m_nodes, .int m_made, .ref a_m_from, .ref a_m_to, .ref a_m_weighs, .ref a_m_alive, .ref a_m_ranks, .int m_known, .ref a_m_best, .ref a_m_most, .ref a_m_apart, .ref a_m_near, .ref a_m_worth, .ref a_m_mates, .ref a_m_sizes, .ref a_m_sums, .ref a_m_has, .ref a_m_sorts, .ref a_m_pieces, .int m_pieceCount, .int m_parts, .int m_halves, .ref a_m_inCover, .int m_coverSize, .int m_holdSet, .ref a_m_pairCost, .ref a_m_inJoin, .int m_hasJoin, .ref a_m_half, .ref a_m_way, .ref a_m_counts, .ref a_m_lastCounts, .ref a_m_openArc, .ref a_m_with, .ref a_m_tried, .int m_stables, .long m_firstSet]]) (wr := [aI E a_m_ranks 256 m_ranks]) (w1 := [oC a_m 12 [.int m_nodes, .int m_made, .ref a_m_from, .ref a_m_to, .ref a_m_weighs, .ref a_m_alive, .ref a_m_ranks, .int m_known, .ref a_m_best, .ref a_m_most, .ref a_m_apart, .ref a_m_near, .ref a_m_worth, .ref a_m_mates, .ref a_m_sizes, .ref a_m_sums, .ref a_m_has, .ref a_m_sorts, .ref a_m_pieces, .int m_pieceCount, .int m_parts, .int m_halves, .ref a_m_inCover, .int m_coverSize, .int m_holdSet, .ref a_m_pairCost, .ref a_m_inJoin, .int m_hasJoin, .ref a_m_half, .ref a_m_way, .ref a_m_counts, .ref a_m_lastCounts, .ref a_m_openArc, .ref a_m_with, .ref a_m_tried, .int m_stables, .long m_firstSet]]) (va_runV (As := [.int p2]) (rest := []) S (c_X12_isNode l E m_nodes m_made a_m_from a_m_to a_m_weighs a_m_alive a_m_ranks m_known a_m_best a_m_most a_m_apart a_m_near a_m_worth a_m_mates a_m_sizes a_m_sums a_m_has a_m_sorts a_m_pieces m_pieceCount m_parts m_halves a_m_inCover m_coverSize m_holdSet a_m_pairCost a_m_inJoin m_hasJoin a_m_half a_m_way a_m_counts a_m_lastCounts a_m_openArc a_m_with a_m_tried m_stables m_firstSet a_m p2 (f_X12_isNode p2 m_nodes) rfl _) (cwV 1 S.2.2.2.2 gX12_rank_X12_isNode rfl rfl rfl (by decide +kernel) (rm_le (by omega) (by decide))) (preV (q := (RX12, TX12, 37)) hN hw [1] rfl rfl rfl rfl) rfl rfl hl.1 rfl (lv_room (Nat.le_of_ble_eq_true rfl)) dX12_rank_10 ⟨Nat.le_refl _, Nat.le_refl _⟩) hw hA [1] [0] rfl rfl rfl (by decide) (fun H locs hw => ?_)
    have hw : Wo E A s [aI E a_m_ranks 256 m_ranks, oC a_m 12 [.int m_nodes, .int m_made, .ref a_m_from, .ref a_m_to, .ref a_m_weighs, .ref a_m_alive, .ref a_m_ranks, .int m_known, .ref a_m_best, .ref a_m_most, .ref a_m_apart, .ref a_m_near, .ref a_m_worth, .ref a_m_mates, .ref a_m_sizes, .ref a_m_sums, .ref a_m_has, .ref a_m_sorts, .ref a_m_pieces, .int m_pieceCount, .int m_parts, .int m_halves, .ref a_m_inCover, .int m_coverSize, .int m_holdSet, .ref a_m_pairCost, .ref a_m_inJoin, .int m_hasJoin, .ref a_m_half, .ref a_m_way, .ref a_m_counts, .ref a_m_lastCounts, .ref a_m_openArc, .ref a_m_with, .ref a_m_tried, .int m_stables, .long m_firstSet]] H _ := hw
    refine lv_if_ne (tgt := 18) S.1 S.2.1 dX12_rank_13 (by decide) (fun h_8 => ?_) (fun h_8 => ?_)
    · replace hf := if_f h_8 hf
      refine lv_iload_n S.1 S.2.1 dX12_rank_18 rfl (lv_at hl 1 rfl) ?_
      refine lv_iload_n S.1 S.2.1 dX12_rank_19 rfl (lv_at hl 2 rfl) ?_
      refine lv_icmp_eq (tgt := 34) S.1 S.2.1 dX12_rank_20 (by decide) (fun h_9 => ?_) (fun h_9 => ?_)
      · replace hf := if_t h_9 hf
        refine lv_bipush (v := (-2)) S.1 S.2.1 dX12_rank_34 (by decide) ?_
        obtain ⟨e_10, e_11⟩ := tp2 hf
        exact hE2 _ _ _ _ _ _ (hw.sub [1, 0] rfl rfl) (cg1 (fun (x1 : Nat → Int32) => [oC a_m 12 [.int m_nodes, .int m_made, .ref a_m_from, .ref a_m_to, .ref a_m_weighs, .ref a_m_alive, .ref a_m_ranks, .int m_known, .ref a_m_best, .ref a_m_most, .ref a_m_apart, .ref a_m_near, .ref a_m_worth, .ref a_m_mates, .ref a_m_sizes, .ref a_m_sums, .ref a_m_has, .ref a_m_sorts, .ref a_m_pieces, .int m_pieceCount, .int m_parts, .int m_halves, .ref a_m_inCover, .int m_coverSize, .int m_holdSet, .ref a_m_pairCost, .ref a_m_inJoin, .int m_hasJoin, .ref a_m_half, .ref a_m_way, .ref a_m_counts, .ref a_m_lastCounts, .ref a_m_openArc, .ref a_m_with, .ref a_m_tried, .int m_stables, .long m_firstSet], aI E a_m_ranks 256 x1]) e_11) e_10 dX12_rank_36
      · replace hf := if_f h_9 hf
        refine lv_iload_n S.1 S.2.1 dX12_rank_23 rfl (lv_at hl 3 rfl) ?_
        refine lv_iconst (v := (-1)) S.1 S.2.1 dX12_rank_24 (by decide) ?_
        refine lv_icmp_lt (tgt := 34) S.1 S.2.1 dX12_rank_25 (by decide) (fun h_12 => ?_) (fun h_12 => ?_)
        · replace hf := if_t h_12 hf
          refine lv_bipush (v := (-2)) S.1 S.2.1 dX12_rank_34 (by decide) ?_
          obtain ⟨e_13, e_14⟩ := tp2 hf
          exact hE2 _ _ _ _ _ _ (hw.sub [1, 0] rfl rfl) (cg1 (fun (x1 : Nat → Int32) => [oC a_m 12 [.int m_nodes, .int m_made, .ref a_m_from, .ref a_m_to, .ref a_m_weighs, .ref a_m_alive, .ref a_m_ranks, .int m_known, .ref a_m_best, .ref a_m_most, .ref a_m_apart, .ref a_m_near, .ref a_m_worth, .ref a_m_mates, .ref a_m_sizes, .ref a_m_sums, .ref a_m_has, .ref a_m_sorts, .ref a_m_pieces, .int m_pieceCount, .int m_parts, .int m_halves, .ref a_m_inCover, .int m_coverSize, .int m_holdSet, .ref a_m_pairCost, .ref a_m_inJoin, .int m_hasJoin, .ref a_m_half, .ref a_m_way, .ref a_m_counts, .ref a_m_lastCounts, .ref a_m_openArc, .ref a_m_with, .ref a_m_tried, .int m_stables, .long m_firstSet], aI E a_m_ranks 256 x1]) e_14) e_13 dX12_rank_36
        · replace hf := if_f h_12 hf
          refine lv_iload_n S.1 S.2.1 dX12_rank_28 rfl (lv_at hl 3 rfl) ?_
          refine lv_bipush (v := 99) S.1 S.2.1 dX12_rank_29 (by decide) ?_
          refine lv_icmp_le (tgt := 37) S.1 S.2.1 dX12_rank_31 (by decide) (fun h_15 => ?_) (fun h_15 => ?_)
          · replace hf := if_t h_15 hf
            refine lv_aload_n S.1 S.2.1 dX12_rank_37 rfl (lv_at hl 0 rfl) ?_
            refine g_get S hN hw (C := RX12) (T := TX12) (N := 37) (ci := 12) (v := .ref a_m_ranks) 1 6 iX12 k23 dX12_rank_38 rfl rfl (by decide) rfl ?_
            refine lv_bipush (v := 16) S.1 S.2.1 dX12_rank_41 (by decide) ?_
            refine lv_iload_n S.1 S.2.1 dX12_rank_43 rfl (lv_at hl 1 rfl) ?_
            refine lv_imul S.1 S.2.1 dX12_rank_44 ?_
            refine lv_iload_n S.1 S.2.1 dX12_rank_45 rfl (lv_at hl 2 rfl) ?_
            refine lv_iadd S.1 S.2.1 dX12_rank_46 ?_
            obtain ⟨hi_15, hf⟩ := rd_s hf
            refine g_iald (n := 256) (f := m_ranks) S hN hw 0 hi_15 dX12_rank_47 rfl ?_
            generalize m_ranks (((16 * p1) + p2) : Int32).toNatClampNeg = y_16 at hf ⊢
            refine lv_istore (lv' := [(4, .int y_16), (0, .ref a_m), (1, .int p1), (2, .int p2), (3, .int p3)]) S.1 S.2.1 dX12_rank_48 hl (by decide) rfl (fun ls hl => ?_)
            refine lv_aload_n S.1 S.2.1 dX12_rank_50 rfl (lv_at hl 1 rfl) ?_
            refine g_get S hN hw (C := RX12) (T := TX12) (N := 37) (ci := 12) (v := .ref a_m_ranks) 1 6 iX12 k23 dX12_rank_51 rfl rfl (by decide) rfl ?_
            refine lv_bipush (v := 16) S.1 S.2.1 dX12_rank_54 (by decide) ?_
            refine lv_iload_n S.1 S.2.1 dX12_rank_56 rfl (lv_at hl 2 rfl) ?_
            refine lv_imul S.1 S.2.1 dX12_rank_57 ?_
            refine lv_iload_n S.1 S.2.1 dX12_rank_58 rfl (lv_at hl 3 rfl) ?_
            refine lv_iadd S.1 S.2.1 dX12_rank_59 ?_
            refine lv_iload_n S.1 S.2.1 dX12_rank_60 rfl (lv_at hl 4 rfl) ?_
            obtain ⟨hi_16, hf⟩ := wr_s hf
            refine g_iast (n := 256) (f := m_ranks) (w1 := [aI E a_m_ranks 256 (va_up m_ranks (((16 * p1) + p2) : Int32).toNatClampNeg p3), oC a_m 12 [.int m_nodes, .int m_made, .ref a_m_from, .ref a_m_to, .ref a_m_weighs, .ref a_m_alive, .ref a_m_ranks, .int m_known, .ref a_m_best, .ref a_m_most, .ref a_m_apart, .ref a_m_near, .ref a_m_worth, .ref a_m_mates, .ref a_m_sizes, .ref a_m_sums, .ref a_m_has, .ref a_m_sorts, .ref a_m_pieces, .int m_pieceCount, .int m_parts, .int m_halves, .ref a_m_inCover, .int m_coverSize, .int m_holdSet, .ref a_m_pairCost, .ref a_m_inJoin, .int m_hasJoin, .ref a_m_half, .ref a_m_way, .ref a_m_counts, .ref a_m_lastCounts, .ref a_m_openArc, .ref a_m_with, .ref a_m_tried, .int m_stables, .long m_firstSet]]) S hN hw 0 hi_16 dX12_rank_61 rfl rfl (fun H locs hw => ?_)
            generalize va_up m_ranks (((16 * p1) + p2) : Int32).toNatClampNeg p3 = m_ranks_17 at hf hw
            refine lv_iload S.1 S.2.1 dX12_rank_62 (lv_at hl 0 rfl) ?_
            obtain ⟨e_18, e_19⟩ := tp2 hf
            exact hE2 _ _ _ _ _ _ (hw.sub [1, 0] rfl rfl) (cg1 (fun (x1 : Nat → Int32) => [oC a_m 12 [.int m_nodes, .int m_made, .ref a_m_from, .ref a_m_to, .ref a_m_weighs, .ref a_m_alive, .ref a_m_ranks, .int m_known, .ref a_m_best, .ref a_m_most, .ref a_m_apart, .ref a_m_near, .ref a_m_worth, .ref a_m_mates, .ref a_m_sizes, .ref a_m_sums, .ref a_m_has, .ref a_m_sorts, .ref a_m_pieces, .int m_pieceCount, .int m_parts, .int m_halves, .ref a_m_inCover, .int m_coverSize, .int m_holdSet, .ref a_m_pairCost, .ref a_m_inJoin, .int m_hasJoin, .ref a_m_half, .ref a_m_way, .ref a_m_counts, .ref a_m_lastCounts, .ref a_m_openArc, .ref a_m_with, .ref a_m_tried, .int m_stables, .long m_firstSet], aI E a_m_ranks 256 x1]) e_19) e_18 dX12_rank_64
          · replace hf := if_f h_15 hf
            refine lv_bipush (v := (-2)) S.1 S.2.1 dX12_rank_34 (by decide) ?_
            obtain ⟨e_20, e_21⟩ := tp2 hf
            exact hE2 _ _ _ _ _ _ (hw.sub [1, 0] rfl rfl) (cg1 (fun (x1 : Nat → Int32) => [oC a_m 12 [.int m_nodes, .int m_made, .ref a_m_from, .ref a_m_to, .ref a_m_weighs, .ref a_m_alive, .ref a_m_ranks, .int m_known, .ref a_m_best, .ref a_m_most, .ref a_m_apart, .ref a_m_near, .ref a_m_worth, .ref a_m_mates, .ref a_m_sizes, .ref a_m_sums, .ref a_m_has, .ref a_m_sorts, .ref a_m_pieces, .int m_pieceCount, .int m_parts, .int m_halves, .ref a_m_inCover, .int m_coverSize, .int m_holdSet, .ref a_m_pairCost, .ref a_m_inJoin, .int m_hasJoin, .ref a_m_half, .ref a_m_way, .ref a_m_counts, .ref a_m_lastCounts, .ref a_m_openArc, .ref a_m_with, .ref a_m_tried, .int m_stables, .long m_firstSet], aI E a_m_ranks 256 x1]) e_21) e_20 dX12_rank_36
    · replace hf := if_t h_8 hf
      refine lv_iconst (v := (-1)) S.1 S.2.1 dX12_rank_16 (by decide) ?_
      obtain ⟨e_22, e_23⟩ := tp2 hf
      exact hE2 _ _ _ _ _ _ (hw.sub [1, 0] rfl rfl) (cg1 (fun (x1 : Nat → Int32) => [oC a_m 12 [.int m_nodes, .int m_made, .ref a_m_from, .ref a_m_to, .ref a_m_weighs, .ref a_m_alive, .ref a_m_ranks, .int m_known, .ref a_m_best, .ref a_m_most, .ref a_m_apart, .ref a_m_near, .ref a_m_worth, .ref a_m_mates, .ref a_m_sizes, .ref a_m_sums, .ref a_m_has, .ref a_m_sorts, .ref a_m_pieces, .int m_pieceCount, .int m_parts, .int m_halves, .ref a_m_inCover, .int m_coverSize, .int m_holdSet, .ref a_m_pairCost, .ref a_m_inJoin, .int m_hasJoin, .ref a_m_half, .ref a_m_way, .ref a_m_counts, .ref a_m_lastCounts, .ref a_m_openArc, .ref a_m_with, .ref a_m_tried, .int m_stables, .long m_firstSet], aI E a_m_ranks 256 x1]) e_23) e_22 dX12_rank_17
def f_X12_findOpen_L29 (m_from : Nat → Int32) (m_to : Nat → Int32) (m_alive : Nat → Int32) (m_ranks : Nat → Int32) (kk_114_3 : (Nat → Int32) → Option ((Nat → Int32))) : Nat → Int32 → (Nat → Int32) → Option ((Nat → Int32))
  | 0, _, _ => none
  | n + 1, v1_5, m_openArc_6 => (if v1_5 < 0 then (kk_114_3 m_openArc_6) else rd 60 m_from v1_5 (fun y_8 => rd 60 m_to v1_5 (fun y_9 => rd 60 m_alive v1_5 (fun y_10 => (if y_10 = 0 then (f_X12_findOpen_L29 m_from m_to m_alive m_ranks kk_114_3 n (v1_5 + (-1)) m_openArc_6) else rd 256 m_ranks ((16 * y_8) + y_9) (fun y_12 => (if y_12 < 0 then (f_X12_findOpen_L29 m_from m_to m_alive m_ranks kk_114_3 n (v1_5 + (-1)) m_openArc_6) else rd 256 m_ranks ((16 * y_9) + y_8) (fun y_14 => (if y_14 < 0 then (f_X12_findOpen_L29 m_from m_to m_alive m_ranks kk_114_3 n (v1_5 + (-1)) m_openArc_6) else wr 256 m_openArc_6 ((16 * y_8) + y_9) v1_5 (fun m_openArc_16 => wr 256 m_openArc_16 ((16 * y_9) + y_8) v1_5 (fun m_openArc_17 => (f_X12_findOpen_L29 m_from m_to m_alive m_ranks kk_114_3 n (v1_5 + (-1)) m_openArc_17))))))))))))
def f_X12_findOpen_L2 (kk_22_18 : (Nat → Int32) → Option ((Nat → Int32))) : Nat → Int32 → (Nat → Int32) → Option ((Nat → Int32))
  | 0, _, _ => none
  | n + 1, v1_20, m_openArc_21 => (if 256 ≤ v1_20 then (kk_22_18 m_openArc_21) else wr 256 m_openArc_21 v1_20 (-1) (fun m_openArc_23 => (f_X12_findOpen_L2 kk_22_18 n (v1_20 + 1) m_openArc_23)))
def f_X12_findOpen (F : Nat) (m_made : Int32) (m_from : Nat → Int32) (m_to : Nat → Int32) (m_alive : Nat → Int32) (m_ranks : Nat → Int32) (m_openArc : Nat → Int32) : Option ((Nat → Int32)) :=
  (jn (fun (m_openArc_1 : Nat → Int32) => (jn (fun (m_openArc_2 : Nat → Int32) => some m_openArc_2) (fun kk_114_3 => (f_X12_findOpen_L29 m_from m_to m_alive m_ranks kk_114_3 F (m_made - 1) m_openArc_1)))) (fun kk_22_18 => (f_X12_findOpen_L2 kk_22_18 F 0 m_openArc)))
set_option maxHeartbeats 4000000 in
set_option maxRecDepth 100000 in
theorem c_X12_findOpen (l : Launch) (E : Ev) (F : Nat) (m_nodes : Int32) (m_made : Int32) (m_from : Nat → Int32) (a_m_from : Nat) (m_to : Nat → Int32) (a_m_to : Nat) (a_m_weighs : Nat) (m_alive : Nat → Int32) (a_m_alive : Nat) (m_ranks : Nat → Int32) (a_m_ranks : Nat) (m_known : Int32) (a_m_best : Nat) (a_m_most : Nat) (a_m_apart : Nat) (a_m_near : Nat) (a_m_worth : Nat) (a_m_mates : Nat) (a_m_sizes : Nat) (a_m_sums : Nat) (a_m_has : Nat) (a_m_sorts : Nat) (a_m_pieces : Nat) (m_pieceCount : Int32) (m_parts : Int32) (m_halves : Int32) (a_m_inCover : Nat) (m_coverSize : Int32) (m_holdSet : Int32) (a_m_pairCost : Nat) (a_m_inJoin : Nat) (m_hasJoin : Int32) (a_m_half : Nat) (a_m_way : Nat) (a_m_counts : Nat) (a_m_lastCounts : Nat) (m_openArc : Nat → Int32) (a_m_openArc : Nat) (a_m_with : Nat) (a_m_tried : Nat) (m_stables : Int32) (m_firstSet : Int64) (a_m : Nat) (u_m_openArc : Nat → Int32) (hf : f_X12_findOpen F m_made m_from m_to m_alive m_ranks m_openArc = some u_m_openArc) :
    CtV l yX12_findOpen wsX12_findOpen (Rm 0) E [.ref a_m] [oC a_m 12 [.int m_nodes, .int m_made, .ref a_m_from, .ref a_m_to, .ref a_m_weighs, .ref a_m_alive, .ref a_m_ranks, .int m_known, .ref a_m_best, .ref a_m_most, .ref a_m_apart, .ref a_m_near, .ref a_m_worth, .ref a_m_mates, .ref a_m_sizes, .ref a_m_sums, .ref a_m_has, .ref a_m_sorts, .ref a_m_pieces, .int m_pieceCount, .int m_parts, .int m_halves, .ref a_m_inCover, .int m_coverSize, .int m_holdSet, .ref a_m_pairCost, .ref a_m_inJoin, .int m_hasJoin, .ref a_m_half, .ref a_m_way, .ref a_m_counts, .ref a_m_lastCounts, .ref a_m_openArc, .ref a_m_with, .ref a_m_tried, .int m_stables, .long m_firstSet], aI E a_m_from 60 m_from, aI E a_m_to 60 m_to, aZ E a_m_alive 60 m_alive, aI E a_m_ranks 256 m_ranks, aI E a_m_openArc 256 m_openArc] [oC a_m 12 [.int m_nodes, .int m_made, .ref a_m_from, .ref a_m_to, .ref a_m_weighs, .ref a_m_alive, .ref a_m_ranks, .int m_known, .ref a_m_best, .ref a_m_most, .ref a_m_apart, .ref a_m_near, .ref a_m_worth, .ref a_m_mates, .ref a_m_sizes, .ref a_m_sums, .ref a_m_has, .ref a_m_sorts, .ref a_m_pieces, .int m_pieceCount, .int m_parts, .int m_halves, .ref a_m_inCover, .int m_coverSize, .int m_holdSet, .ref a_m_pairCost, .ref a_m_inJoin, .int m_hasJoin, .ref a_m_half, .ref a_m_way, .ref a_m_counts, .ref a_m_lastCounts, .ref a_m_openArc, .ref a_m_with, .ref a_m_tried, .int m_stables, .long m_firstSet], aI E a_m_from 60 m_from, aI E a_m_to 60 m_to, aZ E a_m_alive 60 m_alive, aI E a_m_ranks 256 m_ranks, aI E a_m_openArc 256 u_m_openArc] := by
  refine ofV (cc := cX12_findOpen) (maxL := 4) (own := RX12) rfl rfl (by decide) rfl rfl ?_
  intro p e s m below meth c A ls Q S hnm hN hw hA hl0 hE
  have hE2 : ∀ (H : Heap) (locs : List Loc) (pc : Nat) (ls : Array Slot) (w' : va_W), Wo E A s w' H locs → w' = [oC a_m 12 [.int m_nodes, .int m_made, .ref a_m_from, .ref a_m_to, .ref a_m_weighs, .ref a_m_alive, .ref a_m_ranks, .int m_known, .ref a_m_best, .ref a_m_most, .ref a_m_apart, .ref a_m_near, .ref a_m_worth, .ref a_m_mates, .ref a_m_sizes, .ref a_m_sums, .ref a_m_has, .ref a_m_sorts, .ref a_m_pieces, .int m_pieceCount, .int m_parts, .int m_halves, .ref a_m_inCover, .int m_coverSize, .int m_holdSet, .ref a_m_pairCost, .ref a_m_inJoin, .int m_hasJoin, .ref a_m_half, .ref a_m_way, .ref a_m_counts, .ref a_m_lastCounts, .ref a_m_openArc, .ref a_m_with, .ref a_m_tried, .int m_stables, .long m_firstSet], aI E a_m_from 60 m_from, aI E a_m_to 60 m_to, aZ E a_m_alive 60 m_alive, aI E a_m_ranks 256 m_ranks, aI E a_m_openArc 256 u_m_openArc] → decode cX12_findOpen pc = .ok (.return_, 1) → W p l e (Rm 0) s m (([.ref a_m] : List Value).toArray) below meth c H locs 0 0 Q (F0 m pc ls []) := by
    intro H locs pc ls w' hw e1 hd
    subst e1
    exact hE H locs pc ls hw hd
  have hl : lv_has ls 4 [(0, .ref a_m)] := hl0 _ (lv_entry [.ref a_m] (n := 4) (Nat.le_of_ble_eq_true rfl))
  have iX12 : ∀ w ∈ wsX120, w ∈ wsX12_findOpen := by decide +kernel
  have k13 := S.2.2.2.2 (.fieldLink RX12 13 "PairMatchingModel" "to" "[I") (by decide +kernel)
  have k19 := S.2.2.2.2 (.fieldLink RX12 19 "PairMatchingModel" "alive" "[Z") (by decide +kernel)
  have k23 := S.2.2.2.2 (.fieldLink RX12 23 "PairMatchingModel" "ranks" "[I") (by decide +kernel)
  have k7 := S.2.2.2.2 (.fieldLink RX12 7 "PairMatchingModel" "from" "[I") (by decide +kernel)
  have k83 := S.2.2.2.2 (.fieldLink RX12 83 "PairMatchingModel" "openArc" "[I") (by decide +kernel)
  have k97 := S.2.2.2.2 (.fieldLink RX12 97 "PairMatchingModel" "made" "I") (by decide +kernel)
  unfold f_X12_findOpen at hf
  refine lv_iconst (v := 0) S.1 S.2.1 dX12_findOpen_0 (by decide) ?_
  refine lv_istore_n (lv' := [(1, .int 0), (0, .ref a_m)]) S.1 S.2.1 dX12_findOpen_1 rfl hl (by decide) rfl (fun ls hl => ?_)
  obtain ⟨kk_22_18, ekk_22_18, hf⟩ := jn_s hf
  have hJ_kk_22_18 : ∀ (m_openArc_1 : Nat → Int32) (H : Heap) (locs : List Loc) (ls : Array Slot), Wo E A s [oC a_m 12 [.int m_nodes, .int m_made, .ref a_m_from, .ref a_m_to, .ref a_m_weighs, .ref a_m_alive, .ref a_m_ranks, .int m_known, .ref a_m_best, .ref a_m_most, .ref a_m_apart, .ref a_m_near, .ref a_m_worth, .ref a_m_mates, .ref a_m_sizes, .ref a_m_sums, .ref a_m_has, .ref a_m_sorts, .ref a_m_pieces, .int m_pieceCount, .int m_parts, .int m_halves, .ref a_m_inCover, .int m_coverSize, .int m_holdSet, .ref a_m_pairCost, .ref a_m_inJoin, .int m_hasJoin, .ref a_m_half, .ref a_m_way, .ref a_m_counts, .ref a_m_lastCounts, .ref a_m_openArc, .ref a_m_with, .ref a_m_tried, .int m_stables, .long m_firstSet], aI E a_m_from 60 m_from, aI E a_m_to 60 m_to, aZ E a_m_alive 60 m_alive, aI E a_m_ranks 256 m_ranks, aI E a_m_openArc 256 m_openArc_1] H locs → lv_has ls 4 [(0, .ref a_m)] → kk_22_18 m_openArc_1 = some u_m_openArc → W p l e (Rm 0) s m (([.ref a_m] : List Value).toArray) below meth c H locs 0 0 Q (F0 m 22 ls []) := by
    intro m_openArc_1 H locs ls hw hl hf
    rw [ekk_22_18] at hf
    refine lv_aload_n S.1 S.2.1 dX12_findOpen_22 rfl (lv_at hl 0 rfl) ?_
    refine g_get S hN hw (C := RX12) (T := TX12) (N := 37) (ci := 12) (v := .int m_made) 0 1 iX12 k97 dX12_findOpen_23 rfl rfl (by decide) rfl ?_
    refine lv_iconst (v := 1) S.1 S.2.1 dX12_findOpen_26 (by decide) ?_
    refine lv_isub S.1 S.2.1 dX12_findOpen_27 ?_
    refine lv_istore_n (lv' := [(1, .int (m_made - 1)), (0, .ref a_m)]) S.1 S.2.1 dX12_findOpen_28 rfl hl (by decide) rfl (fun ls hl => ?_)
    obtain ⟨kk_114_3, ekk_114_3, hf⟩ := jn_s hf
    have hJ_kk_114_3 : ∀ (m_openArc_2 : Nat → Int32) (H : Heap) (locs : List Loc) (ls : Array Slot), Wo E A s [oC a_m 12 [.int m_nodes, .int m_made, .ref a_m_from, .ref a_m_to, .ref a_m_weighs, .ref a_m_alive, .ref a_m_ranks, .int m_known, .ref a_m_best, .ref a_m_most, .ref a_m_apart, .ref a_m_near, .ref a_m_worth, .ref a_m_mates, .ref a_m_sizes, .ref a_m_sums, .ref a_m_has, .ref a_m_sorts, .ref a_m_pieces, .int m_pieceCount, .int m_parts, .int m_halves, .ref a_m_inCover, .int m_coverSize, .int m_holdSet, .ref a_m_pairCost, .ref a_m_inJoin, .int m_hasJoin, .ref a_m_half, .ref a_m_way, .ref a_m_counts, .ref a_m_lastCounts, .ref a_m_openArc, .ref a_m_with, .ref a_m_tried, .int m_stables, .long m_firstSet], aI E a_m_from 60 m_from, aI E a_m_to 60 m_to, aZ E a_m_alive 60 m_alive, aI E a_m_ranks 256 m_ranks, aI E a_m_openArc 256 m_openArc_2] H locs → lv_has ls 4 [] → kk_114_3 m_openArc_2 = some u_m_openArc → W p l e (Rm 0) s m (([.ref a_m] : List Value).toArray) below meth c H locs 0 0 Q (F0 m 114 ls []) := by
      intro m_openArc_2 H locs ls hw hl hf
      rw [ekk_114_3] at hf
      have e_3 := Option.some.inj hf
      exact hE2 _ _ _ _ _ hw (cg1 (fun (x1 : Nat → Int32) => [oC a_m 12 [.int m_nodes, .int m_made, .ref a_m_from, .ref a_m_to, .ref a_m_weighs, .ref a_m_alive, .ref a_m_ranks, .int m_known, .ref a_m_best, .ref a_m_most, .ref a_m_apart, .ref a_m_near, .ref a_m_worth, .ref a_m_mates, .ref a_m_sizes, .ref a_m_sums, .ref a_m_has, .ref a_m_sorts, .ref a_m_pieces, .int m_pieceCount, .int m_parts, .int m_halves, .ref a_m_inCover, .int m_coverSize, .int m_holdSet, .ref a_m_pairCost, .ref a_m_inJoin, .int m_hasJoin, .ref a_m_half, .ref a_m_way, .ref a_m_counts, .ref a_m_lastCounts, .ref a_m_openArc, .ref a_m_with, .ref a_m_tried, .int m_stables, .long m_firstSet], aI E a_m_from 60 m_from, aI E a_m_to 60 m_to, aZ E a_m_alive 60 m_alive, aI E a_m_ranks 256 m_ranks, aI E a_m_openArc 256 x1]) e_3) dX12_findOpen_114
    have hL_29_17 : ∀ (n : Nat) (v1_5 : Int32) (m_openArc_6 : Nat → Int32) (H : Heap) (locs : List Loc) (ls : Array Slot), Wo E A s [oC a_m 12 [.int m_nodes, .int m_made, .ref a_m_from, .ref a_m_to, .ref a_m_weighs, .ref a_m_alive, .ref a_m_ranks, .int m_known, .ref a_m_best, .ref a_m_most, .ref a_m_apart, .ref a_m_near, .ref a_m_worth, .ref a_m_mates, .ref a_m_sizes, .ref a_m_sums, .ref a_m_has, .ref a_m_sorts, .ref a_m_pieces, .int m_pieceCount, .int m_parts, .int m_halves, .ref a_m_inCover, .int m_coverSize, .int m_holdSet, .ref a_m_pairCost, .ref a_m_inJoin, .int m_hasJoin, .ref a_m_half, .ref a_m_way, .ref a_m_counts, .ref a_m_lastCounts, .ref a_m_openArc, .ref a_m_with, .ref a_m_tried, .int m_stables, .long m_firstSet], aI E a_m_from 60 m_from, aI E a_m_to 60 m_to, aZ E a_m_alive 60 m_alive, aI E a_m_ranks 256 m_ranks, aI E a_m_openArc 256 m_openArc_6] H locs → lv_has ls 4 [(0, .ref a_m), (1, .int v1_5)] → f_X12_findOpen_L29 m_from m_to m_alive m_ranks kk_114_3 n v1_5 m_openArc_6 = some u_m_openArc → W p l e (Rm 0) s m (([.ref a_m] : List Value).toArray) below meth c H locs 0 0 Q (F0 m 29 ls []) := by
      intro n
      induction n with
      | zero => intro v1_5 m_openArc_6 H locs ls hw hl hf; unfold f_X12_findOpen_L29 at hf; cases hf
      | succ n ih =>
        intro v1_5 m_openArc_6 H locs ls hw hl hf
        unfold f_X12_findOpen_L29 at hf
        refine lv_iload_n S.1 S.2.1 dX12_findOpen_29 rfl (lv_at hl 1 rfl) ?_
        refine lv_if_lt (tgt := 114) S.1 S.2.1 dX12_findOpen_30 (by decide) (fun h_7 => ?_) (fun h_7 => ?_)
        · replace hf := if_t h_7 hf
          exact hJ_kk_114_3 m_openArc_6 _ _ _ hw (lv_sub hl [] rfl) hf
        · replace hf := if_f h_7 hf
          refine lv_aload_n S.1 S.2.1 dX12_findOpen_33 rfl (lv_at hl 0 rfl) ?_
          refine g_get S hN hw (C := RX12) (T := TX12) (N := 37) (ci := 12) (v := .ref a_m_from) 0 2 iX12 k7 dX12_findOpen_34 rfl rfl (by decide) rfl ?_
          refine lv_iload_n S.1 S.2.1 dX12_findOpen_37 rfl (lv_at hl 1 rfl) ?_
          obtain ⟨hi_7, hf⟩ := rd_s hf
          refine g_iald (n := 60) (f := m_from) S hN hw 1 hi_7 dX12_findOpen_38 rfl ?_
          generalize m_from (v1_5 : Int32).toNatClampNeg = y_8 at hf ⊢
          refine lv_istore_n (lv' := [(2, .int y_8), (0, .ref a_m), (1, .int v1_5)]) S.1 S.2.1 dX12_findOpen_39 rfl hl (by decide) rfl (fun ls hl => ?_)
          refine lv_aload_n S.1 S.2.1 dX12_findOpen_40 rfl (lv_at hl 1 rfl) ?_
          refine g_get S hN hw (C := RX12) (T := TX12) (N := 37) (ci := 12) (v := .ref a_m_to) 0 3 iX12 k13 dX12_findOpen_41 rfl rfl (by decide) rfl ?_
          refine lv_iload_n S.1 S.2.1 dX12_findOpen_44 rfl (lv_at hl 2 rfl) ?_
          obtain ⟨hi_8, hf⟩ := rd_s hf
          refine g_iald (n := 60) (f := m_to) S hN hw 2 hi_8 dX12_findOpen_45 rfl ?_
          generalize m_to (v1_5 : Int32).toNatClampNeg = y_9 at hf ⊢
          refine lv_istore_n (lv' := [(3, .int y_9), (2, .int y_8), (0, .ref a_m), (1, .int v1_5)]) S.1 S.2.1 dX12_findOpen_46 rfl hl (by decide) rfl (fun ls hl => ?_)
          refine lv_aload_n S.1 S.2.1 dX12_findOpen_47 rfl (lv_at hl 2 rfl) ?_
          refine g_get S hN hw (C := RX12) (T := TX12) (N := 37) (ci := 12) (v := .ref a_m_alive) 0 5 iX12 k19 dX12_findOpen_48 rfl rfl (by decide) rfl ?_
          refine lv_iload_n S.1 S.2.1 dX12_findOpen_51 rfl (lv_at hl 3 rfl) ?_
          obtain ⟨hi_9, hf⟩ := rd_s hf
          refine g_zald (n := 60) (f := m_alive) S hN hw 3 hi_9 dX12_findOpen_52 rfl ?_
          generalize m_alive (v1_5 : Int32).toNatClampNeg = y_10 at hf ⊢
          refine lv_if_eq (tgt := 108) S.1 S.2.1 dX12_findOpen_53 (by decide) (fun h_11 => ?_) (fun h_11 => ?_)
          · replace hf := if_t h_11 hf
            refine lv_iinc (v := (v1_5 + (-1))) (lv' := [(1, .int (v1_5 + (-1))), (3, .int y_9), (2, .int y_8), (0, .ref a_m)]) S.1 S.2.1 dX12_findOpen_108 hl (k := 3) rfl rfl (by decide) rfl (fun ls hl => ?_)
            refine lv_goto (tgt := 29) S.1 S.2.1 dX12_findOpen_111 (by decide) ?_
            exact ih (v1_5 + (-1)) m_openArc_6 _ _ _ hw (lv_sub hl [3, 0] rfl) hf
          · replace hf := if_f h_11 hf
            refine lv_aload_n S.1 S.2.1 dX12_findOpen_56 rfl (lv_at hl 2 rfl) ?_
            refine g_get S hN hw (C := RX12) (T := TX12) (N := 37) (ci := 12) (v := .ref a_m_ranks) 0 6 iX12 k23 dX12_findOpen_57 rfl rfl (by decide) rfl ?_
            refine lv_bipush (v := 16) S.1 S.2.1 dX12_findOpen_60 (by decide) ?_
            refine lv_iload_n S.1 S.2.1 dX12_findOpen_62 rfl (lv_at hl 1 rfl) ?_
            refine lv_imul S.1 S.2.1 dX12_findOpen_63 ?_
            refine lv_iload_n S.1 S.2.1 dX12_findOpen_64 rfl (lv_at hl 0 rfl) ?_
            refine lv_iadd S.1 S.2.1 dX12_findOpen_65 ?_
            obtain ⟨hi_11, hf⟩ := rd_s hf
            refine g_iald (n := 256) (f := m_ranks) S hN hw 4 hi_11 dX12_findOpen_66 rfl ?_
            generalize m_ranks (((16 * y_8) + y_9) : Int32).toNatClampNeg = y_12 at hf ⊢
            refine lv_if_lt (tgt := 108) S.1 S.2.1 dX12_findOpen_67 (by decide) (fun h_13 => ?_) (fun h_13 => ?_)
            · replace hf := if_t h_13 hf
              refine lv_iinc (v := (v1_5 + (-1))) (lv' := [(1, .int (v1_5 + (-1))), (3, .int y_9), (2, .int y_8), (0, .ref a_m)]) S.1 S.2.1 dX12_findOpen_108 hl (k := 3) rfl rfl (by decide) rfl (fun ls hl => ?_)
              refine lv_goto (tgt := 29) S.1 S.2.1 dX12_findOpen_111 (by decide) ?_
              exact ih (v1_5 + (-1)) m_openArc_6 _ _ _ hw (lv_sub hl [3, 0] rfl) hf
            · replace hf := if_f h_13 hf
              refine lv_aload_n S.1 S.2.1 dX12_findOpen_70 rfl (lv_at hl 2 rfl) ?_
              refine g_get S hN hw (C := RX12) (T := TX12) (N := 37) (ci := 12) (v := .ref a_m_ranks) 0 6 iX12 k23 dX12_findOpen_71 rfl rfl (by decide) rfl ?_
              refine lv_bipush (v := 16) S.1 S.2.1 dX12_findOpen_74 (by decide) ?_
              refine lv_iload_n S.1 S.2.1 dX12_findOpen_76 rfl (lv_at hl 0 rfl) ?_
              refine lv_imul S.1 S.2.1 dX12_findOpen_77 ?_
              refine lv_iload_n S.1 S.2.1 dX12_findOpen_78 rfl (lv_at hl 1 rfl) ?_
              refine lv_iadd S.1 S.2.1 dX12_findOpen_79 ?_
              obtain ⟨hi_13, hf⟩ := rd_s hf
              refine g_iald (n := 256) (f := m_ranks) S hN hw 4 hi_13 dX12_findOpen_80 rfl ?_
              generalize m_ranks (((16 * y_9) + y_8) : Int32).toNatClampNeg = y_14 at hf ⊢
              refine lv_if_lt (tgt := 108) S.1 S.2.1 dX12_findOpen_81 (by decide) (fun h_15 => ?_) (fun h_15 => ?_)
              · replace hf := if_t h_15 hf
                refine lv_iinc (v := (v1_5 + (-1))) (lv' := [(1, .int (v1_5 + (-1))), (3, .int y_9), (2, .int y_8), (0, .ref a_m)]) S.1 S.2.1 dX12_findOpen_108 hl (k := 3) rfl rfl (by decide) rfl (fun ls hl => ?_)
                refine lv_goto (tgt := 29) S.1 S.2.1 dX12_findOpen_111 (by decide) ?_
                exact ih (v1_5 + (-1)) m_openArc_6 _ _ _ hw (lv_sub hl [3, 0] rfl) hf
              · replace hf := if_f h_15 hf
                refine lv_aload_n S.1 S.2.1 dX12_findOpen_84 rfl (lv_at hl 2 rfl) ?_
                refine g_get S hN hw (C := RX12) (T := TX12) (N := 37) (ci := 12) (v := .ref a_m_openArc) 0 32 iX12 k83 dX12_findOpen_85 rfl rfl (by decide) rfl ?_
                refine lv_bipush (v := 16) S.1 S.2.1 dX12_findOpen_88 (by decide) ?_
                refine lv_iload_n S.1 S.2.1 dX12_findOpen_90 rfl (lv_at hl 1 rfl) ?_
                refine lv_imul S.1 S.2.1 dX12_findOpen_91 ?_
                refine lv_iload_n S.1 S.2.1 dX12_findOpen_92 rfl (lv_at hl 0 rfl) ?_
                refine lv_iadd S.1 S.2.1 dX12_findOpen_93 ?_
                refine lv_iload_n S.1 S.2.1 dX12_findOpen_94 rfl (lv_at hl 3 rfl) ?_
                obtain ⟨hi_15, hf⟩ := wr_s hf
                refine g_iast (n := 256) (f := m_openArc_6) (w1 := [oC a_m 12 [.int m_nodes, .int m_made, .ref a_m_from, .ref a_m_to, .ref a_m_weighs, .ref a_m_alive, .ref a_m_ranks, .int m_known, .ref a_m_best, .ref a_m_most, .ref a_m_apart, .ref a_m_near, .ref a_m_worth, .ref a_m_mates, .ref a_m_sizes, .ref a_m_sums, .ref a_m_has, .ref a_m_sorts, .ref a_m_pieces, .int m_pieceCount, .int m_parts, .int m_halves, .ref a_m_inCover, .int m_coverSize, .int m_holdSet, .ref a_m_pairCost, .ref a_m_inJoin, .int m_hasJoin, .ref a_m_half, .ref a_m_way, .ref a_m_counts, .ref a_m_lastCounts, .ref a_m_openArc, .ref a_m_with, .ref a_m_tried, .int m_stables, .long m_firstSet], aI E a_m_from 60 m_from, aI E a_m_to 60 m_to, aZ E a_m_alive 60 m_alive, aI E a_m_ranks 256 m_ranks, aI E a_m_openArc 256 (va_up m_openArc_6 (((16 * y_8) + y_9) : Int32).toNatClampNeg v1_5)]) S hN hw 5 hi_15 dX12_findOpen_95 rfl rfl (fun H locs hw => ?_)
                generalize va_up m_openArc_6 (((16 * y_8) + y_9) : Int32).toNatClampNeg v1_5 = m_openArc_16 at hf hw
                refine lv_aload_n S.1 S.2.1 dX12_findOpen_96 rfl (lv_at hl 2 rfl) ?_
                refine g_get S hN hw (C := RX12) (T := TX12) (N := 37) (ci := 12) (v := .ref a_m_openArc) 0 32 iX12 k83 dX12_findOpen_97 rfl rfl (by decide) rfl ?_
                refine lv_bipush (v := 16) S.1 S.2.1 dX12_findOpen_100 (by decide) ?_
                refine lv_iload_n S.1 S.2.1 dX12_findOpen_102 rfl (lv_at hl 0 rfl) ?_
                refine lv_imul S.1 S.2.1 dX12_findOpen_103 ?_
                refine lv_iload_n S.1 S.2.1 dX12_findOpen_104 rfl (lv_at hl 1 rfl) ?_
                refine lv_iadd S.1 S.2.1 dX12_findOpen_105 ?_
                refine lv_iload_n S.1 S.2.1 dX12_findOpen_106 rfl (lv_at hl 3 rfl) ?_
                obtain ⟨hi_16, hf⟩ := wr_s hf
                refine g_iast (n := 256) (f := m_openArc_16) (w1 := [oC a_m 12 [.int m_nodes, .int m_made, .ref a_m_from, .ref a_m_to, .ref a_m_weighs, .ref a_m_alive, .ref a_m_ranks, .int m_known, .ref a_m_best, .ref a_m_most, .ref a_m_apart, .ref a_m_near, .ref a_m_worth, .ref a_m_mates, .ref a_m_sizes, .ref a_m_sums, .ref a_m_has, .ref a_m_sorts, .ref a_m_pieces, .int m_pieceCount, .int m_parts, .int m_halves, .ref a_m_inCover, .int m_coverSize, .int m_holdSet, .ref a_m_pairCost, .ref a_m_inJoin, .int m_hasJoin, .ref a_m_half, .ref a_m_way, .ref a_m_counts, .ref a_m_lastCounts, .ref a_m_openArc, .ref a_m_with, .ref a_m_tried, .int m_stables, .long m_firstSet], aI E a_m_from 60 m_from, aI E a_m_to 60 m_to, aZ E a_m_alive 60 m_alive, aI E a_m_ranks 256 m_ranks, aI E a_m_openArc 256 (va_up m_openArc_16 (((16 * y_9) + y_8) : Int32).toNatClampNeg v1_5)]) S hN hw 5 hi_16 dX12_findOpen_107 rfl rfl (fun H locs hw => ?_)
                generalize va_up m_openArc_16 (((16 * y_9) + y_8) : Int32).toNatClampNeg v1_5 = m_openArc_17 at hf hw
                refine lv_iinc (v := (v1_5 + (-1))) (lv' := [(1, .int (v1_5 + (-1))), (3, .int y_9), (2, .int y_8), (0, .ref a_m)]) S.1 S.2.1 dX12_findOpen_108 hl (k := 3) rfl rfl (by decide) rfl (fun ls hl => ?_)
                refine lv_goto (tgt := 29) S.1 S.2.1 dX12_findOpen_111 (by decide) ?_
                exact ih (v1_5 + (-1)) m_openArc_17 _ _ _ hw (lv_sub hl [3, 0] rfl) hf
    exact hL_29_17 F (m_made - 1) m_openArc_1 _ _ _ hw (lv_sub hl [1, 0] rfl) hf
  have hL_2_23 : ∀ (n : Nat) (v1_20 : Int32) (m_openArc_21 : Nat → Int32) (H : Heap) (locs : List Loc) (ls : Array Slot), Wo E A s [oC a_m 12 [.int m_nodes, .int m_made, .ref a_m_from, .ref a_m_to, .ref a_m_weighs, .ref a_m_alive, .ref a_m_ranks, .int m_known, .ref a_m_best, .ref a_m_most, .ref a_m_apart, .ref a_m_near, .ref a_m_worth, .ref a_m_mates, .ref a_m_sizes, .ref a_m_sums, .ref a_m_has, .ref a_m_sorts, .ref a_m_pieces, .int m_pieceCount, .int m_parts, .int m_halves, .ref a_m_inCover, .int m_coverSize, .int m_holdSet, .ref a_m_pairCost, .ref a_m_inJoin, .int m_hasJoin, .ref a_m_half, .ref a_m_way, .ref a_m_counts, .ref a_m_lastCounts, .ref a_m_openArc, .ref a_m_with, .ref a_m_tried, .int m_stables, .long m_firstSet], aI E a_m_from 60 m_from, aI E a_m_to 60 m_to, aZ E a_m_alive 60 m_alive, aI E a_m_ranks 256 m_ranks, aI E a_m_openArc 256 m_openArc_21] H locs → lv_has ls 4 [(0, .ref a_m), (1, .int v1_20)] → f_X12_findOpen_L2 kk_22_18 n v1_20 m_openArc_21 = some u_m_openArc → W p l e (Rm 0) s m (([.ref a_m] : List Value).toArray) below meth c H locs 0 0 Q (F0 m 2 ls []) := by
    intro n
    induction n with
    | zero => intro v1_20 m_openArc_21 H locs ls hw hl hf; unfold f_X12_findOpen_L2 at hf; cases hf
    | succ n ih =>
      intro v1_20 m_openArc_21 H locs ls hw hl hf
      unfold f_X12_findOpen_L2 at hf
      refine lv_iload_n S.1 S.2.1 dX12_findOpen_2 rfl (lv_at hl 1 rfl) ?_
      refine lv_sipush (v := 256) S.1 S.2.1 dX12_findOpen_3 (by decide) ?_
      refine lv_icmp_ge (tgt := 22) S.1 S.2.1 dX12_findOpen_6 (by decide) (fun h_22 => ?_) (fun h_22 => ?_)
      · replace hf := if_t h_22 hf
        exact hJ_kk_22_18 m_openArc_21 _ _ _ hw (lv_sub hl [0] rfl) hf
      · replace hf := if_f h_22 hf
        refine lv_aload_n S.1 S.2.1 dX12_findOpen_9 rfl (lv_at hl 0 rfl) ?_
        refine g_get S hN hw (C := RX12) (T := TX12) (N := 37) (ci := 12) (v := .ref a_m_openArc) 0 32 iX12 k83 dX12_findOpen_10 rfl rfl (by decide) rfl ?_
        refine lv_iload_n S.1 S.2.1 dX12_findOpen_13 rfl (lv_at hl 1 rfl) ?_
        refine lv_iconst (v := (-1)) S.1 S.2.1 dX12_findOpen_14 (by decide) ?_
        obtain ⟨hi_22, hf⟩ := wr_s hf
        refine g_iast (n := 256) (f := m_openArc_21) (w1 := [oC a_m 12 [.int m_nodes, .int m_made, .ref a_m_from, .ref a_m_to, .ref a_m_weighs, .ref a_m_alive, .ref a_m_ranks, .int m_known, .ref a_m_best, .ref a_m_most, .ref a_m_apart, .ref a_m_near, .ref a_m_worth, .ref a_m_mates, .ref a_m_sizes, .ref a_m_sums, .ref a_m_has, .ref a_m_sorts, .ref a_m_pieces, .int m_pieceCount, .int m_parts, .int m_halves, .ref a_m_inCover, .int m_coverSize, .int m_holdSet, .ref a_m_pairCost, .ref a_m_inJoin, .int m_hasJoin, .ref a_m_half, .ref a_m_way, .ref a_m_counts, .ref a_m_lastCounts, .ref a_m_openArc, .ref a_m_with, .ref a_m_tried, .int m_stables, .long m_firstSet], aI E a_m_from 60 m_from, aI E a_m_to 60 m_to, aZ E a_m_alive 60 m_alive, aI E a_m_ranks 256 m_ranks, aI E a_m_openArc 256 (va_up m_openArc_21 (v1_20 : Int32).toNatClampNeg (-1))]) S hN hw 5 hi_22 dX12_findOpen_15 rfl rfl (fun H locs hw => ?_)
        generalize va_up m_openArc_21 (v1_20 : Int32).toNatClampNeg (-1) = m_openArc_23 at hf hw
        refine lv_iinc (v := (v1_20 + 1)) (lv' := [(1, .int (v1_20 + 1)), (0, .ref a_m)]) S.1 S.2.1 dX12_findOpen_16 hl (k := 1) rfl rfl (by decide) rfl (fun ls hl => ?_)
        refine lv_goto (tgt := 2) S.1 S.2.1 dX12_findOpen_19 (by decide) ?_
        exact ih (v1_20 + 1) m_openArc_23 _ _ _ hw (lv_sub hl [1, 0] rfl) hf
  exact hL_2_23 F 0 m_openArc _ _ _ hw (lv_sub hl [1, 0] rfl) hf
