def f_X12_grown_L17 (m_made : Int32) (m_from : Nat → Int32) (m_to : Nat → Int32) (m_alive : Nat → Int32) (p2 : Int32) (kk_136_7 : Int32 → Option (Int32)) : Nat → Int32 → Int32 → Option (Int32)
  | 0, _, _ => none
  | n + 1, v3_9, v5_10 => (if m_made ≤ v5_10 then (kk_136_7 v3_9) else rd 60 m_alive v5_10 (fun y_12 => (jn (fun (z_13 : Int32) => (if z_13 = 0 then (f_X12_grown_L17 m_made m_from m_to m_alive p2 kk_136_7 n v3_9 (v5_10 + 1)) else rd 60 m_from v5_10 (fun y_16 => (jn (rd 60 m_from v5_10 (fun y_18 => rd 60 m_to v5_10 (fun y_19 => ltt (v3_9 ||| (((1 : Int32) <<< (y_18 &&& 31)) ||| ((1 : Int32) <<< (y_19 &&& 31)))) (fun x_20 => (f_X12_grown_L17 m_made m_from m_to m_alive p2 kk_136_7 n x_20 (v5_10 + 1)))))) (fun jj_108_16 => (if ((v3_9 >>> (y_16 &&& 31)) &&& 1) = 1 then (jj_108_16) else rd 60 m_to v5_10 (fun y_22 => (if ((v3_9 >>> (y_22 &&& 31)) &&& 1) = 1 then (jj_108_16) else (f_X12_grown_L17 m_made m_from m_to m_alive p2 kk_136_7 n v3_9 (v5_10 + 1)))))))))) (fun jj_71_13 => (if y_12 = 0 then (jj_71_13 0) else rd 60 m_from v5_10 (fun y_25 => (if ((p2 >>> (y_25 &&& 31)) &&& 1) = 1 then rd 60 m_to v5_10 (fun y_27 => (if ((p2 >>> (y_27 &&& 31)) &&& 1) = 1 then (jj_71_13 1) else (jj_71_13 0))) else (jj_71_13 0))))))))
def f_X12_grown_L5 (F : Nat) (m_made : Int32) (m_from : Nat → Int32) (m_to : Nat → Int32) (m_alive : Nat → Int32) (p2 : Int32) (kk_139_2 : Int32 → Option (Int32)) : Nat → Int32 → Int32 → Option (Int32)
  | 0, _, _ => none
  | n + 1, v3_4, v4_5 => (if v4_5 = v3_4 then (kk_139_2 v3_4) else (jn (fun (v3_7 : Int32) => (f_X12_grown_L5 F m_made m_from m_to m_alive p2 kk_139_2 n v3_7 v3_4)) (fun kk_136_7 => (f_X12_grown_L17 m_made m_from m_to m_alive p2 kk_136_7 F v3_4 0))))
def f_X12_grown (F : Nat) (p1 : Int32) (p2 : Int32) (m_made : Int32) (m_from : Nat → Int32) (m_to : Nat → Int32) (m_alive : Nat → Int32) : Option (Int32) :=
  (jn (fun (v3_1 : Int32) => some v3_1) (fun kk_139_2 => (f_X12_grown_L5 F m_made m_from m_to m_alive p2 kk_139_2 F p1 0)))
set_option maxHeartbeats 4000000 in
set_option maxRecDepth 100000 in
theorem c_X12_grown (l : Launch) (E : Ev) (F : Nat) (m_nodes : Int32) (m_made : Int32) (m_from : Nat → Int32) (a_m_from : Nat) (m_to : Nat → Int32) (a_m_to : Nat) (a_m_weighs : Nat) (m_alive : Nat → Int32) (a_m_alive : Nat) (a_m_ranks : Nat) (m_known : Int32) (a_m_best : Nat) (a_m_most : Nat) (a_m_apart : Nat) (a_m_near : Nat) (a_m_worth : Nat) (a_m_mates : Nat) (a_m_sizes : Nat) (a_m_sums : Nat) (a_m_has : Nat) (a_m_sorts : Nat) (a_m_pieces : Nat) (m_pieceCount : Int32) (m_parts : Int32) (m_halves : Int32) (a_m_inCover : Nat) (m_coverSize : Int32) (m_holdSet : Int32) (a_m_pairCost : Nat) (a_m_inJoin : Nat) (m_hasJoin : Int32) (a_m_half : Nat) (a_m_way : Nat) (a_m_counts : Nat) (a_m_lastCounts : Nat) (a_m_openArc : Nat) (a_m_with : Nat) (a_m_tried : Nat) (m_stables : Int32) (m_firstSet : Int64) (a_m : Nat) (p1 : Int32) (p2 : Int32) (ro : Int32) (hf : f_X12_grown F p1 p2 m_made m_from m_to m_alive = some ro) :
    CtI l yX12_grown wsX12_grown (Rm 0) E [.ref a_m, .int p1, .int p2] [oC a_m 12 [.int m_nodes, .int m_made, .ref a_m_from, .ref a_m_to, .ref a_m_weighs, .ref a_m_alive, .ref a_m_ranks, .int m_known, .ref a_m_best, .ref a_m_most, .ref a_m_apart, .ref a_m_near, .ref a_m_worth, .ref a_m_mates, .ref a_m_sizes, .ref a_m_sums, .ref a_m_has, .ref a_m_sorts, .ref a_m_pieces, .int m_pieceCount, .int m_parts, .int m_halves, .ref a_m_inCover, .int m_coverSize, .int m_holdSet, .ref a_m_pairCost, .ref a_m_inJoin, .int m_hasJoin, .ref a_m_half, .ref a_m_way, .ref a_m_counts, .ref a_m_lastCounts, .ref a_m_openArc, .ref a_m_with, .ref a_m_tried, .int m_stables, .long m_firstSet], aI E a_m_from 60 m_from, aI E a_m_to 60 m_to, aZ E a_m_alive 60 m_alive] ro [oC a_m 12 [.int m_nodes, .int m_made, .ref a_m_from, .ref a_m_to, .ref a_m_weighs, .ref a_m_alive, .ref a_m_ranks, .int m_known, .ref a_m_best, .ref a_m_most, .ref a_m_apart, .ref a_m_near, .ref a_m_worth, .ref a_m_mates, .ref a_m_sizes, .ref a_m_sums, .ref a_m_has, .ref a_m_sorts, .ref a_m_pieces, .int m_pieceCount, .int m_parts, .int m_halves, .ref a_m_inCover, .int m_coverSize, .int m_holdSet, .ref a_m_pairCost, .ref a_m_inJoin, .int m_hasJoin, .ref a_m_half, .ref a_m_way, .ref a_m_counts, .ref a_m_lastCounts, .ref a_m_openArc, .ref a_m_with, .ref a_m_tried, .int m_stables, .long m_firstSet], aI E a_m_from 60 m_from, aI E a_m_to 60 m_to, aZ E a_m_alive 60 m_alive] := by
  refine ofI (cc := cX12_grown) (maxL := 7) (own := RX12) rfl rfl (by decide) rfl rfl ?_
  intro p e s m below meth c A ls Q S hnm hN hw hA hl0 hE
  have hE2 : ∀ (H : Heap) (locs : List Loc) (pc : Nat) (ls : Array Slot) (r' : Int32) (w' : va_W), Wo E A s w' H locs → w' = [oC a_m 12 [.int m_nodes, .int m_made, .ref a_m_from, .ref a_m_to, .ref a_m_weighs, .ref a_m_alive, .ref a_m_ranks, .int m_known, .ref a_m_best, .ref a_m_most, .ref a_m_apart, .ref a_m_near, .ref a_m_worth, .ref a_m_mates, .ref a_m_sizes, .ref a_m_sums, .ref a_m_has, .ref a_m_sorts, .ref a_m_pieces, .int m_pieceCount, .int m_parts, .int m_halves, .ref a_m_inCover, .int m_coverSize, .int m_holdSet, .ref a_m_pairCost, .ref a_m_inJoin, .int m_hasJoin, .ref a_m_half, .ref a_m_way, .ref a_m_counts, .ref a_m_lastCounts, .ref a_m_openArc, .ref a_m_with, .ref a_m_tried, .int m_stables, .long m_firstSet], aI E a_m_from 60 m_from, aI E a_m_to 60 m_to, aZ E a_m_alive 60 m_alive] → r' = ro → decode cX12_grown pc = .ok (.ireturn, 1) → W p l e (Rm 0) s m (([.ref a_m, .int p1, .int p2] : List Value).toArray) below meth c H locs 0 0 Q (F0 m pc ls [.int r']) := by
    intro H locs pc ls r' w' hw e1 e2 hd
    subst e1
    subst e2
    exact hE H locs pc ls hw hd
  have hl : lv_has ls 7 [(0, .ref a_m), (1, .int p1), (2, .int p2)] := hl0 _ (lv_entry [.ref a_m, .int p1, .int p2] (n := 7) (Nat.le_of_ble_eq_true rfl))
  have iX12 : ∀ w ∈ wsX120, w ∈ wsX12_grown := by decide +kernel
  have k13 := S.2.2.2.2 (.fieldLink RX12 13 "PairMatchingModel" "to" "[I") (by decide +kernel)
  have k19 := S.2.2.2.2 (.fieldLink RX12 19 "PairMatchingModel" "alive" "[Z") (by decide +kernel)
  have k7 := S.2.2.2.2 (.fieldLink RX12 7 "PairMatchingModel" "from" "[I") (by decide +kernel)
  have k97 := S.2.2.2.2 (.fieldLink RX12 97 "PairMatchingModel" "made" "I") (by decide +kernel)
  unfold f_X12_grown at hf
  refine lv_iload_n S.1 S.2.1 dX12_grown_0 rfl (lv_at hl 1 rfl) ?_
  refine lv_istore_n (lv' := [(3, .int p1), (0, .ref a_m), (1, .int p1), (2, .int p2)]) S.1 S.2.1 dX12_grown_1 rfl hl (by decide) rfl (fun ls hl => ?_)
  refine lv_iconst (v := 0) S.1 S.2.1 dX12_grown_2 (by decide) ?_
  refine lv_istore (lv' := [(4, .int 0), (3, .int p1), (0, .ref a_m), (1, .int p1), (2, .int p2)]) S.1 S.2.1 dX12_grown_3 hl (by decide) rfl (fun ls hl => ?_)
  obtain ⟨kk_139_2, ekk_139_2, hf⟩ := jn_s hf
  have hJ_kk_139_2 : ∀ (v3_1 : Int32) (H : Heap) (locs : List Loc) (ls : Array Slot), Wo E A s [oC a_m 12 [.int m_nodes, .int m_made, .ref a_m_from, .ref a_m_to, .ref a_m_weighs, .ref a_m_alive, .ref a_m_ranks, .int m_known, .ref a_m_best, .ref a_m_most, .ref a_m_apart, .ref a_m_near, .ref a_m_worth, .ref a_m_mates, .ref a_m_sizes, .ref a_m_sums, .ref a_m_has, .ref a_m_sorts, .ref a_m_pieces, .int m_pieceCount, .int m_parts, .int m_halves, .ref a_m_inCover, .int m_coverSize, .int m_holdSet, .ref a_m_pairCost, .ref a_m_inJoin, .int m_hasJoin, .ref a_m_half, .ref a_m_way, .ref a_m_counts, .ref a_m_lastCounts, .ref a_m_openArc, .ref a_m_with, .ref a_m_tried, .int m_stables, .long m_firstSet], aI E a_m_from 60 m_from, aI E a_m_to 60 m_to, aZ E a_m_alive 60 m_alive] H locs → lv_has ls 7 [(3, .int v3_1)] → kk_139_2 v3_1 = some ro → W p l e (Rm 0) s m (([.ref a_m, .int p1, .int p2] : List Value).toArray) below meth c H locs 0 0 Q (F0 m 139 ls []) := by
    intro v3_1 H locs ls hw hl hf
    rw [ekk_139_2] at hf
    refine lv_iload_n S.1 S.2.1 dX12_grown_139 rfl (lv_at hl 0 rfl) ?_
    have e_2 := Option.some.inj hf
    exact hE2 _ _ _ _ _ _ hw rfl e_2 dX12_grown_140
  have hL_5_29 : ∀ (n : Nat) (v3_4 : Int32) (v4_5 : Int32) (H : Heap) (locs : List Loc) (ls : Array Slot), Wo E A s [oC a_m 12 [.int m_nodes, .int m_made, .ref a_m_from, .ref a_m_to, .ref a_m_weighs, .ref a_m_alive, .ref a_m_ranks, .int m_known, .ref a_m_best, .ref a_m_most, .ref a_m_apart, .ref a_m_near, .ref a_m_worth, .ref a_m_mates, .ref a_m_sizes, .ref a_m_sums, .ref a_m_has, .ref a_m_sorts, .ref a_m_pieces, .int m_pieceCount, .int m_parts, .int m_halves, .ref a_m_inCover, .int m_coverSize, .int m_holdSet, .ref a_m_pairCost, .ref a_m_inJoin, .int m_hasJoin, .ref a_m_half, .ref a_m_way, .ref a_m_counts, .ref a_m_lastCounts, .ref a_m_openArc, .ref a_m_with, .ref a_m_tried, .int m_stables, .long m_firstSet], aI E a_m_from 60 m_from, aI E a_m_to 60 m_to, aZ E a_m_alive 60 m_alive] H locs → lv_has ls 7 [(0, .ref a_m), (2, .int p2), (3, .int v3_4), (4, .int v4_5)] → f_X12_grown_L5 F m_made m_from m_to m_alive p2 kk_139_2 n v3_4 v4_5 = some ro → W p l e (Rm 0) s m (([.ref a_m, .int p1, .int p2] : List Value).toArray) below meth c H locs 0 0 Q (F0 m 5 ls []) := by
    intro n
    induction n with
    | zero => intro v3_4 v4_5 H locs ls hw hl hf; unfold f_X12_grown_L5 at hf; cases hf
    | succ n ih =>
      intro v3_4 v4_5 H locs ls hw hl hf
      unfold f_X12_grown_L5 at hf
      refine lv_iload S.1 S.2.1 dX12_grown_5 (lv_at hl 3 rfl) ?_
      refine lv_iload_n S.1 S.2.1 dX12_grown_7 rfl (lv_at hl 2 rfl) ?_
      refine lv_icmp_eq (tgt := 139) S.1 S.2.1 dX12_grown_8 (by decide) (fun h_6 => ?_) (fun h_6 => ?_)
      · replace hf := if_t h_6 hf
        exact hJ_kk_139_2 v3_4 _ _ _ hw (lv_sub hl [2] rfl) hf
      · replace hf := if_f h_6 hf
        refine lv_iload_n S.1 S.2.1 dX12_grown_11 rfl (lv_at hl 2 rfl) ?_
        refine lv_istore (lv' := [(4, .int v3_4), (0, .ref a_m), (2, .int p2), (3, .int v3_4)]) S.1 S.2.1 dX12_grown_12 hl (by decide) rfl (fun ls hl => ?_)
        refine lv_iconst (v := 0) S.1 S.2.1 dX12_grown_14 (by decide) ?_
        refine lv_istore (lv' := [(5, .int 0), (4, .int v3_4), (0, .ref a_m), (2, .int p2), (3, .int v3_4)]) S.1 S.2.1 dX12_grown_15 hl (by decide) rfl (fun ls hl => ?_)
        obtain ⟨kk_136_7, ekk_136_7, hf⟩ := jn_s hf
        have hJ_kk_136_7 : ∀ (v3_7 : Int32) (H : Heap) (locs : List Loc) (ls : Array Slot), Wo E A s [oC a_m 12 [.int m_nodes, .int m_made, .ref a_m_from, .ref a_m_to, .ref a_m_weighs, .ref a_m_alive, .ref a_m_ranks, .int m_known, .ref a_m_best, .ref a_m_most, .ref a_m_apart, .ref a_m_near, .ref a_m_worth, .ref a_m_mates, .ref a_m_sizes, .ref a_m_sums, .ref a_m_has, .ref a_m_sorts, .ref a_m_pieces, .int m_pieceCount, .int m_parts, .int m_halves, .ref a_m_inCover, .int m_coverSize, .int m_holdSet, .ref a_m_pairCost, .ref a_m_inJoin, .int m_hasJoin, .ref a_m_half, .ref a_m_way, .ref a_m_counts, .ref a_m_lastCounts, .ref a_m_openArc, .ref a_m_with, .ref a_m_tried, .int m_stables, .long m_firstSet], aI E a_m_from 60 m_from, aI E a_m_to 60 m_to, aZ E a_m_alive 60 m_alive] H locs → lv_has ls 7 [(0, .ref a_m), (2, .int p2), (3, .int v3_7), (4, .int v3_4)] → kk_136_7 v3_7 = some ro → W p l e (Rm 0) s m (([.ref a_m, .int p1, .int p2] : List Value).toArray) below meth c H locs 0 0 Q (F0 m 136 ls []) := by
          intro v3_7 H locs ls hw hl hf
          rw [ekk_136_7] at hf
          refine lv_goto (tgt := 5) S.1 S.2.1 dX12_grown_136 (by decide) ?_
          exact ih v3_7 v3_4 _ _ _ hw hl hf
        have hL_17_28 : ∀ (n : Nat) (v3_9 : Int32) (v5_10 : Int32) (H : Heap) (locs : List Loc) (ls : Array Slot), Wo E A s [oC a_m 12 [.int m_nodes, .int m_made, .ref a_m_from, .ref a_m_to, .ref a_m_weighs, .ref a_m_alive, .ref a_m_ranks, .int m_known, .ref a_m_best, .ref a_m_most, .ref a_m_apart, .ref a_m_near, .ref a_m_worth, .ref a_m_mates, .ref a_m_sizes, .ref a_m_sums, .ref a_m_has, .ref a_m_sorts, .ref a_m_pieces, .int m_pieceCount, .int m_parts, .int m_halves, .ref a_m_inCover, .int m_coverSize, .int m_holdSet, .ref a_m_pairCost, .ref a_m_inJoin, .int m_hasJoin, .ref a_m_half, .ref a_m_way, .ref a_m_counts, .ref a_m_lastCounts, .ref a_m_openArc, .ref a_m_with, .ref a_m_tried, .int m_stables, .long m_firstSet], aI E a_m_from 60 m_from, aI E a_m_to 60 m_to, aZ E a_m_alive 60 m_alive] H locs → lv_has ls 7 [(0, .ref a_m), (2, .int p2), (3, .int v3_9), (4, .int v3_4), (5, .int v5_10)] → f_X12_grown_L17 m_made m_from m_to m_alive p2 kk_136_7 n v3_9 v5_10 = some ro → W p l e (Rm 0) s m (([.ref a_m, .int p1, .int p2] : List Value).toArray) below meth c H locs 0 0 Q (F0 m 17 ls []) := by
          intro n
          induction n with
          | zero => intro v3_9 v5_10 H locs ls hw hl hf; unfold f_X12_grown_L17 at hf; cases hf
          | succ n ih =>
            intro v3_9 v5_10 H locs ls hw hl hf
            unfold f_X12_grown_L17 at hf
            refine lv_iload S.1 S.2.1 dX12_grown_17 (lv_at hl 4 rfl) ?_
            refine lv_aload_n S.1 S.2.1 dX12_grown_19 rfl (lv_at hl 0 rfl) ?_
            refine g_get S hN hw (C := RX12) (T := TX12) (N := 37) (ci := 12) (v := .int m_made) 0 1 iX12 k97 dX12_grown_20 rfl rfl (by decide) rfl ?_
            refine lv_icmp_ge (tgt := 136) S.1 S.2.1 dX12_grown_23 (by decide) (fun h_11 => ?_) (fun h_11 => ?_)
            · replace hf := if_t h_11 hf
              exact hJ_kk_136_7 v3_9 _ _ _ hw (lv_sub hl [0, 1, 2, 3] rfl) hf
            · replace hf := if_f h_11 hf
              refine lv_aload_n S.1 S.2.1 dX12_grown_26 rfl (lv_at hl 0 rfl) ?_
              refine g_get S hN hw (C := RX12) (T := TX12) (N := 37) (ci := 12) (v := .ref a_m_alive) 0 5 iX12 k19 dX12_grown_27 rfl rfl (by decide) rfl ?_
              refine lv_iload S.1 S.2.1 dX12_grown_30 (lv_at hl 4 rfl) ?_
              obtain ⟨hi_11, hf⟩ := rd_s hf
              refine g_zald (n := 60) (f := m_alive) S hN hw 3 hi_11 dX12_grown_32 rfl ?_
              generalize m_alive (v5_10 : Int32).toNatClampNeg = y_12 at hf ⊢
              obtain ⟨jj_71_13, ejj_71_13, hf⟩ := jn_s hf
              have hJ_jj_71_13 : ∀ (z_13 : Int32) (H : Heap) (locs : List Loc) (ls : Array Slot), Wo E A s [oC a_m 12 [.int m_nodes, .int m_made, .ref a_m_from, .ref a_m_to, .ref a_m_weighs, .ref a_m_alive, .ref a_m_ranks, .int m_known, .ref a_m_best, .ref a_m_most, .ref a_m_apart, .ref a_m_near, .ref a_m_worth, .ref a_m_mates, .ref a_m_sizes, .ref a_m_sums, .ref a_m_has, .ref a_m_sorts, .ref a_m_pieces, .int m_pieceCount, .int m_parts, .int m_halves, .ref a_m_inCover, .int m_coverSize, .int m_holdSet, .ref a_m_pairCost, .ref a_m_inJoin, .int m_hasJoin, .ref a_m_half, .ref a_m_way, .ref a_m_counts, .ref a_m_lastCounts, .ref a_m_openArc, .ref a_m_with, .ref a_m_tried, .int m_stables, .long m_firstSet], aI E a_m_from 60 m_from, aI E a_m_to 60 m_to, aZ E a_m_alive 60 m_alive] H locs → lv_has ls 7 [(0, .ref a_m), (2, .int p2), (3, .int v3_9), (4, .int v3_4), (5, .int v5_10)] → jj_71_13 z_13 = some ro → W p l e (Rm 0) s m (([.ref a_m, .int p1, .int p2] : List Value).toArray) below meth c H locs 0 0 Q (F0 m 71 ls [.int z_13]) := by
                intro z_13 H locs ls hw hl hf
                rw [ejj_71_13] at hf
                refine lv_istore (lv' := [(6, .int z_13), (0, .ref a_m), (2, .int p2), (3, .int v3_9), (4, .int v3_4), (5, .int v5_10)]) S.1 S.2.1 dX12_grown_71 hl (by decide) rfl (fun ls hl => ?_)
                refine lv_iload S.1 S.2.1 dX12_grown_73 (lv_at hl 0 rfl) ?_
                refine lv_if_eq (tgt := 130) S.1 S.2.1 dX12_grown_75 (by decide) (fun h_15 => ?_) (fun h_15 => ?_)
                · replace hf := if_t h_15 hf
                  refine lv_iinc (v := (v5_10 + 1)) (lv' := [(5, .int (v5_10 + 1)), (6, .int z_13), (0, .ref a_m), (2, .int p2), (3, .int v3_9), (4, .int v3_4)]) S.1 S.2.1 dX12_grown_130 hl (k := 5) rfl rfl (by decide) rfl (fun ls hl => ?_)
                  refine lv_goto (tgt := 17) S.1 S.2.1 dX12_grown_133 (by decide) ?_
                  exact ih v3_9 (v5_10 + 1) _ _ _ hw (lv_sub hl [2, 3, 4, 5, 0] rfl) hf
                · replace hf := if_f h_15 hf
                  refine lv_iload_n S.1 S.2.1 dX12_grown_78 rfl (lv_at hl 3 rfl) ?_
                  refine lv_aload_n S.1 S.2.1 dX12_grown_79 rfl (lv_at hl 1 rfl) ?_
                  refine g_get S hN hw (C := RX12) (T := TX12) (N := 37) (ci := 12) (v := .ref a_m_from) 0 2 iX12 k7 dX12_grown_80 rfl rfl (by decide) rfl ?_
                  refine lv_iload S.1 S.2.1 dX12_grown_83 (lv_at hl 5 rfl) ?_
                  obtain ⟨hi_15, hf⟩ := rd_s hf
                  refine g_iald (n := 60) (f := m_from) S hN hw 1 hi_15 dX12_grown_85 rfl ?_
                  generalize m_from (v5_10 : Int32).toNatClampNeg = y_16 at hf ⊢
                  refine lv_ishr S.1 S.2.1 dX12_grown_86 ?_
                  refine lv_iconst (v := 1) S.1 S.2.1 dX12_grown_87 (by decide) ?_
                  refine lv_iand S.1 S.2.1 dX12_grown_88 ?_
                  refine lv_iconst (v := 1) S.1 S.2.1 dX12_grown_89 (by decide) ?_
                  obtain ⟨jj_108_16, ejj_108_16, hf⟩ := jn_s hf
                  have hJ_jj_108_16 : ∀  (H : Heap) (locs : List Loc) (ls : Array Slot), Wo E A s [oC a_m 12 [.int m_nodes, .int m_made, .ref a_m_from, .ref a_m_to, .ref a_m_weighs, .ref a_m_alive, .ref a_m_ranks, .int m_known, .ref a_m_best, .ref a_m_most, .ref a_m_apart, .ref a_m_near, .ref a_m_worth, .ref a_m_mates, .ref a_m_sizes, .ref a_m_sums, .ref a_m_has, .ref a_m_sorts, .ref a_m_pieces, .int m_pieceCount, .int m_parts, .int m_halves, .ref a_m_inCover, .int m_coverSize, .int m_holdSet, .ref a_m_pairCost, .ref a_m_inJoin, .int m_hasJoin, .ref a_m_half, .ref a_m_way, .ref a_m_counts, .ref a_m_lastCounts, .ref a_m_openArc, .ref a_m_with, .ref a_m_tried, .int m_stables, .long m_firstSet], aI E a_m_from 60 m_from, aI E a_m_to 60 m_to, aZ E a_m_alive 60 m_alive] H locs → lv_has ls 7 [(0, .ref a_m), (2, .int p2), (3, .int v3_9), (4, .int v3_4), (5, .int v5_10)] → jj_108_16 = some ro → W p l e (Rm 0) s m (([.ref a_m, .int p1, .int p2] : List Value).toArray) below meth c H locs 0 0 Q (F0 m 108 ls []) := by
                    intro H locs ls hw hl hf
                    rw [ejj_108_16] at hf
                    refine lv_iload_n S.1 S.2.1 dX12_grown_108 rfl (lv_at hl 2 rfl) ?_
                    refine lv_iconst (v := 1) S.1 S.2.1 dX12_grown_109 (by decide) ?_
                    refine lv_aload_n S.1 S.2.1 dX12_grown_110 rfl (lv_at hl 0 rfl) ?_
                    refine g_get S hN hw (C := RX12) (T := TX12) (N := 37) (ci := 12) (v := .ref a_m_from) 0 2 iX12 k7 dX12_grown_111 rfl rfl (by decide) rfl ?_
                    refine lv_iload S.1 S.2.1 dX12_grown_114 (lv_at hl 4 rfl) ?_
                    obtain ⟨hi_17, hf⟩ := rd_s hf
                    refine g_iald (n := 60) (f := m_from) S hN hw 1 hi_17 dX12_grown_116 rfl ?_
                    generalize m_from (v5_10 : Int32).toNatClampNeg = y_18 at hf ⊢
                    refine lv_ishl S.1 S.2.1 dX12_grown_117 ?_
                    refine lv_iconst (v := 1) S.1 S.2.1 dX12_grown_118 (by decide) ?_
                    refine lv_aload_n S.1 S.2.1 dX12_grown_119 rfl (lv_at hl 0 rfl) ?_
                    refine g_get S hN hw (C := RX12) (T := TX12) (N := 37) (ci := 12) (v := .ref a_m_to) 0 3 iX12 k13 dX12_grown_120 rfl rfl (by decide) rfl ?_
                    refine lv_iload S.1 S.2.1 dX12_grown_123 (lv_at hl 4 rfl) ?_
                    obtain ⟨hi_18, hf⟩ := rd_s hf
                    refine g_iald (n := 60) (f := m_to) S hN hw 2 hi_18 dX12_grown_125 rfl ?_
                    generalize m_to (v5_10 : Int32).toNatClampNeg = y_19 at hf ⊢
                    refine lv_ishl S.1 S.2.1 dX12_grown_126 ?_
                    refine lv_ior S.1 S.2.1 dX12_grown_127 ?_
                    refine lv_ior S.1 S.2.1 dX12_grown_128 ?_
                    obtain ⟨x_20, he_20, hf⟩ := ltt_s hf
                    rw [← he_20]
                    refine lv_istore_n (lv' := [(3, .int x_20), (0, .ref a_m), (2, .int p2), (4, .int v3_4), (5, .int v5_10)]) S.1 S.2.1 dX12_grown_129 rfl hl (by decide) rfl (fun ls hl => ?_)
                    refine lv_iinc (v := (v5_10 + 1)) (lv' := [(5, .int (v5_10 + 1)), (3, .int x_20), (0, .ref a_m), (2, .int p2), (4, .int v3_4)]) S.1 S.2.1 dX12_grown_130 hl (k := 4) rfl rfl (by decide) rfl (fun ls hl => ?_)
                    refine lv_goto (tgt := 17) S.1 S.2.1 dX12_grown_133 (by decide) ?_
                    exact ih x_20 (v5_10 + 1) _ _ _ hw (lv_sub hl [2, 3, 1, 4, 0] rfl) hf
                  refine lv_icmp_eq (tgt := 108) S.1 S.2.1 dX12_grown_90 (by decide) (fun h_21 => ?_) (fun h_21 => ?_)
                  · replace hf := if_t h_21 hf
                    exact hJ_jj_108_16 _ _ _ hw (lv_sub hl [1, 2, 3, 4, 5] rfl) hf
                  · replace hf := if_f h_21 hf
                    refine lv_iload_n S.1 S.2.1 dX12_grown_93 rfl (lv_at hl 3 rfl) ?_
                    refine lv_aload_n S.1 S.2.1 dX12_grown_94 rfl (lv_at hl 1 rfl) ?_
                    refine g_get S hN hw (C := RX12) (T := TX12) (N := 37) (ci := 12) (v := .ref a_m_to) 0 3 iX12 k13 dX12_grown_95 rfl rfl (by decide) rfl ?_
                    refine lv_iload S.1 S.2.1 dX12_grown_98 (lv_at hl 5 rfl) ?_
                    obtain ⟨hi_21, hf⟩ := rd_s hf
                    refine g_iald (n := 60) (f := m_to) S hN hw 2 hi_21 dX12_grown_100 rfl ?_
                    generalize m_to (v5_10 : Int32).toNatClampNeg = y_22 at hf ⊢
                    refine lv_ishr S.1 S.2.1 dX12_grown_101 ?_
                    refine lv_iconst (v := 1) S.1 S.2.1 dX12_grown_102 (by decide) ?_
                    refine lv_iand S.1 S.2.1 dX12_grown_103 ?_
                    refine lv_iconst (v := 1) S.1 S.2.1 dX12_grown_104 (by decide) ?_
                    refine lv_icmp_ne (tgt := 130) S.1 S.2.1 dX12_grown_105 (by decide) (fun h_23 => ?_) (fun h_23 => ?_)
                    · replace hf := if_f h_23 hf
                      refine lv_iinc (v := (v5_10 + 1)) (lv' := [(5, .int (v5_10 + 1)), (6, .int z_13), (0, .ref a_m), (2, .int p2), (3, .int v3_9), (4, .int v3_4)]) S.1 S.2.1 dX12_grown_130 hl (k := 5) rfl rfl (by decide) rfl (fun ls hl => ?_)
                      refine lv_goto (tgt := 17) S.1 S.2.1 dX12_grown_133 (by decide) ?_
                      exact ih v3_9 (v5_10 + 1) _ _ _ hw (lv_sub hl [2, 3, 4, 5, 0] rfl) hf
                    · replace hf := if_t h_23 hf
                      exact hJ_jj_108_16 _ _ _ hw (lv_sub hl [1, 2, 3, 4, 5] rfl) hf
              refine lv_if_eq (tgt := 70) S.1 S.2.1 dX12_grown_33 (by decide) (fun h_24 => ?_) (fun h_24 => ?_)
              · replace hf := if_t h_24 hf
                refine lv_iconst (v := 0) S.1 S.2.1 dX12_grown_70 (by decide) ?_
                exact hJ_jj_71_13 0 _ _ _ hw hl hf
              · replace hf := if_f h_24 hf
                refine lv_iload_n S.1 S.2.1 dX12_grown_36 rfl (lv_at hl 1 rfl) ?_
                refine lv_aload_n S.1 S.2.1 dX12_grown_37 rfl (lv_at hl 0 rfl) ?_
                refine g_get S hN hw (C := RX12) (T := TX12) (N := 37) (ci := 12) (v := .ref a_m_from) 0 2 iX12 k7 dX12_grown_38 rfl rfl (by decide) rfl ?_
                refine lv_iload S.1 S.2.1 dX12_grown_41 (lv_at hl 4 rfl) ?_
                obtain ⟨hi_24, hf⟩ := rd_s hf
                refine g_iald (n := 60) (f := m_from) S hN hw 1 hi_24 dX12_grown_43 rfl ?_
                generalize m_from (v5_10 : Int32).toNatClampNeg = y_25 at hf ⊢
                refine lv_ishr S.1 S.2.1 dX12_grown_44 ?_
                refine lv_iconst (v := 1) S.1 S.2.1 dX12_grown_45 (by decide) ?_
                refine lv_iand S.1 S.2.1 dX12_grown_46 ?_
                refine lv_iconst (v := 1) S.1 S.2.1 dX12_grown_47 (by decide) ?_
                refine lv_icmp_ne (tgt := 70) S.1 S.2.1 dX12_grown_48 (by decide) (fun h_26 => ?_) (fun h_26 => ?_)
                · replace hf := if_f h_26 hf
                  refine lv_iconst (v := 0) S.1 S.2.1 dX12_grown_70 (by decide) ?_
                  exact hJ_jj_71_13 0 _ _ _ hw hl hf
                · replace hf := if_t h_26 hf
                  refine lv_iload_n S.1 S.2.1 dX12_grown_51 rfl (lv_at hl 1 rfl) ?_
                  refine lv_aload_n S.1 S.2.1 dX12_grown_52 rfl (lv_at hl 0 rfl) ?_
                  refine g_get S hN hw (C := RX12) (T := TX12) (N := 37) (ci := 12) (v := .ref a_m_to) 0 3 iX12 k13 dX12_grown_53 rfl rfl (by decide) rfl ?_
                  refine lv_iload S.1 S.2.1 dX12_grown_56 (lv_at hl 4 rfl) ?_
                  obtain ⟨hi_26, hf⟩ := rd_s hf
                  refine g_iald (n := 60) (f := m_to) S hN hw 2 hi_26 dX12_grown_58 rfl ?_
                  generalize m_to (v5_10 : Int32).toNatClampNeg = y_27 at hf ⊢
                  refine lv_ishr S.1 S.2.1 dX12_grown_59 ?_
                  refine lv_iconst (v := 1) S.1 S.2.1 dX12_grown_60 (by decide) ?_
                  refine lv_iand S.1 S.2.1 dX12_grown_61 ?_
                  refine lv_iconst (v := 1) S.1 S.2.1 dX12_grown_62 (by decide) ?_
                  refine lv_icmp_ne (tgt := 70) S.1 S.2.1 dX12_grown_63 (by decide) (fun h_28 => ?_) (fun h_28 => ?_)
                  · replace hf := if_f h_28 hf
                    refine lv_iconst (v := 0) S.1 S.2.1 dX12_grown_70 (by decide) ?_
                    exact hJ_jj_71_13 0 _ _ _ hw hl hf
                  · replace hf := if_t h_28 hf
                    refine lv_iconst (v := 1) S.1 S.2.1 dX12_grown_66 (by decide) ?_
                    refine lv_goto (tgt := 71) S.1 S.2.1 dX12_grown_67 (by decide) ?_
                    exact hJ_jj_71_13 1 _ _ _ hw hl hf
        exact hL_17_28 F v3_4 0 _ _ _ hw (lv_sub hl [2, 3, 4, 1, 0] rfl) hf
  exact hL_5_29 F p1 0 _ _ _ hw (lv_sub hl [2, 4, 1, 0] rfl) hf
def f_X12_findHalves_L55 (m_made : Int32) (m_from : Nat → Int32) (m_to : Nat → Int32) (m_alive : Nat → Int32) (r_3 : Int32) (kk_198_17 : Int32 → (Nat → Int32) → Int32 → Option (Int32 × (Nat → Int32))) : Nat → Int32 → Int32 → (Nat → Int32) → Int32 → Option (Int32 × (Nat → Int32))
  | 0, _, _, _, _ => none
  | n + 1, v3_19, v4_20, m_half_21, m_halves_22 => (if m_made ≤ v4_20 then (kk_198_17 v3_19 m_half_21 m_halves_22) else rd 60 m_alive v4_20 (fun y_24 => (if y_24 = 0 then (f_X12_findHalves_L55 m_made m_from m_to m_alive r_3 kk_198_17 n v3_19 (v4_20 + 1) m_half_21 m_halves_22) else rd 60 m_from v4_20 (fun y_26 => (if ((r_3 >>> (y_26 &&& 31)) &&& 1) = 0 then (f_X12_findHalves_L55 m_made m_from m_to m_alive r_3 kk_198_17 n v3_19 (v4_20 + 1) m_half_21 m_halves_22) else rd 60 m_from v4_20 (fun y_28 => rd 16 m_half_21 y_28 (fun y_29 => rd 60 m_to v4_20 (fun y_30 => rd 16 m_half_21 y_30 (fun y_31 => (jn (fun (m_halves_32 : Int32) => (jn (fun (v3_34 : Int32) (m_half_35 : Nat → Int32) => (if y_31 = 0 then (f_X12_findHalves_L55 m_made m_from m_to m_alive r_3 kk_198_17 n v3_34 (v4_20 + 1) m_half_35 m_halves_32) else (if y_29 = 0 then rd 60 m_from v4_20 (fun y_39 => wr 16 m_half_35 y_39 (3 - y_31) (fun m_half_40 => (f_X12_findHalves_L55 m_made m_from m_to m_alive r_3 kk_198_17 n 1 (v4_20 + 1) m_half_40 m_halves_32))) else (f_X12_findHalves_L55 m_made m_from m_to m_alive r_3 kk_198_17 n v3_34 (v4_20 + 1) m_half_35 m_halves_32)))) (fun jj_164_35 => (if y_29 = 0 then (jj_164_35 v3_19 m_half_21) else (if y_31 = 0 then rd 60 m_to v4_20 (fun y_43 => wr 16 m_half_21 y_43 (3 - y_29) (fun m_half_44 => (jj_164_35 1 m_half_44))) else (jj_164_35 v3_19 m_half_21)))))) (fun jj_136_32 => (if y_29 = 0 then (jj_136_32 m_halves_22) else (if y_29 = y_31 then (jj_136_32 0) else (jj_136_32 m_halves_22))))))))))))))
def f_X12_findHalves_L46 (F : Nat) (m_made : Int32) (m_from : Nat → Int32) (m_to : Nat → Int32) (m_alive : Nat → Int32) (r_3 : Int32) (kk_201_9 : (Nat → Int32) → Int32 → Option (Int32 × (Nat → Int32))) : Nat → Int32 → (Nat → Int32) → Int32 → Option (Int32 × (Nat → Int32))
  | 0, _, _, _ => none
  | n + 1, v3_11, m_half_12, m_halves_13 => (if v3_11 = 0 then (kk_201_9 m_half_12 m_halves_13) else (jn (fun (v3_15 : Int32) (m_half_16 : Nat → Int32) (m_halves_17 : Int32) => (f_X12_findHalves_L46 F m_made m_from m_to m_alive r_3 kk_201_9 n v3_15 m_half_16 m_halves_17)) (fun kk_198_17 => (f_X12_findHalves_L55 m_made m_from m_to m_alive r_3 kk_198_17 F 0 0 m_half_12 m_halves_13))))
def f_X12_findHalves_L14 (m_nodes : Int32) (p1 : Int32) (kk_44_48 : (Nat → Int32) → Option (Int32 × (Nat → Int32))) : Nat → Int32 → (Nat → Int32) → Option (Int32 × (Nat → Int32))
  | 0, _, _ => none
  | n + 1, v3_50, m_half_51 => (if m_nodes ≤ v3_50 then (kk_44_48 m_half_51) else (if v3_50 = p1 then wr 16 m_half_51 v3_50 1 (fun m_half_55 => (f_X12_findHalves_L14 m_nodes p1 kk_44_48 n (v3_50 + 1) m_half_55)) else wr 16 m_half_51 v3_50 0 (fun m_half_54 => (f_X12_findHalves_L14 m_nodes p1 kk_44_48 n (v3_50 + 1) m_half_54))))
def f_X12_findHalves (F : Nat) (p1 : Int32) (m_nodes : Int32) (m_made : Int32) (m_from : Nat → Int32) (m_to : Nat → Int32) (m_alive : Nat → Int32) (m_halves : Int32) (m_half : Nat → Int32) : Option (Int32 × (Nat → Int32)) :=
  (f_X12_grown F ((1 : Int32) <<< (p1 &&& 31)) (f_X12_all m_nodes) m_made m_from m_to m_alive).bind (fun r_3 => (jn (fun (m_half_5 : Nat → Int32) => (jn (fun (m_half_6 : Nat → Int32) (m_halves_7 : Int32) => some (m_halves_7, m_half_6)) (fun kk_201_9 => (f_X12_findHalves_L46 F m_made m_from m_to m_alive r_3 kk_201_9 F 1 m_half_5 m_halves)))) (fun kk_44_48 => (f_X12_findHalves_L14 m_nodes p1 kk_44_48 F 0 m_half))))
set_option maxHeartbeats 4000000 in
set_option maxRecDepth 100000 in
theorem c_X12_findHalves (l : Launch) (E : Ev) (F : Nat) (m_nodes : Int32) (m_made : Int32) (m_from : Nat → Int32) (a_m_from : Nat) (m_to : Nat → Int32) (a_m_to : Nat) (a_m_weighs : Nat) (m_alive : Nat → Int32) (a_m_alive : Nat) (a_m_ranks : Nat) (m_known : Int32) (a_m_best : Nat) (a_m_most : Nat) (a_m_apart : Nat) (a_m_near : Nat) (a_m_worth : Nat) (a_m_mates : Nat) (a_m_sizes : Nat) (a_m_sums : Nat) (a_m_has : Nat) (a_m_sorts : Nat) (a_m_pieces : Nat) (m_pieceCount : Int32) (m_parts : Int32) (m_halves : Int32) (a_m_inCover : Nat) (m_coverSize : Int32) (m_holdSet : Int32) (a_m_pairCost : Nat) (a_m_inJoin : Nat) (m_hasJoin : Int32) (m_half : Nat → Int32) (a_m_half : Nat) (a_m_way : Nat) (a_m_counts : Nat) (a_m_lastCounts : Nat) (a_m_openArc : Nat) (a_m_with : Nat) (a_m_tried : Nat) (m_stables : Int32) (m_firstSet : Int64) (a_m : Nat) (p1 : Int32) (u_m_halves : Int32) (u_m_half : Nat → Int32) (hf : f_X12_findHalves F p1 m_nodes m_made m_from m_to m_alive m_halves m_half = some (u_m_halves, u_m_half)) :
    CtV l yX12_findHalves wsX12_findHalves (Rm 1) E [.ref a_m, .int p1] [oC a_m 12 [.int m_nodes, .int m_made, .ref a_m_from, .ref a_m_to, .ref a_m_weighs, .ref a_m_alive, .ref a_m_ranks, .int m_known, .ref a_m_best, .ref a_m_most, .ref a_m_apart, .ref a_m_near, .ref a_m_worth, .ref a_m_mates, .ref a_m_sizes, .ref a_m_sums, .ref a_m_has, .ref a_m_sorts, .ref a_m_pieces, .int m_pieceCount, .int m_parts, .int m_halves, .ref a_m_inCover, .int m_coverSize, .int m_holdSet, .ref a_m_pairCost, .ref a_m_inJoin, .int m_hasJoin, .ref a_m_half, .ref a_m_way, .ref a_m_counts, .ref a_m_lastCounts, .ref a_m_openArc, .ref a_m_with, .ref a_m_tried, .int m_stables, .long m_firstSet], aI E a_m_from 60 m_from, aI E a_m_to 60 m_to, aZ E a_m_alive 60 m_alive, aI E a_m_half 16 m_half] [oC a_m 12 [.int m_nodes, .int m_made, .ref a_m_from, .ref a_m_to, .ref a_m_weighs, .ref a_m_alive, .ref a_m_ranks, .int m_known, .ref a_m_best, .ref a_m_most, .ref a_m_apart, .ref a_m_near, .ref a_m_worth, .ref a_m_mates, .ref a_m_sizes, .ref a_m_sums, .ref a_m_has, .ref a_m_sorts, .ref a_m_pieces, .int m_pieceCount, .int m_parts, .int u_m_halves, .ref a_m_inCover, .int m_coverSize, .int m_holdSet, .ref a_m_pairCost, .ref a_m_inJoin, .int m_hasJoin, .ref a_m_half, .ref a_m_way, .ref a_m_counts, .ref a_m_lastCounts, .ref a_m_openArc, .ref a_m_with, .ref a_m_tried, .int m_stables, .long m_firstSet], aI E a_m_from 60 m_from, aI E a_m_to 60 m_to, aZ E a_m_alive 60 m_alive, aI E a_m_half 16 u_m_half] := by
  refine ofV (cc := cX12_findHalves) (maxL := 7) (own := RX12) rfl rfl (by decide) rfl rfl ?_
  intro p e s m below meth c A ls Q S hnm hN hw hA hl0 hE
  have hE2 : ∀ (H : Heap) (locs : List Loc) (pc : Nat) (ls : Array Slot) (w' : va_W), Wo E A s w' H locs → w' = [oC a_m 12 [.int m_nodes, .int m_made, .ref a_m_from, .ref a_m_to, .ref a_m_weighs, .ref a_m_alive, .ref a_m_ranks, .int m_known, .ref a_m_best, .ref a_m_most, .ref a_m_apart, .ref a_m_near, .ref a_m_worth, .ref a_m_mates, .ref a_m_sizes, .ref a_m_sums, .ref a_m_has, .ref a_m_sorts, .ref a_m_pieces, .int m_pieceCount, .int m_parts, .int u_m_halves, .ref a_m_inCover, .int m_coverSize, .int m_holdSet, .ref a_m_pairCost, .ref a_m_inJoin, .int m_hasJoin, .ref a_m_half, .ref a_m_way, .ref a_m_counts, .ref a_m_lastCounts, .ref a_m_openArc, .ref a_m_with, .ref a_m_tried, .int m_stables, .long m_firstSet], aI E a_m_from 60 m_from, aI E a_m_to 60 m_to, aZ E a_m_alive 60 m_alive, aI E a_m_half 16 u_m_half] → decode cX12_findHalves pc = .ok (.return_, 1) → W p l e (Rm 1) s m (([.ref a_m, .int p1] : List Value).toArray) below meth c H locs 0 0 Q (F0 m pc ls []) := by
    intro H locs pc ls w' hw e1 hd
    subst e1
    exact hE H locs pc ls hw hd
  have hl : lv_has ls 7 [(0, .ref a_m), (1, .int p1)] := hl0 _ (lv_entry [.ref a_m, .int p1] (n := 7) (Nat.le_of_ble_eq_true rfl))
  have iX12 : ∀ w ∈ wsX120, w ∈ wsX12_findHalves := by decide +kernel
  have k128 := S.2.2.2.2 (.fieldLink RX12 128 "PairMatchingModel" "halves" "I") (by decide +kernel)
  have k13 := S.2.2.2.2 (.fieldLink RX12 13 "PairMatchingModel" "to" "[I") (by decide +kernel)
  have k19 := S.2.2.2.2 (.fieldLink RX12 19 "PairMatchingModel" "alive" "[Z") (by decide +kernel)
  have k7 := S.2.2.2.2 (.fieldLink RX12 7 "PairMatchingModel" "from" "[I") (by decide +kernel)
  have k70 := S.2.2.2.2 (.fieldLink RX12 70 "PairMatchingModel" "half" "[I") (by decide +kernel)
  have k92 := S.2.2.2.2 (.fieldLink RX12 92 "PairMatchingModel" "nodes" "I") (by decide +kernel)
  have k97 := S.2.2.2.2 (.fieldLink RX12 97 "PairMatchingModel" "made" "I") (by decide +kernel)
  unfold f_X12_findHalves at hf
  refine lv_aload_n S.1 S.2.1 dX12_findHalves_0 rfl (lv_at hl 0 rfl) ?_
  refine lv_iconst (v := 1) S.1 S.2.1 dX12_findHalves_1 (by decide) ?_
  refine lv_iload_n S.1 S.2.1 dX12_findHalves_2 rfl (lv_at hl 1 rfl) ?_
  refine lv_ishl S.1 S.2.1 dX12_findHalves_3 ?_
  refine lv_aload_n S.1 S.2.1 dX12_findHalves_4 rfl (lv_at hl 0 rfl) ?_
  refine g_calli (r := (f_X12_all m_nodes)) (wc := [oC a_m 12 [.int m_nodes, .int m_made, .ref a_m_from, .ref a_m_to, .ref a_m_weighs, .ref a_m_alive, .ref a_m_ranks, .int m_known, .ref a_m_best, .ref a_m_most, .ref a_m_apart, .ref a_m_near, .ref a_m_worth, .ref a_m_mates, .ref a_m_sizes, .ref a_m_sums, .ref a_m_has, .ref a_m_sorts, .ref a_m_pieces, .int m_pieceCount, .int m_parts, .int m_halves, .ref a_m_inCover, .int m_coverSize, .int m_holdSet, .ref a_m_pairCost, .ref a_m_inJoin, .int m_hasJoin, .ref a_m_half, .ref a_m_way, .ref a_m_counts, .ref a_m_lastCounts, .ref a_m_openArc, .ref a_m_with, .ref a_m_tried, .int m_stables, .long m_firstSet]]) (wr := [aI E a_m_from 60 m_from, aI E a_m_to 60 m_to, aZ E a_m_alive 60 m_alive, aI E a_m_half 16 m_half]) (w1 := [oC a_m 12 [.int m_nodes, .int m_made, .ref a_m_from, .ref a_m_to, .ref a_m_weighs, .ref a_m_alive, .ref a_m_ranks, .int m_known, .ref a_m_best, .ref a_m_most, .ref a_m_apart, .ref a_m_near, .ref a_m_worth, .ref a_m_mates, .ref a_m_sizes, .ref a_m_sums, .ref a_m_has, .ref a_m_sorts, .ref a_m_pieces, .int m_pieceCount, .int m_parts, .int m_halves, .ref a_m_inCover, .int m_coverSize, .int m_holdSet, .ref a_m_pairCost, .ref a_m_inJoin, .int m_hasJoin, .ref a_m_half, .ref a_m_way, .ref a_m_counts, .ref a_m_lastCounts, .ref a_m_openArc, .ref a_m_with, .ref a_m_tried, .int m_stables, .long m_firstSet]]) (va_runV (As := []) (rest := [.int ((1 : Int32) <<< (p1 &&& 31)), .ref a_m]) S (c_X12_all l E m_nodes m_made a_m_from a_m_to a_m_weighs a_m_alive a_m_ranks m_known a_m_best a_m_most a_m_apart a_m_near a_m_worth a_m_mates a_m_sizes a_m_sums a_m_has a_m_sorts a_m_pieces m_pieceCount m_parts m_halves a_m_inCover m_coverSize m_holdSet a_m_pairCost a_m_inJoin m_hasJoin a_m_half a_m_way a_m_counts a_m_lastCounts a_m_openArc a_m_with a_m_tried m_stables m_firstSet a_m (f_X12_all m_nodes) rfl _) (cwV 0 S.2.2.2.2 gX12_findHalves_X12_all rfl rfl rfl (by decide +kernel) (rm_le (by omega) (by decide))) (preV (q := (RX12, TX12, 37)) hN hw [0] rfl rfl rfl rfl) rfl rfl hl.1 rfl (lv_room (Nat.le_of_ble_eq_true rfl)) dX12_findHalves_5 ⟨Nat.le_refl _, Nat.le_refl _⟩) hw hA [0] [1, 2, 3, 4] rfl rfl rfl (by decide) (fun H locs hw => ?_)
  have hw : Wo E A s [aI E a_m_from 60 m_from, aI E a_m_to 60 m_to, aZ E a_m_alive 60 m_alive, aI E a_m_half 16 m_half, oC a_m 12 [.int m_nodes, .int m_made, .ref a_m_from, .ref a_m_to, .ref a_m_weighs, .ref a_m_alive, .ref a_m_ranks, .int m_known, .ref a_m_best, .ref a_m_most, .ref a_m_apart, .ref a_m_near, .ref a_m_worth, .ref a_m_mates, .ref a_m_sizes, .ref a_m_sums, .ref a_m_has, .ref a_m_sorts, .ref a_m_pieces, .int m_pieceCount, .int m_parts, .int m_halves, .ref a_m_inCover, .int m_coverSize, .int m_holdSet, .ref a_m_pairCost, .ref a_m_inJoin, .int m_hasJoin, .ref a_m_half, .ref a_m_way, .ref a_m_counts, .ref a_m_lastCounts, .ref a_m_openArc, .ref a_m_with, .ref a_m_tried, .int m_stables, .long m_firstSet]] H _ := hw
  obtain ⟨r_3, hc_3, hf⟩ := bd_s hf
  refine g_calli (r := r_3) (wc := [oC a_m 12 [.int m_nodes, .int m_made, .ref a_m_from, .ref a_m_to, .ref a_m_weighs, .ref a_m_alive, .ref a_m_ranks, .int m_known, .ref a_m_best, .ref a_m_most, .ref a_m_apart, .ref a_m_near, .ref a_m_worth, .ref a_m_mates, .ref a_m_sizes, .ref a_m_sums, .ref a_m_has, .ref a_m_sorts, .ref a_m_pieces, .int m_pieceCount, .int m_parts, .int m_halves, .ref a_m_inCover, .int m_coverSize, .int m_holdSet, .ref a_m_pairCost, .ref a_m_inJoin, .int m_hasJoin, .ref a_m_half, .ref a_m_way, .ref a_m_counts, .ref a_m_lastCounts, .ref a_m_openArc, .ref a_m_with, .ref a_m_tried, .int m_stables, .long m_firstSet], aI E a_m_from 60 m_from, aI E a_m_to 60 m_to, aZ E a_m_alive 60 m_alive]) (wr := [aI E a_m_half 16 m_half]) (w1 := [oC a_m 12 [.int m_nodes, .int m_made, .ref a_m_from, .ref a_m_to, .ref a_m_weighs, .ref a_m_alive, .ref a_m_ranks, .int m_known, .ref a_m_best, .ref a_m_most, .ref a_m_apart, .ref a_m_near, .ref a_m_worth, .ref a_m_mates, .ref a_m_sizes, .ref a_m_sums, .ref a_m_has, .ref a_m_sorts, .ref a_m_pieces, .int m_pieceCount, .int m_parts, .int m_halves, .ref a_m_inCover, .int m_coverSize, .int m_holdSet, .ref a_m_pairCost, .ref a_m_inJoin, .int m_hasJoin, .ref a_m_half, .ref a_m_way, .ref a_m_counts, .ref a_m_lastCounts, .ref a_m_openArc, .ref a_m_with, .ref a_m_tried, .int m_stables, .long m_firstSet], aI E a_m_from 60 m_from, aI E a_m_to 60 m_to, aZ E a_m_alive 60 m_alive]) (va_runV (As := [.int ((1 : Int32) <<< (p1 &&& 31)), .int (f_X12_all m_nodes)]) (rest := []) S (c_X12_grown l E F m_nodes m_made m_from a_m_from m_to a_m_to a_m_weighs m_alive a_m_alive a_m_ranks m_known a_m_best a_m_most a_m_apart a_m_near a_m_worth a_m_mates a_m_sizes a_m_sums a_m_has a_m_sorts a_m_pieces m_pieceCount m_parts m_halves a_m_inCover m_coverSize m_holdSet a_m_pairCost a_m_inJoin m_hasJoin a_m_half a_m_way a_m_counts a_m_lastCounts a_m_openArc a_m_with a_m_tried m_stables m_firstSet a_m ((1 : Int32) <<< (p1 &&& 31)) (f_X12_all m_nodes) r_3 hc_3 _) (cwV 2 S.2.2.2.2 gX12_findHalves_X12_grown rfl rfl rfl (by decide +kernel) (rm_le (by omega) (by decide))) (preV (q := (RX12, TX12, 37)) hN hw [4, 0, 1, 2] rfl rfl rfl rfl) rfl rfl hl.1 rfl (lv_room (Nat.le_of_ble_eq_true rfl)) dX12_findHalves_8 ⟨Nat.le_refl _, Nat.le_refl _⟩) hw hA [4, 0, 1, 2] [3] rfl rfl rfl (by decide) (fun H locs hw => ?_)
  have hw : Wo E A s [aI E a_m_half 16 m_half, oC a_m 12 [.int m_nodes, .int m_made, .ref a_m_from, .ref a_m_to, .ref a_m_weighs, .ref a_m_alive, .ref a_m_ranks, .int m_known, .ref a_m_best, .ref a_m_most, .ref a_m_apart, .ref a_m_near, .ref a_m_worth, .ref a_m_mates, .ref a_m_sizes, .ref a_m_sums, .ref a_m_has, .ref a_m_sorts, .ref a_m_pieces, .int m_pieceCount, .int m_parts, .int m_halves, .ref a_m_inCover, .int m_coverSize, .int m_holdSet, .ref a_m_pairCost, .ref a_m_inJoin, .int m_hasJoin, .ref a_m_half, .ref a_m_way, .ref a_m_counts, .ref a_m_lastCounts, .ref a_m_openArc, .ref a_m_with, .ref a_m_tried, .int m_stables, .long m_firstSet], aI E a_m_from 60 m_from, aI E a_m_to 60 m_to, aZ E a_m_alive 60 m_alive] H _ := hw
  refine lv_istore_n (lv' := [(2, .int r_3), (0, .ref a_m), (1, .int p1)]) S.1 S.2.1 dX12_findHalves_11 rfl hl (by decide) rfl (fun ls hl => ?_)
  refine lv_iconst (v := 0) S.1 S.2.1 dX12_findHalves_12 (by decide) ?_
  refine lv_istore_n (lv' := [(3, .int 0), (2, .int r_3), (0, .ref a_m), (1, .int p1)]) S.1 S.2.1 dX12_findHalves_13 rfl hl (by decide) rfl (fun ls hl => ?_)
  obtain ⟨kk_44_48, ekk_44_48, hf⟩ := jn_s hf
  have hJ_kk_44_48 : ∀ (m_half_5 : Nat → Int32) (H : Heap) (locs : List Loc) (ls : Array Slot), Wo E A s [aI E a_m_half 16 m_half_5, oC a_m 12 [.int m_nodes, .int m_made, .ref a_m_from, .ref a_m_to, .ref a_m_weighs, .ref a_m_alive, .ref a_m_ranks, .int m_known, .ref a_m_best, .ref a_m_most, .ref a_m_apart, .ref a_m_near, .ref a_m_worth, .ref a_m_mates, .ref a_m_sizes, .ref a_m_sums, .ref a_m_has, .ref a_m_sorts, .ref a_m_pieces, .int m_pieceCount, .int m_parts, .int m_halves, .ref a_m_inCover, .int m_coverSize, .int m_holdSet, .ref a_m_pairCost, .ref a_m_inJoin, .int m_hasJoin, .ref a_m_half, .ref a_m_way, .ref a_m_counts, .ref a_m_lastCounts, .ref a_m_openArc, .ref a_m_with, .ref a_m_tried, .int m_stables, .long m_firstSet], aI E a_m_from 60 m_from, aI E a_m_to 60 m_to, aZ E a_m_alive 60 m_alive] H locs → lv_has ls 7 [(0, .ref a_m), (2, .int r_3)] → kk_44_48 m_half_5 = some (u_m_halves, u_m_half) → W p l e (Rm 1) s m (([.ref a_m, .int p1] : List Value).toArray) below meth c H locs 0 0 Q (F0 m 44 ls []) := by
    intro m_half_5 H locs ls hw hl hf
    rw [ekk_44_48] at hf
    refine lv_iconst (v := 1) S.1 S.2.1 dX12_findHalves_44 (by decide) ?_
    refine lv_istore_n (lv' := [(3, .int 1), (0, .ref a_m), (2, .int r_3)]) S.1 S.2.1 dX12_findHalves_45 rfl hl (by decide) rfl (fun ls hl => ?_)
    obtain ⟨kk_201_9, ekk_201_9, hf⟩ := jn_s hf
    have hJ_kk_201_9 : ∀ (m_half_6 : Nat → Int32) (m_halves_7 : Int32) (H : Heap) (locs : List Loc) (ls : Array Slot), Wo E A s [aI E a_m_half 16 m_half_6, oC a_m 12 [.int m_nodes, .int m_made, .ref a_m_from, .ref a_m_to, .ref a_m_weighs, .ref a_m_alive, .ref a_m_ranks, .int m_known, .ref a_m_best, .ref a_m_most, .ref a_m_apart, .ref a_m_near, .ref a_m_worth, .ref a_m_mates, .ref a_m_sizes, .ref a_m_sums, .ref a_m_has, .ref a_m_sorts, .ref a_m_pieces, .int m_pieceCount, .int m_parts, .int m_halves_7, .ref a_m_inCover, .int m_coverSize, .int m_holdSet, .ref a_m_pairCost, .ref a_m_inJoin, .int m_hasJoin, .ref a_m_half, .ref a_m_way, .ref a_m_counts, .ref a_m_lastCounts, .ref a_m_openArc, .ref a_m_with, .ref a_m_tried, .int m_stables, .long m_firstSet], aI E a_m_from 60 m_from, aI E a_m_to 60 m_to, aZ E a_m_alive 60 m_alive] H locs → lv_has ls 7 [] → kk_201_9 m_half_6 m_halves_7 = some (u_m_halves, u_m_half) → W p l e (Rm 1) s m (([.ref a_m, .int p1] : List Value).toArray) below meth c H locs 0 0 Q (F0 m 201 ls []) := by
      intro m_half_6 m_halves_7 H locs ls hw hl hf
      rw [ekk_201_9] at hf
      obtain ⟨e_8, e_9⟩ := tp2 hf
      exact hE2 _ _ _ _ _ (hw.sub [1, 2, 3, 4, 0] rfl rfl) (cg2 (fun (x1 : Int32) (x2 : Nat → Int32) => [oC a_m 12 [.int m_nodes, .int m_made, .ref a_m_from, .ref a_m_to, .ref a_m_weighs, .ref a_m_alive, .ref a_m_ranks, .int m_known, .ref a_m_best, .ref a_m_most, .ref a_m_apart, .ref a_m_near, .ref a_m_worth, .ref a_m_mates, .ref a_m_sizes, .ref a_m_sums, .ref a_m_has, .ref a_m_sorts, .ref a_m_pieces, .int m_pieceCount, .int m_parts, .int x1, .ref a_m_inCover, .int m_coverSize, .int m_holdSet, .ref a_m_pairCost, .ref a_m_inJoin, .int m_hasJoin, .ref a_m_half, .ref a_m_way, .ref a_m_counts, .ref a_m_lastCounts, .ref a_m_openArc, .ref a_m_with, .ref a_m_tried, .int m_stables, .long m_firstSet], aI E a_m_from 60 m_from, aI E a_m_to 60 m_to, aZ E a_m_alive 60 m_alive, aI E a_m_half 16 x2]) e_8 e_9) dX12_findHalves_201
    have hL_46_47 : ∀ (n : Nat) (v3_11 : Int32) (m_half_12 : Nat → Int32) (m_halves_13 : Int32) (H : Heap) (locs : List Loc) (ls : Array Slot), Wo E A s [aI E a_m_half 16 m_half_12, oC a_m 12 [.int m_nodes, .int m_made, .ref a_m_from, .ref a_m_to, .ref a_m_weighs, .ref a_m_alive, .ref a_m_ranks, .int m_known, .ref a_m_best, .ref a_m_most, .ref a_m_apart, .ref a_m_near, .ref a_m_worth, .ref a_m_mates, .ref a_m_sizes, .ref a_m_sums, .ref a_m_has, .ref a_m_sorts, .ref a_m_pieces, .int m_pieceCount, .int m_parts, .int m_halves_13, .ref a_m_inCover, .int m_coverSize, .int m_holdSet, .ref a_m_pairCost, .ref a_m_inJoin, .int m_hasJoin, .ref a_m_half, .ref a_m_way, .ref a_m_counts, .ref a_m_lastCounts, .ref a_m_openArc, .ref a_m_with, .ref a_m_tried, .int m_stables, .long m_firstSet], aI E a_m_from 60 m_from, aI E a_m_to 60 m_to, aZ E a_m_alive 60 m_alive] H locs → lv_has ls 7 [(0, .ref a_m), (2, .int r_3), (3, .int v3_11)] → f_X12_findHalves_L46 F m_made m_from m_to m_alive r_3 kk_201_9 n v3_11 m_half_12 m_halves_13 = some (u_m_halves, u_m_half) → W p l e (Rm 1) s m (([.ref a_m, .int p1] : List Value).toArray) below meth c H locs 0 0 Q (F0 m 46 ls []) := by
      intro n
      induction n with
      | zero => intro v3_11 m_half_12 m_halves_13 H locs ls hw hl hf; unfold f_X12_findHalves_L46 at hf; cases hf
      | succ n ih =>
        intro v3_11 m_half_12 m_halves_13 H locs ls hw hl hf
        unfold f_X12_findHalves_L46 at hf
        refine lv_iload_n S.1 S.2.1 dX12_findHalves_46 rfl (lv_at hl 2 rfl) ?_
        refine lv_if_eq (tgt := 201) S.1 S.2.1 dX12_findHalves_47 (by decide) (fun h_14 => ?_) (fun h_14 => ?_)
        · replace hf := if_t h_14 hf
          exact hJ_kk_201_9 m_half_12 m_halves_13 _ _ _ hw (lv_sub hl [] rfl) hf
        · replace hf := if_f h_14 hf
          refine lv_iconst (v := 0) S.1 S.2.1 dX12_findHalves_50 (by decide) ?_
          refine lv_istore_n (lv' := [(3, .int 0), (0, .ref a_m), (2, .int r_3)]) S.1 S.2.1 dX12_findHalves_51 rfl hl (by decide) rfl (fun ls hl => ?_)
          refine lv_iconst (v := 0) S.1 S.2.1 dX12_findHalves_52 (by decide) ?_
          refine lv_istore (lv' := [(4, .int 0), (3, .int 0), (0, .ref a_m), (2, .int r_3)]) S.1 S.2.1 dX12_findHalves_53 hl (by decide) rfl (fun ls hl => ?_)
          obtain ⟨kk_198_17, ekk_198_17, hf⟩ := jn_s hf
          have hJ_kk_198_17 : ∀ (v3_15 : Int32) (m_half_16 : Nat → Int32) (m_halves_17 : Int32) (H : Heap) (locs : List Loc) (ls : Array Slot), Wo E A s [aI E a_m_half 16 m_half_16, oC a_m 12 [.int m_nodes, .int m_made, .ref a_m_from, .ref a_m_to, .ref a_m_weighs, .ref a_m_alive, .ref a_m_ranks, .int m_known, .ref a_m_best, .ref a_m_most, .ref a_m_apart, .ref a_m_near, .ref a_m_worth, .ref a_m_mates, .ref a_m_sizes, .ref a_m_sums, .ref a_m_has, .ref a_m_sorts, .ref a_m_pieces, .int m_pieceCount, .int m_parts, .int m_halves_17, .ref a_m_inCover, .int m_coverSize, .int m_holdSet, .ref a_m_pairCost, .ref a_m_inJoin, .int m_hasJoin, .ref a_m_half, .ref a_m_way, .ref a_m_counts, .ref a_m_lastCounts, .ref a_m_openArc, .ref a_m_with, .ref a_m_tried, .int m_stables, .long m_firstSet], aI E a_m_from 60 m_from, aI E a_m_to 60 m_to, aZ E a_m_alive 60 m_alive] H locs → lv_has ls 7 [(0, .ref a_m), (2, .int r_3), (3, .int v3_15)] → kk_198_17 v3_15 m_half_16 m_halves_17 = some (u_m_halves, u_m_half) → W p l e (Rm 1) s m (([.ref a_m, .int p1] : List Value).toArray) below meth c H locs 0 0 Q (F0 m 198 ls []) := by
            intro v3_15 m_half_16 m_halves_17 H locs ls hw hl hf
            rw [ekk_198_17] at hf
            refine lv_goto (tgt := 46) S.1 S.2.1 dX12_findHalves_198 (by decide) ?_
            exact ih v3_15 m_half_16 m_halves_17 _ _ _ hw hl hf
          have hL_55_46 : ∀ (n : Nat) (v3_19 : Int32) (v4_20 : Int32) (m_half_21 : Nat → Int32) (m_halves_22 : Int32) (H : Heap) (locs : List Loc) (ls : Array Slot), Wo E A s [aI E a_m_half 16 m_half_21, oC a_m 12 [.int m_nodes, .int m_made, .ref a_m_from, .ref a_m_to, .ref a_m_weighs, .ref a_m_alive, .ref a_m_ranks, .int m_known, .ref a_m_best, .ref a_m_most, .ref a_m_apart, .ref a_m_near, .ref a_m_worth, .ref a_m_mates, .ref a_m_sizes, .ref a_m_sums, .ref a_m_has, .ref a_m_sorts, .ref a_m_pieces, .int m_pieceCount, .int m_parts, .int m_halves_22, .ref a_m_inCover, .int m_coverSize, .int m_holdSet, .ref a_m_pairCost, .ref a_m_inJoin, .int m_hasJoin, .ref a_m_half, .ref a_m_way, .ref a_m_counts, .ref a_m_lastCounts, .ref a_m_openArc, .ref a_m_with, .ref a_m_tried, .int m_stables, .long m_firstSet], aI E a_m_from 60 m_from, aI E a_m_to 60 m_to, aZ E a_m_alive 60 m_alive] H locs → lv_has ls 7 [(0, .ref a_m), (2, .int r_3), (3, .int v3_19), (4, .int v4_20)] → f_X12_findHalves_L55 m_made m_from m_to m_alive r_3 kk_198_17 n v3_19 v4_20 m_half_21 m_halves_22 = some (u_m_halves, u_m_half) → W p l e (Rm 1) s m (([.ref a_m, .int p1] : List Value).toArray) below meth c H locs 0 0 Q (F0 m 55 ls []) := by
            intro n
            induction n with
            | zero => intro v3_19 v4_20 m_half_21 m_halves_22 H locs ls hw hl hf; unfold f_X12_findHalves_L55 at hf; cases hf
            | succ n ih =>
              intro v3_19 v4_20 m_half_21 m_halves_22 H locs ls hw hl hf
              unfold f_X12_findHalves_L55 at hf
              refine lv_iload S.1 S.2.1 dX12_findHalves_55 (lv_at hl 3 rfl) ?_
              refine lv_aload_n S.1 S.2.1 dX12_findHalves_57 rfl (lv_at hl 0 rfl) ?_
              refine g_get S hN hw (C := RX12) (T := TX12) (N := 37) (ci := 12) (v := .int m_made) 1 1 iX12 k97 dX12_findHalves_58 rfl rfl (by decide) rfl ?_
              refine lv_icmp_ge (tgt := 198) S.1 S.2.1 dX12_findHalves_61 (by decide) (fun h_23 => ?_) (fun h_23 => ?_)
              · replace hf := if_t h_23 hf
                exact hJ_kk_198_17 v3_19 m_half_21 m_halves_22 _ _ _ hw (lv_sub hl [0, 1, 2] rfl) hf
              · replace hf := if_f h_23 hf
                refine lv_aload_n S.1 S.2.1 dX12_findHalves_64 rfl (lv_at hl 0 rfl) ?_
                refine g_get S hN hw (C := RX12) (T := TX12) (N := 37) (ci := 12) (v := .ref a_m_alive) 1 5 iX12 k19 dX12_findHalves_65 rfl rfl (by decide) rfl ?_
                refine lv_iload S.1 S.2.1 dX12_findHalves_68 (lv_at hl 3 rfl) ?_
                obtain ⟨hi_23, hf⟩ := rd_s hf
                refine g_zald (n := 60) (f := m_alive) S hN hw 4 hi_23 dX12_findHalves_70 rfl ?_
                generalize m_alive (v4_20 : Int32).toNatClampNeg = y_24 at hf ⊢
                refine lv_if_eq (tgt := 192) S.1 S.2.1 dX12_findHalves_71 (by decide) (fun h_25 => ?_) (fun h_25 => ?_)
                · replace hf := if_t h_25 hf
                  refine lv_iinc (v := (v4_20 + 1)) (lv' := [(4, .int (v4_20 + 1)), (0, .ref a_m), (2, .int r_3), (3, .int v3_19)]) S.1 S.2.1 dX12_findHalves_192 hl (k := 3) rfl rfl (by decide) rfl (fun ls hl => ?_)
                  refine lv_goto (tgt := 55) S.1 S.2.1 dX12_findHalves_195 (by decide) ?_
                  exact ih v3_19 (v4_20 + 1) m_half_21 m_halves_22 _ _ _ hw (lv_sub hl [1, 2, 3, 0] rfl) hf
                · replace hf := if_f h_25 hf
                  refine lv_iload_n S.1 S.2.1 dX12_findHalves_74 rfl (lv_at hl 1 rfl) ?_
                  refine lv_aload_n S.1 S.2.1 dX12_findHalves_75 rfl (lv_at hl 0 rfl) ?_
                  refine g_get S hN hw (C := RX12) (T := TX12) (N := 37) (ci := 12) (v := .ref a_m_from) 1 2 iX12 k7 dX12_findHalves_76 rfl rfl (by decide) rfl ?_
                  refine lv_iload S.1 S.2.1 dX12_findHalves_79 (lv_at hl 3 rfl) ?_
                  obtain ⟨hi_25, hf⟩ := rd_s hf
                  refine g_iald (n := 60) (f := m_from) S hN hw 2 hi_25 dX12_findHalves_81 rfl ?_
                  generalize m_from (v4_20 : Int32).toNatClampNeg = y_26 at hf ⊢
                  refine lv_ishr S.1 S.2.1 dX12_findHalves_82 ?_
                  refine lv_iconst (v := 1) S.1 S.2.1 dX12_findHalves_83 (by decide) ?_
                  refine lv_iand S.1 S.2.1 dX12_findHalves_84 ?_
                  refine lv_if_ne (tgt := 91) S.1 S.2.1 dX12_findHalves_85 (by decide) (fun h_27 => ?_) (fun h_27 => ?_)
                  · replace hf := if_f h_27 hf
                    refine lv_aload_n S.1 S.2.1 dX12_findHalves_91 rfl (lv_at hl 0 rfl) ?_
                    refine g_get S hN hw (C := RX12) (T := TX12) (N := 37) (ci := 12) (v := .ref a_m_half) 1 28 iX12 k70 dX12_findHalves_92 rfl rfl (by decide) rfl ?_
                    refine lv_aload_n S.1 S.2.1 dX12_findHalves_95 rfl (lv_at hl 0 rfl) ?_
                    refine g_get S hN hw (C := RX12) (T := TX12) (N := 37) (ci := 12) (v := .ref a_m_from) 1 2 iX12 k7 dX12_findHalves_96 rfl rfl (by decide) rfl ?_
                    refine lv_iload S.1 S.2.1 dX12_findHalves_99 (lv_at hl 3 rfl) ?_
                    obtain ⟨hi_27, hf⟩ := rd_s hf
                    refine g_iald (n := 60) (f := m_from) S hN hw 2 hi_27 dX12_findHalves_101 rfl ?_
                    generalize m_from (v4_20 : Int32).toNatClampNeg = y_28 at hf ⊢
                    obtain ⟨hi_28, hf⟩ := rd_s hf
                    refine g_iald (n := 16) (f := m_half_21) S hN hw 0 hi_28 dX12_findHalves_102 rfl ?_
                    generalize m_half_21 (y_28 : Int32).toNatClampNeg = y_29 at hf ⊢
                    refine lv_istore (lv' := [(5, .int y_29), (0, .ref a_m), (2, .int r_3), (3, .int v3_19), (4, .int v4_20)]) S.1 S.2.1 dX12_findHalves_103 hl (by decide) rfl (fun ls hl => ?_)
                    refine lv_aload_n S.1 S.2.1 dX12_findHalves_105 rfl (lv_at hl 1 rfl) ?_
                    refine g_get S hN hw (C := RX12) (T := TX12) (N := 37) (ci := 12) (v := .ref a_m_half) 1 28 iX12 k70 dX12_findHalves_106 rfl rfl (by decide) rfl ?_
                    refine lv_aload_n S.1 S.2.1 dX12_findHalves_109 rfl (lv_at hl 1 rfl) ?_
                    refine g_get S hN hw (C := RX12) (T := TX12) (N := 37) (ci := 12) (v := .ref a_m_to) 1 3 iX12 k13 dX12_findHalves_110 rfl rfl (by decide) rfl ?_
                    refine lv_iload S.1 S.2.1 dX12_findHalves_113 (lv_at hl 4 rfl) ?_
                    obtain ⟨hi_29, hf⟩ := rd_s hf
                    refine g_iald (n := 60) (f := m_to) S hN hw 3 hi_29 dX12_findHalves_115 rfl ?_
                    generalize m_to (v4_20 : Int32).toNatClampNeg = y_30 at hf ⊢
                    obtain ⟨hi_30, hf⟩ := rd_s hf
                    refine g_iald (n := 16) (f := m_half_21) S hN hw 0 hi_30 dX12_findHalves_116 rfl ?_
                    generalize m_half_21 (y_30 : Int32).toNatClampNeg = y_31 at hf ⊢
                    refine lv_istore (lv' := [(6, .int y_31), (5, .int y_29), (0, .ref a_m), (2, .int r_3), (3, .int v3_19), (4, .int v4_20)]) S.1 S.2.1 dX12_findHalves_117 hl (by decide) rfl (fun ls hl => ?_)
                    refine lv_iload S.1 S.2.1 dX12_findHalves_119 (lv_at hl 1 rfl) ?_
                    obtain ⟨jj_136_32, ejj_136_32, hf⟩ := jn_s hf
                    have hJ_jj_136_32 : ∀ (m_halves_32 : Int32) (H : Heap) (locs : List Loc) (ls : Array Slot), Wo E A s [aI E a_m_half 16 m_half_21, oC a_m 12 [.int m_nodes, .int m_made, .ref a_m_from, .ref a_m_to, .ref a_m_weighs, .ref a_m_alive, .ref a_m_ranks, .int m_known, .ref a_m_best, .ref a_m_most, .ref a_m_apart, .ref a_m_near, .ref a_m_worth, .ref a_m_mates, .ref a_m_sizes, .ref a_m_sums, .ref a_m_has, .ref a_m_sorts, .ref a_m_pieces, .int m_pieceCount, .int m_parts, .int m_halves_32, .ref a_m_inCover, .int m_coverSize, .int m_holdSet, .ref a_m_pairCost, .ref a_m_inJoin, .int m_hasJoin, .ref a_m_half, .ref a_m_way, .ref a_m_counts, .ref a_m_lastCounts, .ref a_m_openArc, .ref a_m_with, .ref a_m_tried, .int m_stables, .long m_firstSet], aI E a_m_from 60 m_from, aI E a_m_to 60 m_to, aZ E a_m_alive 60 m_alive] H locs → lv_has ls 7 [(0, .ref a_m), (2, .int r_3), (3, .int v3_19), (4, .int v4_20), (5, .int y_29), (6, .int y_31)] → jj_136_32 m_halves_32 = some (u_m_halves, u_m_half) → W p l e (Rm 1) s m (([.ref a_m, .int p1] : List Value).toArray) below meth c H locs 0 0 Q (F0 m 136 ls []) := by
                      intro m_halves_32 H locs ls hw hl hf
                      rw [ejj_136_32] at hf
                      refine lv_iload S.1 S.2.1 dX12_findHalves_136 (lv_at hl 4 rfl) ?_
                      obtain ⟨jj_164_35, ejj_164_35, hf⟩ := jn_s hf
                      have hJ_jj_164_35 : ∀ (v3_34 : Int32) (m_half_35 : Nat → Int32) (H : Heap) (locs : List Loc) (ls : Array Slot), Wo E A s [aI E a_m_half 16 m_half_35, oC a_m 12 [.int m_nodes, .int m_made, .ref a_m_from, .ref a_m_to, .ref a_m_weighs, .ref a_m_alive, .ref a_m_ranks, .int m_known, .ref a_m_best, .ref a_m_most, .ref a_m_apart, .ref a_m_near, .ref a_m_worth, .ref a_m_mates, .ref a_m_sizes, .ref a_m_sums, .ref a_m_has, .ref a_m_sorts, .ref a_m_pieces, .int m_pieceCount, .int m_parts, .int m_halves_32, .ref a_m_inCover, .int m_coverSize, .int m_holdSet, .ref a_m_pairCost, .ref a_m_inJoin, .int m_hasJoin, .ref a_m_half, .ref a_m_way, .ref a_m_counts, .ref a_m_lastCounts, .ref a_m_openArc, .ref a_m_with, .ref a_m_tried, .int m_stables, .long m_firstSet], aI E a_m_from 60 m_from, aI E a_m_to 60 m_to, aZ E a_m_alive 60 m_alive] H locs → lv_has ls 7 [(0, .ref a_m), (2, .int r_3), (3, .int v3_34), (4, .int v4_20), (5, .int y_29), (6, .int y_31)] → jj_164_35 v3_34 m_half_35 = some (u_m_halves, u_m_half) → W p l e (Rm 1) s m (([.ref a_m, .int p1] : List Value).toArray) below meth c H locs 0 0 Q (F0 m 164 ls []) := by
                        intro v3_34 m_half_35 H locs ls hw hl hf
                        rw [ejj_164_35] at hf
                        refine lv_iload S.1 S.2.1 dX12_findHalves_164 (lv_at hl 5 rfl) ?_
                        refine lv_if_eq (tgt := 192) S.1 S.2.1 dX12_findHalves_166 (by decide) (fun h_37 => ?_) (fun h_37 => ?_)
                        · replace hf := if_t h_37 hf
                          refine lv_iinc (v := (v4_20 + 1)) (lv' := [(4, .int (v4_20 + 1)), (0, .ref a_m), (2, .int r_3), (3, .int v3_34), (5, .int y_29), (6, .int y_31)]) S.1 S.2.1 dX12_findHalves_192 hl (k := 3) rfl rfl (by decide) rfl (fun ls hl => ?_)
                          refine lv_goto (tgt := 55) S.1 S.2.1 dX12_findHalves_195 (by decide) ?_
                          exact ih v3_34 (v4_20 + 1) m_half_35 m_halves_32 _ _ _ hw (lv_sub hl [1, 2, 3, 0] rfl) hf
                        · replace hf := if_f h_37 hf
                          refine lv_iload S.1 S.2.1 dX12_findHalves_169 (lv_at hl 4 rfl) ?_
                          refine lv_if_ne (tgt := 192) S.1 S.2.1 dX12_findHalves_171 (by decide) (fun h_38 => ?_) (fun h_38 => ?_)
                          · replace hf := if_f h_38 hf
                            refine lv_iinc (v := (v4_20 + 1)) (lv' := [(4, .int (v4_20 + 1)), (0, .ref a_m), (2, .int r_3), (3, .int v3_34), (5, .int y_29), (6, .int y_31)]) S.1 S.2.1 dX12_findHalves_192 hl (k := 3) rfl rfl (by decide) rfl (fun ls hl => ?_)
                            refine lv_goto (tgt := 55) S.1 S.2.1 dX12_findHalves_195 (by decide) ?_
                            exact ih v3_34 (v4_20 + 1) m_half_35 m_halves_32 _ _ _ hw (lv_sub hl [1, 2, 3, 0] rfl) hf
                          · replace hf := if_t h_38 hf
                            refine lv_aload_n S.1 S.2.1 dX12_findHalves_174 rfl (lv_at hl 0 rfl) ?_
                            refine g_get S hN hw (C := RX12) (T := TX12) (N := 37) (ci := 12) (v := .ref a_m_half) 1 28 iX12 k70 dX12_findHalves_175 rfl rfl (by decide) rfl ?_
                            refine lv_aload_n S.1 S.2.1 dX12_findHalves_178 rfl (lv_at hl 0 rfl) ?_
                            refine g_get S hN hw (C := RX12) (T := TX12) (N := 37) (ci := 12) (v := .ref a_m_from) 1 2 iX12 k7 dX12_findHalves_179 rfl rfl (by decide) rfl ?_
                            refine lv_iload S.1 S.2.1 dX12_findHalves_182 (lv_at hl 3 rfl) ?_
                            obtain ⟨hi_38, hf⟩ := rd_s hf
                            refine g_iald (n := 60) (f := m_from) S hN hw 2 hi_38 dX12_findHalves_184 rfl ?_
                            generalize m_from (v4_20 : Int32).toNatClampNeg = y_39 at hf ⊢
                            refine lv_iconst (v := 3) S.1 S.2.1 dX12_findHalves_185 (by decide) ?_
                            refine lv_iload S.1 S.2.1 dX12_findHalves_186 (lv_at hl 5 rfl) ?_
                            refine lv_isub S.1 S.2.1 dX12_findHalves_188 ?_
                            obtain ⟨hi_39, hf⟩ := wr_s hf
                            refine g_iast (n := 16) (f := m_half_35) (w1 := [aI E a_m_half 16 (va_up m_half_35 (y_39 : Int32).toNatClampNeg (3 - y_31)), oC a_m 12 [.int m_nodes, .int m_made, .ref a_m_from, .ref a_m_to, .ref a_m_weighs, .ref a_m_alive, .ref a_m_ranks, .int m_known, .ref a_m_best, .ref a_m_most, .ref a_m_apart, .ref a_m_near, .ref a_m_worth, .ref a_m_mates, .ref a_m_sizes, .ref a_m_sums, .ref a_m_has, .ref a_m_sorts, .ref a_m_pieces, .int m_pieceCount, .int m_parts, .int m_halves_32, .ref a_m_inCover, .int m_coverSize, .int m_holdSet, .ref a_m_pairCost, .ref a_m_inJoin, .int m_hasJoin, .ref a_m_half, .ref a_m_way, .ref a_m_counts, .ref a_m_lastCounts, .ref a_m_openArc, .ref a_m_with, .ref a_m_tried, .int m_stables, .long m_firstSet], aI E a_m_from 60 m_from, aI E a_m_to 60 m_to, aZ E a_m_alive 60 m_alive]) S hN hw 0 hi_39 dX12_findHalves_189 rfl rfl (fun H locs hw => ?_)
                            generalize va_up m_half_35 (y_39 : Int32).toNatClampNeg (3 - y_31) = m_half_40 at hf hw
                            refine lv_iconst (v := 1) S.1 S.2.1 dX12_findHalves_190 (by decide) ?_
                            refine lv_istore_n (lv' := [(3, .int 1), (0, .ref a_m), (2, .int r_3), (4, .int v4_20), (5, .int y_29), (6, .int y_31)]) S.1 S.2.1 dX12_findHalves_191 rfl hl (by decide) rfl (fun ls hl => ?_)
                            refine lv_iinc (v := (v4_20 + 1)) (lv' := [(4, .int (v4_20 + 1)), (3, .int 1), (0, .ref a_m), (2, .int r_3), (5, .int y_29), (6, .int y_31)]) S.1 S.2.1 dX12_findHalves_192 hl (k := 3) rfl rfl (by decide) rfl (fun ls hl => ?_)
                            refine lv_goto (tgt := 55) S.1 S.2.1 dX12_findHalves_195 (by decide) ?_
                            exact ih 1 (v4_20 + 1) m_half_40 m_halves_32 _ _ _ hw (lv_sub hl [2, 3, 1, 0] rfl) hf
                      refine lv_if_eq (tgt := 164) S.1 S.2.1 dX12_findHalves_138 (by decide) (fun h_41 => ?_) (fun h_41 => ?_)
                      · replace hf := if_t h_41 hf
                        exact hJ_jj_164_35 v3_19 m_half_21 _ _ _ hw hl hf
                      · replace hf := if_f h_41 hf
                        refine lv_iload S.1 S.2.1 dX12_findHalves_141 (lv_at hl 5 rfl) ?_
                        refine lv_if_ne (tgt := 164) S.1 S.2.1 dX12_findHalves_143 (by decide) (fun h_42 => ?_) (fun h_42 => ?_)
                        · replace hf := if_f h_42 hf
                          exact hJ_jj_164_35 v3_19 m_half_21 _ _ _ hw hl hf
                        · replace hf := if_t h_42 hf
                          refine lv_aload_n S.1 S.2.1 dX12_findHalves_146 rfl (lv_at hl 0 rfl) ?_
                          refine g_get S hN hw (C := RX12) (T := TX12) (N := 37) (ci := 12) (v := .ref a_m_half) 1 28 iX12 k70 dX12_findHalves_147 rfl rfl (by decide) rfl ?_
                          refine lv_aload_n S.1 S.2.1 dX12_findHalves_150 rfl (lv_at hl 0 rfl) ?_
                          refine g_get S hN hw (C := RX12) (T := TX12) (N := 37) (ci := 12) (v := .ref a_m_to) 1 3 iX12 k13 dX12_findHalves_151 rfl rfl (by decide) rfl ?_
                          refine lv_iload S.1 S.2.1 dX12_findHalves_154 (lv_at hl 3 rfl) ?_
                          obtain ⟨hi_42, hf⟩ := rd_s hf
                          refine g_iald (n := 60) (f := m_to) S hN hw 3 hi_42 dX12_findHalves_156 rfl ?_
                          generalize m_to (v4_20 : Int32).toNatClampNeg = y_43 at hf ⊢
                          refine lv_iconst (v := 3) S.1 S.2.1 dX12_findHalves_157 (by decide) ?_
                          refine lv_iload S.1 S.2.1 dX12_findHalves_158 (lv_at hl 4 rfl) ?_
                          refine lv_isub S.1 S.2.1 dX12_findHalves_160 ?_
                          obtain ⟨hi_43, hf⟩ := wr_s hf
                          refine g_iast (n := 16) (f := m_half_21) (w1 := [aI E a_m_half 16 (va_up m_half_21 (y_43 : Int32).toNatClampNeg (3 - y_29)), oC a_m 12 [.int m_nodes, .int m_made, .ref a_m_from, .ref a_m_to, .ref a_m_weighs, .ref a_m_alive, .ref a_m_ranks, .int m_known, .ref a_m_best, .ref a_m_most, .ref a_m_apart, .ref a_m_near, .ref a_m_worth, .ref a_m_mates, .ref a_m_sizes, .ref a_m_sums, .ref a_m_has, .ref a_m_sorts, .ref a_m_pieces, .int m_pieceCount, .int m_parts, .int m_halves_32, .ref a_m_inCover, .int m_coverSize, .int m_holdSet, .ref a_m_pairCost, .ref a_m_inJoin, .int m_hasJoin, .ref a_m_half, .ref a_m_way, .ref a_m_counts, .ref a_m_lastCounts, .ref a_m_openArc, .ref a_m_with, .ref a_m_tried, .int m_stables, .long m_firstSet], aI E a_m_from 60 m_from, aI E a_m_to 60 m_to, aZ E a_m_alive 60 m_alive]) S hN hw 0 hi_43 dX12_findHalves_161 rfl rfl (fun H locs hw => ?_)
                          generalize va_up m_half_21 (y_43 : Int32).toNatClampNeg (3 - y_29) = m_half_44 at hf hw
                          refine lv_iconst (v := 1) S.1 S.2.1 dX12_findHalves_162 (by decide) ?_
                          refine lv_istore_n (lv' := [(3, .int 1), (0, .ref a_m), (2, .int r_3), (4, .int v4_20), (5, .int y_29), (6, .int y_31)]) S.1 S.2.1 dX12_findHalves_163 rfl hl (by decide) rfl (fun ls hl => ?_)
                          exact hJ_jj_164_35 1 m_half_44 _ _ _ hw (lv_sub hl [1, 2, 0, 3, 4, 5] rfl) hf
                    refine lv_if_eq (tgt := 136) S.1 S.2.1 dX12_findHalves_121 (by decide) (fun h_45 => ?_) (fun h_45 => ?_)
                    · replace hf := if_t h_45 hf
                      exact hJ_jj_136_32 m_halves_22 _ _ _ hw (lv_sub hl [2, 3, 4, 5, 1, 0] rfl) hf
                    · replace hf := if_f h_45 hf
                      refine lv_iload S.1 S.2.1 dX12_findHalves_124 (lv_at hl 1 rfl) ?_
                      refine lv_iload S.1 S.2.1 dX12_findHalves_126 (lv_at hl 0 rfl) ?_
                      refine lv_icmp_ne (tgt := 136) S.1 S.2.1 dX12_findHalves_128 (by decide) (fun h_46 => ?_) (fun h_46 => ?_)
                      · replace hf := if_f h_46 hf
                        exact hJ_jj_136_32 m_halves_22 _ _ _ hw (lv_sub hl [2, 3, 4, 5, 1, 0] rfl) hf
                      · replace hf := if_t h_46 hf
                        refine lv_aload_n S.1 S.2.1 dX12_findHalves_131 rfl (lv_at hl 2 rfl) ?_
                        refine lv_iconst (v := 0) S.1 S.2.1 dX12_findHalves_132 (by decide) ?_
                        refine g_put S hN hw (C := RX12) (T := TX12) (N := 37) (ci := 12) (ty := .int) (w1 := [aI E a_m_half 16 m_half_21, oC a_m 12 [.int m_nodes, .int m_made, .ref a_m_from, .ref a_m_to, .ref a_m_weighs, .ref a_m_alive, .ref a_m_ranks, .int m_known, .ref a_m_best, .ref a_m_most, .ref a_m_apart, .ref a_m_near, .ref a_m_worth, .ref a_m_mates, .ref a_m_sizes, .ref a_m_sums, .ref a_m_has, .ref a_m_sorts, .ref a_m_pieces, .int m_pieceCount, .int m_parts, .int 0, .ref a_m_inCover, .int m_coverSize, .int m_holdSet, .ref a_m_pairCost, .ref a_m_inJoin, .int m_hasJoin, .ref a_m_half, .ref a_m_way, .ref a_m_counts, .ref a_m_lastCounts, .ref a_m_openArc, .ref a_m_with, .ref a_m_tried, .int m_stables, .long m_firstSet], aI E a_m_from 60 m_from, aI E a_m_to 60 m_to, aZ E a_m_alive 60 m_alive]) 1 21 iX12 k128 tyX12 tyX12_ok nmX12 dX12_findHalves_133 rfl rfl (by decide) rfl (by decide +kernel) rfl rfl (Nat.le_of_ble_eq_true rfl) rfl (fun H locs hw => ?_)
                        exact hJ_jj_136_32 0 _ _ _ hw (lv_sub hl [2, 3, 4, 5, 1, 0] rfl) hf
                  · replace hf := if_t h_27 hf
                    refine lv_goto (tgt := 192) S.1 S.2.1 dX12_findHalves_88 (by decide) ?_
                    refine lv_iinc (v := (v4_20 + 1)) (lv' := [(4, .int (v4_20 + 1)), (0, .ref a_m), (2, .int r_3), (3, .int v3_19)]) S.1 S.2.1 dX12_findHalves_192 hl (k := 3) rfl rfl (by decide) rfl (fun ls hl => ?_)
                    refine lv_goto (tgt := 55) S.1 S.2.1 dX12_findHalves_195 (by decide) ?_
                    exact ih v3_19 (v4_20 + 1) m_half_21 m_halves_22 _ _ _ hw (lv_sub hl [1, 2, 3, 0] rfl) hf
          exact hL_55_46 F 0 0 m_half_12 m_halves_13 _ _ _ hw (lv_sub hl [2, 3, 1, 0] rfl) hf
    exact hL_46_47 F 1 m_half_5 m_halves _ _ _ hw (lv_sub hl [1, 2, 0] rfl) hf
  have hL_14_55 : ∀ (n : Nat) (v3_50 : Int32) (m_half_51 : Nat → Int32) (H : Heap) (locs : List Loc) (ls : Array Slot), Wo E A s [aI E a_m_half 16 m_half_51, oC a_m 12 [.int m_nodes, .int m_made, .ref a_m_from, .ref a_m_to, .ref a_m_weighs, .ref a_m_alive, .ref a_m_ranks, .int m_known, .ref a_m_best, .ref a_m_most, .ref a_m_apart, .ref a_m_near, .ref a_m_worth, .ref a_m_mates, .ref a_m_sizes, .ref a_m_sums, .ref a_m_has, .ref a_m_sorts, .ref a_m_pieces, .int m_pieceCount, .int m_parts, .int m_halves, .ref a_m_inCover, .int m_coverSize, .int m_holdSet, .ref a_m_pairCost, .ref a_m_inJoin, .int m_hasJoin, .ref a_m_half, .ref a_m_way, .ref a_m_counts, .ref a_m_lastCounts, .ref a_m_openArc, .ref a_m_with, .ref a_m_tried, .int m_stables, .long m_firstSet], aI E a_m_from 60 m_from, aI E a_m_to 60 m_to, aZ E a_m_alive 60 m_alive] H locs → lv_has ls 7 [(0, .ref a_m), (1, .int p1), (2, .int r_3), (3, .int v3_50)] → f_X12_findHalves_L14 m_nodes p1 kk_44_48 n v3_50 m_half_51 = some (u_m_halves, u_m_half) → W p l e (Rm 1) s m (([.ref a_m, .int p1] : List Value).toArray) below meth c H locs 0 0 Q (F0 m 14 ls []) := by
    intro n
    induction n with
    | zero => intro v3_50 m_half_51 H locs ls hw hl hf; unfold f_X12_findHalves_L14 at hf; cases hf
    | succ n ih =>
      intro v3_50 m_half_51 H locs ls hw hl hf
      unfold f_X12_findHalves_L14 at hf
      refine lv_iload_n S.1 S.2.1 dX12_findHalves_14 rfl (lv_at hl 3 rfl) ?_
      refine lv_aload_n S.1 S.2.1 dX12_findHalves_15 rfl (lv_at hl 0 rfl) ?_
      refine g_get S hN hw (C := RX12) (T := TX12) (N := 37) (ci := 12) (v := .int m_nodes) 1 0 iX12 k92 dX12_findHalves_16 rfl rfl (by decide) rfl ?_
      refine lv_icmp_ge (tgt := 44) S.1 S.2.1 dX12_findHalves_19 (by decide) (fun h_52 => ?_) (fun h_52 => ?_)
      · replace hf := if_t h_52 hf
        exact hJ_kk_44_48 m_half_51 _ _ _ hw (lv_sub hl [0, 2] rfl) hf
      · replace hf := if_f h_52 hf
        refine lv_aload_n S.1 S.2.1 dX12_findHalves_22 rfl (lv_at hl 0 rfl) ?_
        refine g_get S hN hw (C := RX12) (T := TX12) (N := 37) (ci := 12) (v := .ref a_m_half) 1 28 iX12 k70 dX12_findHalves_23 rfl rfl (by decide) rfl ?_
        refine lv_iload_n S.1 S.2.1 dX12_findHalves_26 rfl (lv_at hl 3 rfl) ?_
        refine lv_iload_n S.1 S.2.1 dX12_findHalves_27 rfl (lv_at hl 3 rfl) ?_
        refine lv_iload_n S.1 S.2.1 dX12_findHalves_28 rfl (lv_at hl 1 rfl) ?_
        refine lv_icmp_ne (tgt := 36) S.1 S.2.1 dX12_findHalves_29 (by decide) (fun h_53 => ?_) (fun h_53 => ?_)
        · replace hf := if_f h_53 hf
          refine lv_iconst (v := 0) S.1 S.2.1 dX12_findHalves_36 (by decide) ?_
          obtain ⟨hi_53, hf⟩ := wr_s hf
          refine g_iast (n := 16) (f := m_half_51) (w1 := [aI E a_m_half 16 (va_up m_half_51 (v3_50 : Int32).toNatClampNeg 0), oC a_m 12 [.int m_nodes, .int m_made, .ref a_m_from, .ref a_m_to, .ref a_m_weighs, .ref a_m_alive, .ref a_m_ranks, .int m_known, .ref a_m_best, .ref a_m_most, .ref a_m_apart, .ref a_m_near, .ref a_m_worth, .ref a_m_mates, .ref a_m_sizes, .ref a_m_sums, .ref a_m_has, .ref a_m_sorts, .ref a_m_pieces, .int m_pieceCount, .int m_parts, .int m_halves, .ref a_m_inCover, .int m_coverSize, .int m_holdSet, .ref a_m_pairCost, .ref a_m_inJoin, .int m_hasJoin, .ref a_m_half, .ref a_m_way, .ref a_m_counts, .ref a_m_lastCounts, .ref a_m_openArc, .ref a_m_with, .ref a_m_tried, .int m_stables, .long m_firstSet], aI E a_m_from 60 m_from, aI E a_m_to 60 m_to, aZ E a_m_alive 60 m_alive]) S hN hw 0 hi_53 dX12_findHalves_37 rfl rfl (fun H locs hw => ?_)
          generalize va_up m_half_51 (v3_50 : Int32).toNatClampNeg 0 = m_half_54 at hf hw
          refine lv_iinc (v := (v3_50 + 1)) (lv' := [(3, .int (v3_50 + 1)), (0, .ref a_m), (1, .int p1), (2, .int r_3)]) S.1 S.2.1 dX12_findHalves_38 hl (k := 3) rfl rfl (by decide) rfl (fun ls hl => ?_)
          refine lv_goto (tgt := 14) S.1 S.2.1 dX12_findHalves_41 (by decide) ?_
          exact ih (v3_50 + 1) m_half_54 _ _ _ hw (lv_sub hl [1, 2, 3, 0] rfl) hf
        · replace hf := if_t h_53 hf
          refine lv_iconst (v := 1) S.1 S.2.1 dX12_findHalves_32 (by decide) ?_
          refine lv_goto (tgt := 37) S.1 S.2.1 dX12_findHalves_33 (by decide) ?_
          obtain ⟨hi_54, hf⟩ := wr_s hf
          refine g_iast (n := 16) (f := m_half_51) (w1 := [aI E a_m_half 16 (va_up m_half_51 (v3_50 : Int32).toNatClampNeg 1), oC a_m 12 [.int m_nodes, .int m_made, .ref a_m_from, .ref a_m_to, .ref a_m_weighs, .ref a_m_alive, .ref a_m_ranks, .int m_known, .ref a_m_best, .ref a_m_most, .ref a_m_apart, .ref a_m_near, .ref a_m_worth, .ref a_m_mates, .ref a_m_sizes, .ref a_m_sums, .ref a_m_has, .ref a_m_sorts, .ref a_m_pieces, .int m_pieceCount, .int m_parts, .int m_halves, .ref a_m_inCover, .int m_coverSize, .int m_holdSet, .ref a_m_pairCost, .ref a_m_inJoin, .int m_hasJoin, .ref a_m_half, .ref a_m_way, .ref a_m_counts, .ref a_m_lastCounts, .ref a_m_openArc, .ref a_m_with, .ref a_m_tried, .int m_stables, .long m_firstSet], aI E a_m_from 60 m_from, aI E a_m_to 60 m_to, aZ E a_m_alive 60 m_alive]) S hN hw 0 hi_54 dX12_findHalves_37 rfl rfl (fun H locs hw => ?_)
          generalize va_up m_half_51 (v3_50 : Int32).toNatClampNeg 1 = m_half_55 at hf hw
          refine lv_iinc (v := (v3_50 + 1)) (lv' := [(3, .int (v3_50 + 1)), (0, .ref a_m), (1, .int p1), (2, .int r_3)]) S.1 S.2.1 dX12_findHalves_38 hl (k := 3) rfl rfl (by decide) rfl (fun ls hl => ?_)
          refine lv_goto (tgt := 14) S.1 S.2.1 dX12_findHalves_41 (by decide) ?_
          exact ih (v3_50 + 1) m_half_55 _ _ _ hw (lv_sub hl [1, 2, 3, 0] rfl) hf
  exact hL_14_55 F 0 m_half _ _ _ hw (lv_sub hl [2, 3, 1, 0] rfl) hf
