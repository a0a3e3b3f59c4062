def f_X12_bits_L4 (p1 : Int32) (kk_24_2 : Int32 → Option (Int32)) : Nat → Int32 → Int32 → Option (Int32)
  | 0, _, _ => none
  | n + 1, v1_4, v2_5 => (if 16 ≤ v2_5 then (kk_24_2 v1_4) else (f_X12_bits_L4 p1 kk_24_2 n (v1_4 + ((p1 >>> (v2_5 &&& 31)) &&& 1)) (v2_5 + 1)))
def f_X12_bits (F : Nat) (p1 : Int32) : Option (Int32) :=
  (jn (fun (v1_1 : Int32) => some v1_1) (fun kk_24_2 => (f_X12_bits_L4 p1 kk_24_2 F 0 0)))
set_option maxHeartbeats 4000000 in
set_option maxRecDepth 100000 in
theorem c_X12_bits (l : Launch) (E : Ev) (F : Nat) (p1 : Int32) (ro : Int32) (hf : f_X12_bits F p1 = some ro) :
    CtI l yX12_bits wsX12_bits (Rm 0) E [.int p1] [] ro [] := by
  refine ofI (cc := cX12_bits) (maxL := 3) (own := RX12) rfl rfl (by decide) rfl rfl ?_
  intro p e s m below meth c A ls Q S hnm hN hw hA hl0 hE
  have hE2 : ∀ (H : Heap) (locs : List Loc) (pc : Nat) (ls : Array Slot) (r' : Int32) (w' : va_W), Wo E A s w' H locs → w' = [] → r' = ro → decode cX12_bits pc = .ok (.ireturn, 1) → W p l e (Rm 0) s m (([.int p1] : List Value).toArray) below meth c H locs 0 0 Q (F0 m pc ls [.int r']) := by
    intro H locs pc ls r' w' hw e1 e2 hd
    subst e1
    subst e2
    exact hE H locs pc ls hw hd
  have hl : lv_has ls 3 [(0, .int p1)] := hl0 _ (lv_entry [.int p1] (n := 3) (Nat.le_of_ble_eq_true rfl))
  unfold f_X12_bits at hf
  refine lv_iconst (v := 0) S.1 S.2.1 dX12_bits_0 (by decide) ?_
  refine lv_istore_n (lv' := [(1, .int 0), (0, .int p1)]) S.1 S.2.1 dX12_bits_1 rfl hl (by decide) rfl (fun ls hl => ?_)
  refine lv_iconst (v := 0) S.1 S.2.1 dX12_bits_2 (by decide) ?_
  refine lv_istore_n (lv' := [(2, .int 0), (1, .int 0), (0, .int p1)]) S.1 S.2.1 dX12_bits_3 rfl hl (by decide) rfl (fun ls hl => ?_)
  obtain ⟨kk_24_2, ekk_24_2, hf⟩ := jn_s hf
  have hJ_kk_24_2 : ∀ (v1_1 : Int32) (H : Heap) (locs : List Loc) (ls : Array Slot), Wo E A s [] H locs → lv_has ls 3 [(1, .int v1_1)] → kk_24_2 v1_1 = some ro → W p l e (Rm 0) s m (([.int p1] : List Value).toArray) below meth c H locs 0 0 Q (F0 m 24 ls []) := by
    intro v1_1 H locs ls hw hl hf
    rw [ekk_24_2] at hf
    refine lv_iload_n S.1 S.2.1 dX12_bits_24 rfl (lv_at hl 0 rfl) ?_
    have e_2 := Option.some.inj hf
    exact hE2 _ _ _ _ _ _ hw rfl e_2 dX12_bits_25
  have hL_4_6 : ∀ (n : Nat) (v1_4 : Int32) (v2_5 : Int32) (H : Heap) (locs : List Loc) (ls : Array Slot), Wo E A s [] H locs → lv_has ls 3 [(0, .int p1), (1, .int v1_4), (2, .int v2_5)] → f_X12_bits_L4 p1 kk_24_2 n v1_4 v2_5 = some ro → W p l e (Rm 0) s m (([.int p1] : List Value).toArray) below meth c H locs 0 0 Q (F0 m 4 ls []) := by
    intro n
    induction n with
    | zero => intro v1_4 v2_5 H locs ls hw hl hf; unfold f_X12_bits_L4 at hf; cases hf
    | succ n ih =>
      intro v1_4 v2_5 H locs ls hw hl hf
      unfold f_X12_bits_L4 at hf
      refine lv_iload_n S.1 S.2.1 dX12_bits_4 rfl (lv_at hl 2 rfl) ?_
      refine lv_bipush (v := 16) S.1 S.2.1 dX12_bits_5 (by decide) ?_
      refine lv_icmp_ge (tgt := 24) S.1 S.2.1 dX12_bits_7 (by decide) (fun h_6 => ?_) (fun h_6 => ?_)
      · replace hf := if_t h_6 hf
        exact hJ_kk_24_2 v1_4 _ _ _ hw (lv_sub hl [1] rfl) hf
      · replace hf := if_f h_6 hf
        refine lv_iload_n S.1 S.2.1 dX12_bits_10 rfl (lv_at hl 1 rfl) ?_
        refine lv_iload_n S.1 S.2.1 dX12_bits_11 rfl (lv_at hl 0 rfl) ?_
        refine lv_iload_n S.1 S.2.1 dX12_bits_12 rfl (lv_at hl 2 rfl) ?_
        refine lv_ishr S.1 S.2.1 dX12_bits_13 ?_
        refine lv_iconst (v := 1) S.1 S.2.1 dX12_bits_14 (by decide) ?_
        refine lv_iand S.1 S.2.1 dX12_bits_15 ?_
        refine lv_iadd S.1 S.2.1 dX12_bits_16 ?_
        refine lv_istore_n (lv' := [(1, .int (v1_4 + ((p1 >>> (v2_5 &&& 31)) &&& 1))), (0, .int p1), (2, .int v2_5)]) S.1 S.2.1 dX12_bits_17 rfl hl (by decide) rfl (fun ls hl => ?_)
        refine lv_iinc (v := (v2_5 + 1)) (lv' := [(2, .int (v2_5 + 1)), (1, .int (v1_4 + ((p1 >>> (v2_5 &&& 31)) &&& 1))), (0, .int p1)]) S.1 S.2.1 dX12_bits_18 hl (k := 2) rfl rfl (by decide) rfl (fun ls hl => ?_)
        refine lv_goto (tgt := 4) S.1 S.2.1 dX12_bits_21 (by decide) ?_
        exact ih (v1_4 + ((p1 >>> (v2_5 &&& 31)) &&& 1)) (v2_5 + 1) _ _ _ hw (lv_sub hl [2, 1, 0] rfl) hf
  exact hL_4_6 F 0 0 _ _ _ hw (lv_sub hl [2, 1, 0] rfl) hf
def f_X12_least_L2 (p1 : Int32) (kk_16_2 : Int32 → Option (Int32)) : Nat → Int32 → Option (Int32)
  | 0, _ => none
  | n + 1, v1_4 => (if ((p1 >>> (v1_4 &&& 31)) &&& 1) = 0 then (f_X12_least_L2 p1 kk_16_2 n (v1_4 + 1)) else (kk_16_2 v1_4))
def f_X12_least (F : Nat) (p1 : Int32) : Option (Int32) :=
  (jn (fun (v1_1 : Int32) => some v1_1) (fun kk_16_2 => (f_X12_least_L2 p1 kk_16_2 F 0)))
set_option maxHeartbeats 4000000 in
set_option maxRecDepth 100000 in
theorem c_X12_least (l : Launch) (E : Ev) (F : Nat) (p1 : Int32) (ro : Int32) (hf : f_X12_least F p1 = some ro) :
    CtI l yX12_least wsX12_least (Rm 0) E [.int p1] [] ro [] := by
  refine ofI (cc := cX12_least) (maxL := 2) (own := RX12) rfl rfl (by decide) rfl rfl ?_
  intro p e s m below meth c A ls Q S hnm hN hw hA hl0 hE
  have hE2 : ∀ (H : Heap) (locs : List Loc) (pc : Nat) (ls : Array Slot) (r' : Int32) (w' : va_W), Wo E A s w' H locs → w' = [] → r' = ro → decode cX12_least pc = .ok (.ireturn, 1) → W p l e (Rm 0) s m (([.int p1] : List Value).toArray) below meth c H locs 0 0 Q (F0 m pc ls [.int r']) := by
    intro H locs pc ls r' w' hw e1 e2 hd
    subst e1
    subst e2
    exact hE H locs pc ls hw hd
  have hl : lv_has ls 2 [(0, .int p1)] := hl0 _ (lv_entry [.int p1] (n := 2) (Nat.le_of_ble_eq_true rfl))
  unfold f_X12_least at hf
  refine lv_iconst (v := 0) S.1 S.2.1 dX12_least_0 (by decide) ?_
  refine lv_istore_n (lv' := [(1, .int 0), (0, .int p1)]) S.1 S.2.1 dX12_least_1 rfl hl (by decide) rfl (fun ls hl => ?_)
  obtain ⟨kk_16_2, ekk_16_2, hf⟩ := jn_s hf
  have hJ_kk_16_2 : ∀ (v1_1 : Int32) (H : Heap) (locs : List Loc) (ls : Array Slot), Wo E A s [] H locs → lv_has ls 2 [(1, .int v1_1)] → kk_16_2 v1_1 = some ro → W p l e (Rm 0) s m (([.int p1] : List Value).toArray) below meth c H locs 0 0 Q (F0 m 16 ls []) := by
    intro v1_1 H locs ls hw hl hf
    rw [ekk_16_2] at hf
    refine lv_iload_n S.1 S.2.1 dX12_least_16 rfl (lv_at hl 0 rfl) ?_
    have e_2 := Option.some.inj hf
    exact hE2 _ _ _ _ _ _ hw rfl e_2 dX12_least_17
  have hL_2_5 : ∀ (n : Nat) (v1_4 : Int32) (H : Heap) (locs : List Loc) (ls : Array Slot), Wo E A s [] H locs → lv_has ls 2 [(0, .int p1), (1, .int v1_4)] → f_X12_least_L2 p1 kk_16_2 n v1_4 = some ro → W p l e (Rm 0) s m (([.int p1] : List Value).toArray) below meth c H locs 0 0 Q (F0 m 2 ls []) := by
    intro n
    induction n with
    | zero => intro v1_4 H locs ls hw hl hf; unfold f_X12_least_L2 at hf; cases hf
    | succ n ih =>
      intro v1_4 H locs ls hw hl hf
      unfold f_X12_least_L2 at hf
      refine lv_iload_n S.1 S.2.1 dX12_least_2 rfl (lv_at hl 0 rfl) ?_
      refine lv_iload_n S.1 S.2.1 dX12_least_3 rfl (lv_at hl 1 rfl) ?_
      refine lv_ishr S.1 S.2.1 dX12_least_4 ?_
      refine lv_iconst (v := 1) S.1 S.2.1 dX12_least_5 (by decide) ?_
      refine lv_iand S.1 S.2.1 dX12_least_6 ?_
      refine lv_if_ne (tgt := 16) S.1 S.2.1 dX12_least_7 (by decide) (fun h_5 => ?_) (fun h_5 => ?_)
      · replace hf := if_f h_5 hf
        exact hJ_kk_16_2 v1_4 _ _ _ hw (lv_sub hl [1] rfl) hf
      · replace hf := if_t h_5 hf
        refine lv_iinc (v := (v1_4 + 1)) (lv' := [(1, .int (v1_4 + 1)), (0, .int p1)]) S.1 S.2.1 dX12_least_10 hl (k := 1) rfl rfl (by decide) rfl (fun ls hl => ?_)
        refine lv_goto (tgt := 2) S.1 S.2.1 dX12_least_13 (by decide) ?_
        exact ih (v1_4 + 1) _ _ _ hw (lv_sub hl [1, 0] rfl) hf
  exact hL_2_5 F 0 _ _ _ hw (lv_sub hl [1, 0] rfl) hf
def f_X12_all (m_nodes : Int32) : Int32 :=
  (((1 : Int32) <<< (m_nodes &&& 31)) - 1)
set_option maxHeartbeats 4000000 in
set_option maxRecDepth 100000 in
theorem c_X12_all (l : Launch) (E : Ev) (m_nodes : Int32) (m_made : Int32) (a_m_from : Nat) (a_m_to : Nat) (a_m_weighs : Nat) (a_m_alive : Nat) (a_m_ranks : Nat) (m_known : Int32) (a_m_best : Nat) (a_m_most : Nat) (a_m_apart : Nat) (a_m_near : Nat) (a_m_worth : Nat) (a_m_mates : Nat) (a_m_sizes : Nat) (a_m_sums : Nat) (a_m_has : Nat) (a_m_sorts : Nat) (a_m_pieces : Nat) (m_pieceCount : Int32) (m_parts : Int32) (m_halves : Int32) (a_m_inCover : Nat) (m_coverSize : Int32) (m_holdSet : Int32) (a_m_pairCost : Nat) (a_m_inJoin : Nat) (m_hasJoin : Int32) (a_m_half : Nat) (a_m_way : Nat) (a_m_counts : Nat) (a_m_lastCounts : Nat) (a_m_openArc : Nat) (a_m_with : Nat) (a_m_tried : Nat) (m_stables : Int32) (m_firstSet : Int64) (a_m : Nat) (ro : Int32) (hf : f_X12_all m_nodes = ro) :
    CtI l yX12_all wsX12_all (Rm 0) E [.ref a_m] [oC a_m 12 [.int m_nodes, .int m_made, .ref a_m_from, .ref a_m_to, .ref a_m_weighs, .ref a_m_alive, .ref a_m_ranks, .int m_known, .ref a_m_best, .ref a_m_most, .ref a_m_apart, .ref a_m_near, .ref a_m_worth, .ref a_m_mates, .ref a_m_sizes, .ref a_m_sums, .ref a_m_has, .ref a_m_sorts, .ref a_m_pieces, .int m_pieceCount, .int m_parts, .int m_halves, .ref a_m_inCover, .int m_coverSize, .int m_holdSet, .ref a_m_pairCost, .ref a_m_inJoin, .int m_hasJoin, .ref a_m_half, .ref a_m_way, .ref a_m_counts, .ref a_m_lastCounts, .ref a_m_openArc, .ref a_m_with, .ref a_m_tried, .int m_stables, .long m_firstSet]] ro [oC a_m 12 [.int m_nodes, .int m_made, .ref a_m_from, .ref a_m_to, .ref a_m_weighs, .ref a_m_alive, .ref a_m_ranks, .int m_known, .ref a_m_best, .ref a_m_most, .ref a_m_apart, .ref a_m_near, .ref a_m_worth, .ref a_m_mates, .ref a_m_sizes, .ref a_m_sums, .ref a_m_has, .ref a_m_sorts, .ref a_m_pieces, .int m_pieceCount, .int m_parts, .int m_halves, .ref a_m_inCover, .int m_coverSize, .int m_holdSet, .ref a_m_pairCost, .ref a_m_inJoin, .int m_hasJoin, .ref a_m_half, .ref a_m_way, .ref a_m_counts, .ref a_m_lastCounts, .ref a_m_openArc, .ref a_m_with, .ref a_m_tried, .int m_stables, .long m_firstSet]] := by
  refine ofI (cc := cX12_all) (maxL := 1) (own := RX12) rfl rfl (by decide) rfl rfl ?_
  intro p e s m below meth c A ls Q S hnm hN hw hA hl0 hE
  have hE2 : ∀ (H : Heap) (locs : List Loc) (pc : Nat) (ls : Array Slot) (r' : Int32) (w' : va_W), Wo E A s w' H locs → w' = [oC a_m 12 [.int m_nodes, .int m_made, .ref a_m_from, .ref a_m_to, .ref a_m_weighs, .ref a_m_alive, .ref a_m_ranks, .int m_known, .ref a_m_best, .ref a_m_most, .ref a_m_apart, .ref a_m_near, .ref a_m_worth, .ref a_m_mates, .ref a_m_sizes, .ref a_m_sums, .ref a_m_has, .ref a_m_sorts, .ref a_m_pieces, .int m_pieceCount, .int m_parts, .int m_halves, .ref a_m_inCover, .int m_coverSize, .int m_holdSet, .ref a_m_pairCost, .ref a_m_inJoin, .int m_hasJoin, .ref a_m_half, .ref a_m_way, .ref a_m_counts, .ref a_m_lastCounts, .ref a_m_openArc, .ref a_m_with, .ref a_m_tried, .int m_stables, .long m_firstSet]] → r' = ro → decode cX12_all pc = .ok (.ireturn, 1) → W p l e (Rm 0) s m (([.ref a_m] : List Value).toArray) below meth c H locs 0 0 Q (F0 m pc ls [.int r']) := by
    intro H locs pc ls r' w' hw e1 e2 hd
    subst e1
    subst e2
    exact hE H locs pc ls hw hd
  have hl : lv_has ls 1 [(0, .ref a_m)] := hl0 _ (lv_entry [.ref a_m] (n := 1) (Nat.le_of_ble_eq_true rfl))
  have iX12 : ∀ w ∈ wsX120, w ∈ wsX12_all := by decide +kernel
  have k92 := S.2.2.2.2 (.fieldLink RX12 92 "PairMatchingModel" "nodes" "I") (by decide +kernel)
  unfold f_X12_all at hf
  refine lv_iconst (v := 1) S.1 S.2.1 dX12_all_0 (by decide) ?_
  refine lv_aload_n S.1 S.2.1 dX12_all_1 rfl (lv_at hl 0 rfl) ?_
  refine g_get S hN hw (C := RX12) (T := TX12) (N := 37) (ci := 12) (v := .int m_nodes) 0 0 iX12 k92 dX12_all_2 rfl rfl (by decide) rfl ?_
  refine lv_ishl S.1 S.2.1 dX12_all_5 ?_
  refine lv_iconst (v := 1) S.1 S.2.1 dX12_all_6 (by decide) ?_
  refine lv_isub S.1 S.2.1 dX12_all_7 ?_
  exact hE2 _ _ _ _ _ _ hw rfl hf dX12_all_8
def f_X12_valueOf (p1 : Int32) (p2 : Int32) (m_weighs : Nat → Int32) : Option (Int32) :=
  (if p1 = 0 then some 1 else (if p1 = 1 then rd 60 m_weighs p2 (fun y_8 => some ((y_8 * 100) - 1)) else (if p1 = 2 then rd 60 m_weighs p2 (fun y_6 => some (-y_6)) else rd 60 m_weighs p2 (fun y_4 => some y_4))))
set_option maxHeartbeats 4000000 in
set_option maxRecDepth 100000 in
theorem c_X12_valueOf (l : Launch) (E : Ev) (m_nodes : Int32) (m_made : Int32) (a_m_from : Nat) (a_m_to : Nat) (m_weighs : Nat → Int32) (a_m_weighs : Nat) (a_m_alive : Nat) (a_m_ranks : Nat) (m_known : Int32) (a_m_best : Nat) (a_m_most : Nat) (a_m_apart : Nat) (a_m_near : Nat) (a_m_worth : Nat) (a_m_mates : Nat) (a_m_sizes : Nat) (a_m_sums : Nat) (a_m_has : Nat) (a_m_sorts : Nat) (a_m_pieces : Nat) (m_pieceCount : Int32) (m_parts : Int32) (m_halves : Int32) (a_m_inCover : Nat) (m_coverSize : Int32) (m_holdSet : Int32) (a_m_pairCost : Nat) (a_m_inJoin : Nat) (m_hasJoin : Int32) (a_m_half : Nat) (a_m_way : Nat) (a_m_counts : Nat) (a_m_lastCounts : Nat) (a_m_openArc : Nat) (a_m_with : Nat) (a_m_tried : Nat) (m_stables : Int32) (m_firstSet : Int64) (a_m : Nat) (p1 : Int32) (p2 : Int32) (ro : Int32) (hf : f_X12_valueOf p1 p2 m_weighs = some ro) :
    CtI l yX12_valueOf wsX12_valueOf (Rm 0) E [.ref a_m, .int p1, .int p2] [oC a_m 12 [.int m_nodes, .int m_made, .ref a_m_from, .ref a_m_to, .ref a_m_weighs, .ref a_m_alive, .ref a_m_ranks, .int m_known, .ref a_m_best, .ref a_m_most, .ref a_m_apart, .ref a_m_near, .ref a_m_worth, .ref a_m_mates, .ref a_m_sizes, .ref a_m_sums, .ref a_m_has, .ref a_m_sorts, .ref a_m_pieces, .int m_pieceCount, .int m_parts, .int m_halves, .ref a_m_inCover, .int m_coverSize, .int m_holdSet, .ref a_m_pairCost, .ref a_m_inJoin, .int m_hasJoin, .ref a_m_half, .ref a_m_way, .ref a_m_counts, .ref a_m_lastCounts, .ref a_m_openArc, .ref a_m_with, .ref a_m_tried, .int m_stables, .long m_firstSet], aI E a_m_weighs 60 m_weighs] ro [oC a_m 12 [.int m_nodes, .int m_made, .ref a_m_from, .ref a_m_to, .ref a_m_weighs, .ref a_m_alive, .ref a_m_ranks, .int m_known, .ref a_m_best, .ref a_m_most, .ref a_m_apart, .ref a_m_near, .ref a_m_worth, .ref a_m_mates, .ref a_m_sizes, .ref a_m_sums, .ref a_m_has, .ref a_m_sorts, .ref a_m_pieces, .int m_pieceCount, .int m_parts, .int m_halves, .ref a_m_inCover, .int m_coverSize, .int m_holdSet, .ref a_m_pairCost, .ref a_m_inJoin, .int m_hasJoin, .ref a_m_half, .ref a_m_way, .ref a_m_counts, .ref a_m_lastCounts, .ref a_m_openArc, .ref a_m_with, .ref a_m_tried, .int m_stables, .long m_firstSet], aI E a_m_weighs 60 m_weighs] := by
  refine ofI (cc := cX12_valueOf) (maxL := 3) (own := RX12) rfl rfl (by decide) rfl rfl ?_
  intro p e s m below meth c A ls Q S hnm hN hw hA hl0 hE
  have hE2 : ∀ (H : Heap) (locs : List Loc) (pc : Nat) (ls : Array Slot) (r' : Int32) (w' : va_W), Wo E A s w' H locs → w' = [oC a_m 12 [.int m_nodes, .int m_made, .ref a_m_from, .ref a_m_to, .ref a_m_weighs, .ref a_m_alive, .ref a_m_ranks, .int m_known, .ref a_m_best, .ref a_m_most, .ref a_m_apart, .ref a_m_near, .ref a_m_worth, .ref a_m_mates, .ref a_m_sizes, .ref a_m_sums, .ref a_m_has, .ref a_m_sorts, .ref a_m_pieces, .int m_pieceCount, .int m_parts, .int m_halves, .ref a_m_inCover, .int m_coverSize, .int m_holdSet, .ref a_m_pairCost, .ref a_m_inJoin, .int m_hasJoin, .ref a_m_half, .ref a_m_way, .ref a_m_counts, .ref a_m_lastCounts, .ref a_m_openArc, .ref a_m_with, .ref a_m_tried, .int m_stables, .long m_firstSet], aI E a_m_weighs 60 m_weighs] → r' = ro → decode cX12_valueOf pc = .ok (.ireturn, 1) → W p l e (Rm 0) s m (([.ref a_m, .int p1, .int p2] : List Value).toArray) below meth c H locs 0 0 Q (F0 m pc ls [.int r']) := by
    intro H locs pc ls r' w' hw e1 e2 hd
    subst e1
    subst e2
    exact hE H locs pc ls hw hd
  have hl : lv_has ls 3 [(0, .ref a_m), (1, .int p1), (2, .int p2)] := hl0 _ (lv_entry [.ref a_m, .int p1, .int p2] (n := 3) (Nat.le_of_ble_eq_true rfl))
  have iX12 : ∀ w ∈ wsX120, w ∈ wsX12_valueOf := by decide +kernel
  have k16 := S.2.2.2.2 (.fieldLink RX12 16 "PairMatchingModel" "weighs" "[I") (by decide +kernel)
  unfold f_X12_valueOf at hf
  refine lv_iload_n S.1 S.2.1 dX12_valueOf_0 rfl (lv_at hl 1 rfl) ?_
  refine lv_if_ne (tgt := 8) S.1 S.2.1 dX12_valueOf_1 (by decide) (fun h_1 => ?_) (fun h_1 => ?_)
  · replace hf := if_f h_1 hf
    refine lv_iload_n S.1 S.2.1 dX12_valueOf_8 rfl (lv_at hl 1 rfl) ?_
    refine lv_iconst (v := 1) S.1 S.2.1 dX12_valueOf_9 (by decide) ?_
    refine lv_icmp_ne (tgt := 27) S.1 S.2.1 dX12_valueOf_10 (by decide) (fun h_2 => ?_) (fun h_2 => ?_)
    · replace hf := if_f h_2 hf
      refine lv_iload_n S.1 S.2.1 dX12_valueOf_27 rfl (lv_at hl 1 rfl) ?_
      refine lv_iconst (v := 2) S.1 S.2.1 dX12_valueOf_28 (by decide) ?_
      refine lv_icmp_ne (tgt := 42) S.1 S.2.1 dX12_valueOf_29 (by decide) (fun h_3 => ?_) (fun h_3 => ?_)
      · replace hf := if_f h_3 hf
        refine lv_aload_n S.1 S.2.1 dX12_valueOf_42 rfl (lv_at hl 0 rfl) ?_
        refine g_get S hN hw (C := RX12) (T := TX12) (N := 37) (ci := 12) (v := .ref a_m_weighs) 0 4 iX12 k16 dX12_valueOf_43 rfl rfl (by decide) rfl ?_
        refine lv_iload_n S.1 S.2.1 dX12_valueOf_46 rfl (lv_at hl 2 rfl) ?_
        obtain ⟨hi_3, hf⟩ := rd_s hf
        refine g_iald (n := 60) (f := m_weighs) S hN hw 1 hi_3 dX12_valueOf_47 rfl ?_
        generalize m_weighs (p2 : Int32).toNatClampNeg = y_4 at hf ⊢
        have e_5 := Option.some.inj hf
        exact hE2 _ _ _ _ _ _ hw rfl e_5 dX12_valueOf_48
      · replace hf := if_t h_3 hf
        refine lv_aload_n S.1 S.2.1 dX12_valueOf_32 rfl (lv_at hl 0 rfl) ?_
        refine g_get S hN hw (C := RX12) (T := TX12) (N := 37) (ci := 12) (v := .ref a_m_weighs) 0 4 iX12 k16 dX12_valueOf_33 rfl rfl (by decide) rfl ?_
        refine lv_iload_n S.1 S.2.1 dX12_valueOf_36 rfl (lv_at hl 2 rfl) ?_
        obtain ⟨hi_5, hf⟩ := rd_s hf
        refine g_iald (n := 60) (f := m_weighs) S hN hw 1 hi_5 dX12_valueOf_37 rfl ?_
        generalize m_weighs (p2 : Int32).toNatClampNeg = y_6 at hf ⊢
        refine lv_ineg S.1 S.2.1 dX12_valueOf_38 ?_
        refine lv_goto (tgt := 48) S.1 S.2.1 dX12_valueOf_39 (by decide) ?_
        have e_7 := Option.some.inj hf
        exact hE2 _ _ _ _ _ _ hw rfl e_7 dX12_valueOf_48
    · replace hf := if_t h_2 hf
      refine lv_aload_n S.1 S.2.1 dX12_valueOf_13 rfl (lv_at hl 0 rfl) ?_
      refine g_get S hN hw (C := RX12) (T := TX12) (N := 37) (ci := 12) (v := .ref a_m_weighs) 0 4 iX12 k16 dX12_valueOf_14 rfl rfl (by decide) rfl ?_
      refine lv_iload_n S.1 S.2.1 dX12_valueOf_17 rfl (lv_at hl 2 rfl) ?_
      obtain ⟨hi_7, hf⟩ := rd_s hf
      refine g_iald (n := 60) (f := m_weighs) S hN hw 1 hi_7 dX12_valueOf_18 rfl ?_
      generalize m_weighs (p2 : Int32).toNatClampNeg = y_8 at hf ⊢
      refine lv_bipush (v := 100) S.1 S.2.1 dX12_valueOf_19 (by decide) ?_
      refine lv_imul S.1 S.2.1 dX12_valueOf_21 ?_
      refine lv_iconst (v := 1) S.1 S.2.1 dX12_valueOf_22 (by decide) ?_
      refine lv_isub S.1 S.2.1 dX12_valueOf_23 ?_
      refine lv_goto (tgt := 48) S.1 S.2.1 dX12_valueOf_24 (by decide) ?_
      have e_9 := Option.some.inj hf
      exact hE2 _ _ _ _ _ _ hw rfl e_9 dX12_valueOf_48
  · replace hf := if_t h_1 hf
    refine lv_iconst (v := 1) S.1 S.2.1 dX12_valueOf_4 (by decide) ?_
    refine lv_goto (tgt := 48) S.1 S.2.1 dX12_valueOf_5 (by decide) ?_
    have e_10 := Option.some.inj hf
    exact hE2 _ _ _ _ _ _ hw rfl e_10 dX12_valueOf_48
def f_X12_findWorth_L32 (m_made : Int32) (m_from : Nat → Int32) (m_to : Nat → Int32) (m_weighs : Nat → Int32) (m_alive : Nat → Int32) (p1 : Int32) (kk_163_6 : (Nat → Int32) → (Nat → Int32) → Option ((Nat → Int32) × (Nat → Int32))) : Nat → Int32 → (Nat → Int32) → (Nat → Int32) → Option ((Nat → Int32) × (Nat → Int32))
  | 0, _, _, _ => none
  | n + 1, v2_8, m_near_9, m_worth_10 => (if m_made ≤ v2_8 then (kk_163_6 m_near_9 m_worth_10) else rd 60 m_alive v2_8 (fun y_12 => (if y_12 = 0 then (f_X12_findWorth_L32 m_made m_from m_to m_weighs m_alive p1 kk_163_6 n (v2_8 + 1) m_near_9 m_worth_10) else (f_X12_valueOf p1 v2_8 m_weighs).bind (fun r_14 => rd 60 m_from v2_8 (fun y_16 => rd 60 m_to v2_8 (fun y_17 => rd 60 m_to v2_8 (fun y_18 => rd 60 m_from v2_8 (fun y_19 => rd 256 m_worth_10 ((16 * y_16) + y_17) (fun y_20 => (jn (fun (z_21 : Int32) => wr 256 m_worth_10 ((16 * y_16) + y_17) z_21 (fun m_worth_23 => rd 256 m_worth_23 ((16 * y_16) + y_17) (fun y_24 => wr 256 m_worth_23 ((16 * y_18) + y_19) y_24 (fun m_worth_25 => rd 256 m_near_9 ((16 * y_16) + y_17) (fun y_26 => wr 256 m_near_9 ((16 * y_16) + y_17) (y_26 + 1) (fun m_near_27 => rd 256 m_near_27 ((16 * y_18) + y_19) (fun y_28 => wr 256 m_near_27 ((16 * y_18) + y_19) (y_28 + 1) (fun m_near_29 => (f_X12_findWorth_L32 m_made m_from m_to m_weighs m_alive p1 kk_163_6 n (v2_8 + 1) m_near_29 m_worth_25))))))))) (fun jj_120_21 => (if r_14 ≤ y_20 then rd 256 m_worth_10 ((16 * y_16) + y_17) (fun y_31 => (jj_120_21 y_31)) else (jj_120_21 r_14)))))))))))))
def f_X12_findWorth_L2 (kk_30_32 : (Nat → Int32) → (Nat → Int32) → Option ((Nat → Int32) × (Nat → Int32))) : Nat → Int32 → (Nat → Int32) → (Nat → Int32) → Option ((Nat → Int32) × (Nat → Int32))
  | 0, _, _, _ => none
  | n + 1, v2_34, m_near_35, m_worth_36 => (if 256 ≤ v2_34 then (kk_30_32 m_near_35 m_worth_36) else wr 256 m_worth_36 v2_34 (-1000000000) (fun m_worth_38 => wr 256 m_near_35 v2_34 0 (fun m_near_39 => (f_X12_findWorth_L2 kk_30_32 n (v2_34 + 1) m_near_39 m_worth_38))))
def f_X12_findWorth (F : Nat) (p1 : Int32) (m_made : Int32) (m_from : Nat → Int32) (m_to : Nat → Int32) (m_weighs : Nat → Int32) (m_alive : Nat → Int32) (m_near : Nat → Int32) (m_worth : Nat → Int32) : Option ((Nat → Int32) × (Nat → Int32)) :=
  (jn (fun (m_near_1 : Nat → Int32) (m_worth_2 : Nat → Int32) => (jn (fun (m_near_3 : Nat → Int32) (m_worth_4 : Nat → Int32) => some (m_near_3, m_worth_4)) (fun kk_163_6 => (f_X12_findWorth_L32 m_made m_from m_to m_weighs m_alive p1 kk_163_6 F 0 m_near_1 m_worth_2)))) (fun kk_30_32 => (f_X12_findWorth_L2 kk_30_32 F 0 m_near m_worth)))
set_option maxHeartbeats 4000000 in
set_option maxRecDepth 100000 in
theorem c_X12_findWorth (l : Launch) (E : Ev) (F : Nat) (m_nodes : Int32) (m_made : Int32) (m_from : Nat → Int32) (a_m_from : Nat) (m_to : Nat → Int32) (a_m_to : Nat) (m_weighs : Nat → Int32) (a_m_weighs : Nat) (m_alive : Nat → Int32) (a_m_alive : Nat) (a_m_ranks : Nat) (m_known : Int32) (a_m_best : Nat) (a_m_most : Nat) (a_m_apart : Nat) (m_near : Nat → Int32) (a_m_near : Nat) (m_worth : Nat → Int32) (a_m_worth : Nat) (a_m_mates : Nat) (a_m_sizes : Nat) (a_m_sums : Nat) (a_m_has : Nat) (a_m_sorts : Nat) (a_m_pieces : Nat) (m_pieceCount : Int32) (m_parts : Int32) (m_halves : Int32) (a_m_inCover : Nat) (m_coverSize : Int32) (m_holdSet : Int32) (a_m_pairCost : Nat) (a_m_inJoin : Nat) (m_hasJoin : Int32) (a_m_half : Nat) (a_m_way : Nat) (a_m_counts : Nat) (a_m_lastCounts : Nat) (a_m_openArc : Nat) (a_m_with : Nat) (a_m_tried : Nat) (m_stables : Int32) (m_firstSet : Int64) (a_m : Nat) (p1 : Int32) (u_m_near : Nat → Int32) (u_m_worth : Nat → Int32) (hf : f_X12_findWorth F p1 m_made m_from m_to m_weighs m_alive m_near m_worth = some (u_m_near, u_m_worth)) :
    CtV l yX12_findWorth wsX12_findWorth (Rm 1) E [.ref a_m, .int p1] [oC a_m 12 [.int m_nodes, .int m_made, .ref a_m_from, .ref a_m_to, .ref a_m_weighs, .ref a_m_alive, .ref a_m_ranks, .int m_known, .ref a_m_best, .ref a_m_most, .ref a_m_apart, .ref a_m_near, .ref a_m_worth, .ref a_m_mates, .ref a_m_sizes, .ref a_m_sums, .ref a_m_has, .ref a_m_sorts, .ref a_m_pieces, .int m_pieceCount, .int m_parts, .int m_halves, .ref a_m_inCover, .int m_coverSize, .int m_holdSet, .ref a_m_pairCost, .ref a_m_inJoin, .int m_hasJoin, .ref a_m_half, .ref a_m_way, .ref a_m_counts, .ref a_m_lastCounts, .ref a_m_openArc, .ref a_m_with, .ref a_m_tried, .int m_stables, .long m_firstSet], aI E a_m_from 60 m_from, aI E a_m_to 60 m_to, aI E a_m_weighs 60 m_weighs, aZ E a_m_alive 60 m_alive, aI E a_m_near 256 m_near, aI E a_m_worth 256 m_worth] [oC a_m 12 [.int m_nodes, .int m_made, .ref a_m_from, .ref a_m_to, .ref a_m_weighs, .ref a_m_alive, .ref a_m_ranks, .int m_known, .ref a_m_best, .ref a_m_most, .ref a_m_apart, .ref a_m_near, .ref a_m_worth, .ref a_m_mates, .ref a_m_sizes, .ref a_m_sums, .ref a_m_has, .ref a_m_sorts, .ref a_m_pieces, .int m_pieceCount, .int m_parts, .int m_halves, .ref a_m_inCover, .int m_coverSize, .int m_holdSet, .ref a_m_pairCost, .ref a_m_inJoin, .int m_hasJoin, .ref a_m_half, .ref a_m_way, .ref a_m_counts, .ref a_m_lastCounts, .ref a_m_openArc, .ref a_m_with, .ref a_m_tried, .int m_stables, .long m_firstSet], aI E a_m_from 60 m_from, aI E a_m_to 60 m_to, aI E a_m_weighs 60 m_weighs, aZ E a_m_alive 60 m_alive, aI E a_m_near 256 u_m_near, aI E a_m_worth 256 u_m_worth] := by
  refine ofV (cc := cX12_findWorth) (maxL := 6) (own := RX12) rfl rfl (by decide) rfl rfl ?_
  intro p e s m below meth c A ls Q S hnm hN hw hA hl0 hE
  have hE2 : ∀ (H : Heap) (locs : List Loc) (pc : Nat) (ls : Array Slot) (w' : va_W), Wo E A s w' H locs → w' = [oC a_m 12 [.int m_nodes, .int m_made, .ref a_m_from, .ref a_m_to, .ref a_m_weighs, .ref a_m_alive, .ref a_m_ranks, .int m_known, .ref a_m_best, .ref a_m_most, .ref a_m_apart, .ref a_m_near, .ref a_m_worth, .ref a_m_mates, .ref a_m_sizes, .ref a_m_sums, .ref a_m_has, .ref a_m_sorts, .ref a_m_pieces, .int m_pieceCount, .int m_parts, .int m_halves, .ref a_m_inCover, .int m_coverSize, .int m_holdSet, .ref a_m_pairCost, .ref a_m_inJoin, .int m_hasJoin, .ref a_m_half, .ref a_m_way, .ref a_m_counts, .ref a_m_lastCounts, .ref a_m_openArc, .ref a_m_with, .ref a_m_tried, .int m_stables, .long m_firstSet], aI E a_m_from 60 m_from, aI E a_m_to 60 m_to, aI E a_m_weighs 60 m_weighs, aZ E a_m_alive 60 m_alive, aI E a_m_near 256 u_m_near, aI E a_m_worth 256 u_m_worth] → decode cX12_findWorth pc = .ok (.return_, 1) → W p l e (Rm 1) s m (([.ref a_m, .int p1] : List Value).toArray) below meth c H locs 0 0 Q (F0 m pc ls []) := by
    intro H locs pc ls w' hw e1 hd
    subst e1
    exact hE H locs pc ls hw hd
  have hl : lv_has ls 6 [(0, .ref a_m), (1, .int p1)] := hl0 _ (lv_entry [.ref a_m, .int p1] (n := 6) (Nat.le_of_ble_eq_true rfl))
  have iX12 : ∀ w ∈ wsX120, w ∈ wsX12_findWorth := by decide +kernel
  have k13 := S.2.2.2.2 (.fieldLink RX12 13 "PairMatchingModel" "to" "[I") (by decide +kernel)
  have k19 := S.2.2.2.2 (.fieldLink RX12 19 "PairMatchingModel" "alive" "[Z") (by decide +kernel)
  have k37 := S.2.2.2.2 (.fieldLink RX12 37 "PairMatchingModel" "near" "[I") (by decide +kernel)
  have k40 := S.2.2.2.2 (.fieldLink RX12 40 "PairMatchingModel" "worth" "[I") (by decide +kernel)
  have k7 := S.2.2.2.2 (.fieldLink RX12 7 "PairMatchingModel" "from" "[I") (by decide +kernel)
  have k96 := S.2.2.2.2 (.constant RX12 96 (-1000000000)) (by decide +kernel)
  have k97 := S.2.2.2.2 (.fieldLink RX12 97 "PairMatchingModel" "made" "I") (by decide +kernel)
  unfold f_X12_findWorth at hf
  refine lv_iconst (v := 0) S.1 S.2.1 dX12_findWorth_0 (by decide) ?_
  refine lv_istore_n (lv' := [(2, .int 0), (0, .ref a_m), (1, .int p1)]) S.1 S.2.1 dX12_findWorth_1 rfl hl (by decide) rfl (fun ls hl => ?_)
  obtain ⟨kk_30_32, ekk_30_32, hf⟩ := jn_s hf
  have hJ_kk_30_32 : ∀ (m_near_1 : Nat → Int32) (m_worth_2 : Nat → Int32) (H : Heap) (locs : List Loc) (ls : Array Slot), Wo E A s [oC a_m 12 [.int m_nodes, .int m_made, .ref a_m_from, .ref a_m_to, .ref a_m_weighs, .ref a_m_alive, .ref a_m_ranks, .int m_known, .ref a_m_best, .ref a_m_most, .ref a_m_apart, .ref a_m_near, .ref a_m_worth, .ref a_m_mates, .ref a_m_sizes, .ref a_m_sums, .ref a_m_has, .ref a_m_sorts, .ref a_m_pieces, .int m_pieceCount, .int m_parts, .int m_halves, .ref a_m_inCover, .int m_coverSize, .int m_holdSet, .ref a_m_pairCost, .ref a_m_inJoin, .int m_hasJoin, .ref a_m_half, .ref a_m_way, .ref a_m_counts, .ref a_m_lastCounts, .ref a_m_openArc, .ref a_m_with, .ref a_m_tried, .int m_stables, .long m_firstSet], aI E a_m_from 60 m_from, aI E a_m_to 60 m_to, aI E a_m_weighs 60 m_weighs, aZ E a_m_alive 60 m_alive, aI E a_m_near 256 m_near_1, aI E a_m_worth 256 m_worth_2] H locs → lv_has ls 6 [(0, .ref a_m), (1, .int p1)] → kk_30_32 m_near_1 m_worth_2 = some (u_m_near, u_m_worth) → W p l e (Rm 1) s m (([.ref a_m, .int p1] : List Value).toArray) below meth c H locs 0 0 Q (F0 m 30 ls []) := by
    intro m_near_1 m_worth_2 H locs ls hw hl hf
    rw [ekk_30_32] at hf
    refine lv_iconst (v := 0) S.1 S.2.1 dX12_findWorth_30 (by decide) ?_
    refine lv_istore_n (lv' := [(2, .int 0), (0, .ref a_m), (1, .int p1)]) S.1 S.2.1 dX12_findWorth_31 rfl hl (by decide) rfl (fun ls hl => ?_)
    obtain ⟨kk_163_6, ekk_163_6, hf⟩ := jn_s hf
    have hJ_kk_163_6 : ∀ (m_near_3 : Nat → Int32) (m_worth_4 : Nat → Int32) (H : Heap) (locs : List Loc) (ls : Array Slot), Wo E A s [oC a_m 12 [.int m_nodes, .int m_made, .ref a_m_from, .ref a_m_to, .ref a_m_weighs, .ref a_m_alive, .ref a_m_ranks, .int m_known, .ref a_m_best, .ref a_m_most, .ref a_m_apart, .ref a_m_near, .ref a_m_worth, .ref a_m_mates, .ref a_m_sizes, .ref a_m_sums, .ref a_m_has, .ref a_m_sorts, .ref a_m_pieces, .int m_pieceCount, .int m_parts, .int m_halves, .ref a_m_inCover, .int m_coverSize, .int m_holdSet, .ref a_m_pairCost, .ref a_m_inJoin, .int m_hasJoin, .ref a_m_half, .ref a_m_way, .ref a_m_counts, .ref a_m_lastCounts, .ref a_m_openArc, .ref a_m_with, .ref a_m_tried, .int m_stables, .long m_firstSet], aI E a_m_from 60 m_from, aI E a_m_to 60 m_to, aI E a_m_weighs 60 m_weighs, aZ E a_m_alive 60 m_alive, aI E a_m_near 256 m_near_3, aI E a_m_worth 256 m_worth_4] H locs → lv_has ls 6 [] → kk_163_6 m_near_3 m_worth_4 = some (u_m_near, u_m_worth) → W p l e (Rm 1) s m (([.ref a_m, .int p1] : List Value).toArray) below meth c H locs 0 0 Q (F0 m 163 ls []) := by
      intro m_near_3 m_worth_4 H locs ls hw hl hf
      rw [ekk_163_6] at hf
      obtain ⟨e_5, e_6⟩ := tp2 hf
      exact hE2 _ _ _ _ _ hw (cg2 (fun (x1 : Nat → Int32) (x2 : Nat → Int32) => [oC a_m 12 [.int m_nodes, .int m_made, .ref a_m_from, .ref a_m_to, .ref a_m_weighs, .ref a_m_alive, .ref a_m_ranks, .int m_known, .ref a_m_best, .ref a_m_most, .ref a_m_apart, .ref a_m_near, .ref a_m_worth, .ref a_m_mates, .ref a_m_sizes, .ref a_m_sums, .ref a_m_has, .ref a_m_sorts, .ref a_m_pieces, .int m_pieceCount, .int m_parts, .int m_halves, .ref a_m_inCover, .int m_coverSize, .int m_holdSet, .ref a_m_pairCost, .ref a_m_inJoin, .int m_hasJoin, .ref a_m_half, .ref a_m_way, .ref a_m_counts, .ref a_m_lastCounts, .ref a_m_openArc, .ref a_m_with, .ref a_m_tried, .int m_stables, .long m_firstSet], aI E a_m_from 60 m_from, aI E a_m_to 60 m_to, aI E a_m_weighs 60 m_weighs, aZ E a_m_alive 60 m_alive, aI E a_m_near 256 x1, aI E a_m_worth 256 x2]) e_5 e_6) dX12_findWorth_163
    have hL_32_31 : ∀ (n : Nat) (v2_8 : Int32) (m_near_9 : Nat → Int32) (m_worth_10 : Nat → Int32) (H : Heap) (locs : List Loc) (ls : Array Slot), Wo E A s [oC a_m 12 [.int m_nodes, .int m_made, .ref a_m_from, .ref a_m_to, .ref a_m_weighs, .ref a_m_alive, .ref a_m_ranks, .int m_known, .ref a_m_best, .ref a_m_most, .ref a_m_apart, .ref a_m_near, .ref a_m_worth, .ref a_m_mates, .ref a_m_sizes, .ref a_m_sums, .ref a_m_has, .ref a_m_sorts, .ref a_m_pieces, .int m_pieceCount, .int m_parts, .int m_halves, .ref a_m_inCover, .int m_coverSize, .int m_holdSet, .ref a_m_pairCost, .ref a_m_inJoin, .int m_hasJoin, .ref a_m_half, .ref a_m_way, .ref a_m_counts, .ref a_m_lastCounts, .ref a_m_openArc, .ref a_m_with, .ref a_m_tried, .int m_stables, .long m_firstSet], aI E a_m_from 60 m_from, aI E a_m_to 60 m_to, aI E a_m_weighs 60 m_weighs, aZ E a_m_alive 60 m_alive, aI E a_m_near 256 m_near_9, aI E a_m_worth 256 m_worth_10] H locs → lv_has ls 6 [(0, .ref a_m), (1, .int p1), (2, .int v2_8)] → f_X12_findWorth_L32 m_made m_from m_to m_weighs m_alive p1 kk_163_6 n v2_8 m_near_9 m_worth_10 = some (u_m_near, u_m_worth) → W p l e (Rm 1) s m (([.ref a_m, .int p1] : List Value).toArray) below meth c H locs 0 0 Q (F0 m 32 ls []) := by
      intro n
      induction n with
      | zero => intro v2_8 m_near_9 m_worth_10 H locs ls hw hl hf; unfold f_X12_findWorth_L32 at hf; cases hf
      | succ n ih =>
        intro v2_8 m_near_9 m_worth_10 H locs ls hw hl hf
        unfold f_X12_findWorth_L32 at hf
        refine lv_iload_n S.1 S.2.1 dX12_findWorth_32 rfl (lv_at hl 2 rfl) ?_
        refine lv_aload_n S.1 S.2.1 dX12_findWorth_33 rfl (lv_at hl 0 rfl) ?_
        refine g_get S hN hw (C := RX12) (T := TX12) (N := 37) (ci := 12) (v := .int m_made) 0 1 iX12 k97 dX12_findWorth_34 rfl rfl (by decide) rfl ?_
        refine lv_icmp_ge (tgt := 163) S.1 S.2.1 dX12_findWorth_37 (by decide) (fun h_11 => ?_) (fun h_11 => ?_)
        · replace hf := if_t h_11 hf
          exact hJ_kk_163_6 m_near_9 m_worth_10 _ _ _ hw (lv_sub hl [] rfl) hf
        · replace hf := if_f h_11 hf
          refine lv_aload_n S.1 S.2.1 dX12_findWorth_40 rfl (lv_at hl 0 rfl) ?_
          refine g_get S hN hw (C := RX12) (T := TX12) (N := 37) (ci := 12) (v := .ref a_m_alive) 0 5 iX12 k19 dX12_findWorth_41 rfl rfl (by decide) rfl ?_
          refine lv_iload_n S.1 S.2.1 dX12_findWorth_44 rfl (lv_at hl 2 rfl) ?_
          obtain ⟨hi_11, hf⟩ := rd_s hf
          refine g_zald (n := 60) (f := m_alive) S hN hw 4 hi_11 dX12_findWorth_45 rfl ?_
          generalize m_alive (v2_8 : Int32).toNatClampNeg = y_12 at hf ⊢
          refine lv_if_eq (tgt := 157) S.1 S.2.1 dX12_findWorth_46 (by decide) (fun h_13 => ?_) (fun h_13 => ?_)
          · replace hf := if_t h_13 hf
            refine lv_iinc (v := (v2_8 + 1)) (lv' := [(2, .int (v2_8 + 1)), (0, .ref a_m), (1, .int p1)]) S.1 S.2.1 dX12_findWorth_157 hl (k := 2) rfl rfl (by decide) rfl (fun ls hl => ?_)
            refine lv_goto (tgt := 32) S.1 S.2.1 dX12_findWorth_160 (by decide) ?_
            exact ih (v2_8 + 1) m_near_9 m_worth_10 _ _ _ hw (lv_sub hl [1, 2, 0] rfl) hf
          · replace hf := if_f h_13 hf
            refine lv_aload_n S.1 S.2.1 dX12_findWorth_49 rfl (lv_at hl 0 rfl) ?_
            refine lv_iload_n S.1 S.2.1 dX12_findWorth_50 rfl (lv_at hl 1 rfl) ?_
            refine lv_iload_n S.1 S.2.1 dX12_findWorth_51 rfl (lv_at hl 2 rfl) ?_
            obtain ⟨r_14, hc_14, hf⟩ := bd_s hf
            refine g_calli (r := r_14) (wc := [oC a_m 12 [.int m_nodes, .int m_made, .ref a_m_from, .ref a_m_to, .ref a_m_weighs, .ref a_m_alive, .ref a_m_ranks, .int m_known, .ref a_m_best, .ref a_m_most, .ref a_m_apart, .ref a_m_near, .ref a_m_worth, .ref a_m_mates, .ref a_m_sizes, .ref a_m_sums, .ref a_m_has, .ref a_m_sorts, .ref a_m_pieces, .int m_pieceCount, .int m_parts, .int m_halves, .ref a_m_inCover, .int m_coverSize, .int m_holdSet, .ref a_m_pairCost, .ref a_m_inJoin, .int m_hasJoin, .ref a_m_half, .ref a_m_way, .ref a_m_counts, .ref a_m_lastCounts, .ref a_m_openArc, .ref a_m_with, .ref a_m_tried, .int m_stables, .long m_firstSet], aI E a_m_weighs 60 m_weighs]) (wr := [aI E a_m_from 60 m_from, aI E a_m_to 60 m_to, aZ E a_m_alive 60 m_alive, aI E a_m_near 256 m_near_9, aI E a_m_worth 256 m_worth_10]) (w1 := [oC a_m 12 [.int m_nodes, .int m_made, .ref a_m_from, .ref a_m_to, .ref a_m_weighs, .ref a_m_alive, .ref a_m_ranks, .int m_known, .ref a_m_best, .ref a_m_most, .ref a_m_apart, .ref a_m_near, .ref a_m_worth, .ref a_m_mates, .ref a_m_sizes, .ref a_m_sums, .ref a_m_has, .ref a_m_sorts, .ref a_m_pieces, .int m_pieceCount, .int m_parts, .int m_halves, .ref a_m_inCover, .int m_coverSize, .int m_holdSet, .ref a_m_pairCost, .ref a_m_inJoin, .int m_hasJoin, .ref a_m_half, .ref a_m_way, .ref a_m_counts, .ref a_m_lastCounts, .ref a_m_openArc, .ref a_m_with, .ref a_m_tried, .int m_stables, .long m_firstSet], aI E a_m_weighs 60 m_weighs]) (va_runV (As := [.int p1, .int v2_8]) (rest := []) S (c_X12_valueOf l E m_nodes m_made a_m_from a_m_to m_weighs a_m_weighs a_m_alive a_m_ranks m_known a_m_best a_m_most a_m_apart a_m_near a_m_worth a_m_mates a_m_sizes a_m_sums a_m_has a_m_sorts a_m_pieces m_pieceCount m_parts m_halves a_m_inCover m_coverSize m_holdSet a_m_pairCost a_m_inJoin m_hasJoin a_m_half a_m_way a_m_counts a_m_lastCounts a_m_openArc a_m_with a_m_tried m_stables m_firstSet a_m p1 v2_8 r_14 hc_14 _) (cwV 2 S.2.2.2.2 gX12_findWorth_X12_valueOf rfl rfl rfl (by decide +kernel) (rm_le (by omega) (by decide))) (preV (q := (RX12, TX12, 37)) hN hw [0, 3] rfl rfl rfl rfl) rfl rfl hl.1 rfl (lv_room (Nat.le_of_ble_eq_true rfl)) dX12_findWorth_52 ⟨Nat.le_refl _, Nat.le_refl _⟩) hw hA [0, 3] [1, 2, 4, 5, 6] rfl rfl rfl (by decide) (fun H locs hw => ?_)
            have hw : Wo E A s [aI E a_m_from 60 m_from, aI E a_m_to 60 m_to, aZ E a_m_alive 60 m_alive, aI E a_m_near 256 m_near_9, aI E a_m_worth 256 m_worth_10, oC a_m 12 [.int m_nodes, .int m_made, .ref a_m_from, .ref a_m_to, .ref a_m_weighs, .ref a_m_alive, .ref a_m_ranks, .int m_known, .ref a_m_best, .ref a_m_most, .ref a_m_apart, .ref a_m_near, .ref a_m_worth, .ref a_m_mates, .ref a_m_sizes, .ref a_m_sums, .ref a_m_has, .ref a_m_sorts, .ref a_m_pieces, .int m_pieceCount, .int m_parts, .int m_halves, .ref a_m_inCover, .int m_coverSize, .int m_holdSet, .ref a_m_pairCost, .ref a_m_inJoin, .int m_hasJoin, .ref a_m_half, .ref a_m_way, .ref a_m_counts, .ref a_m_lastCounts, .ref a_m_openArc, .ref a_m_with, .ref a_m_tried, .int m_stables, .long m_firstSet], aI E a_m_weighs 60 m_weighs] H _ := hw
            refine lv_istore_n (lv' := [(3, .int r_14), (0, .ref a_m), (1, .int p1), (2, .int v2_8)]) S.1 S.2.1 dX12_findWorth_55 rfl hl (by decide) rfl (fun ls hl => ?_)
            refine lv_bipush (v := 16) S.1 S.2.1 dX12_findWorth_56 (by decide) ?_
            refine lv_aload_n S.1 S.2.1 dX12_findWorth_58 rfl (lv_at hl 1 rfl) ?_
            refine g_get S hN hw (C := RX12) (T := TX12) (N := 37) (ci := 12) (v := .ref a_m_from) 5 2 iX12 k7 dX12_findWorth_59 rfl rfl (by decide) rfl ?_
            refine lv_iload_n S.1 S.2.1 dX12_findWorth_62 rfl (lv_at hl 3 rfl) ?_
            obtain ⟨hi_15, hf⟩ := rd_s hf
            refine g_iald (n := 60) (f := m_from) S hN hw 0 hi_15 dX12_findWorth_63 rfl ?_
            generalize m_from (v2_8 : Int32).toNatClampNeg = y_16 at hf ⊢
            refine lv_imul S.1 S.2.1 dX12_findWorth_64 ?_
            refine lv_aload_n S.1 S.2.1 dX12_findWorth_65 rfl (lv_at hl 1 rfl) ?_
            refine g_get S hN hw (C := RX12) (T := TX12) (N := 37) (ci := 12) (v := .ref a_m_to) 5 3 iX12 k13 dX12_findWorth_66 rfl rfl (by decide) rfl ?_
            refine lv_iload_n S.1 S.2.1 dX12_findWorth_69 rfl (lv_at hl 3 rfl) ?_
            obtain ⟨hi_16, hf⟩ := rd_s hf
            refine g_iald (n := 60) (f := m_to) S hN hw 1 hi_16 dX12_findWorth_70 rfl ?_
            generalize m_to (v2_8 : Int32).toNatClampNeg = y_17 at hf ⊢
            refine lv_iadd S.1 S.2.1 dX12_findWorth_71 ?_
            refine lv_istore (lv' := [(4, .int ((16 * y_16) + y_17)), (3, .int r_14), (0, .ref a_m), (1, .int p1), (2, .int v2_8)]) S.1 S.2.1 dX12_findWorth_72 hl (by decide) rfl (fun ls hl => ?_)
            refine lv_bipush (v := 16) S.1 S.2.1 dX12_findWorth_74 (by decide) ?_
            refine lv_aload_n S.1 S.2.1 dX12_findWorth_76 rfl (lv_at hl 2 rfl) ?_
            refine g_get S hN hw (C := RX12) (T := TX12) (N := 37) (ci := 12) (v := .ref a_m_to) 5 3 iX12 k13 dX12_findWorth_77 rfl rfl (by decide) rfl ?_
            refine lv_iload_n S.1 S.2.1 dX12_findWorth_80 rfl (lv_at hl 4 rfl) ?_
            obtain ⟨hi_17, hf⟩ := rd_s hf
            refine g_iald (n := 60) (f := m_to) S hN hw 1 hi_17 dX12_findWorth_81 rfl ?_
            generalize m_to (v2_8 : Int32).toNatClampNeg = y_18 at hf ⊢
            refine lv_imul S.1 S.2.1 dX12_findWorth_82 ?_
            refine lv_aload_n S.1 S.2.1 dX12_findWorth_83 rfl (lv_at hl 2 rfl) ?_
            refine g_get S hN hw (C := RX12) (T := TX12) (N := 37) (ci := 12) (v := .ref a_m_from) 5 2 iX12 k7 dX12_findWorth_84 rfl rfl (by decide) rfl ?_
            refine lv_iload_n S.1 S.2.1 dX12_findWorth_87 rfl (lv_at hl 4 rfl) ?_
            obtain ⟨hi_18, hf⟩ := rd_s hf
            refine g_iald (n := 60) (f := m_from) S hN hw 0 hi_18 dX12_findWorth_88 rfl ?_
            generalize m_from (v2_8 : Int32).toNatClampNeg = y_19 at hf ⊢
            refine lv_iadd S.1 S.2.1 dX12_findWorth_89 ?_
            refine lv_istore (lv' := [(5, .int ((16 * y_18) + y_19)), (4, .int ((16 * y_16) + y_17)), (3, .int r_14), (0, .ref a_m), (1, .int p1), (2, .int v2_8)]) S.1 S.2.1 dX12_findWorth_90 hl (by decide) rfl (fun ls hl => ?_)
            refine lv_aload_n S.1 S.2.1 dX12_findWorth_92 rfl (lv_at hl 3 rfl) ?_
            refine g_get S hN hw (C := RX12) (T := TX12) (N := 37) (ci := 12) (v := .ref a_m_worth) 5 12 iX12 k40 dX12_findWorth_93 rfl rfl (by decide) rfl ?_
            refine lv_iload S.1 S.2.1 dX12_findWorth_96 (lv_at hl 1 rfl) ?_
            refine lv_iload_n S.1 S.2.1 dX12_findWorth_98 rfl (lv_at hl 2 rfl) ?_
            refine lv_aload_n S.1 S.2.1 dX12_findWorth_99 rfl (lv_at hl 3 rfl) ?_
            refine g_get S hN hw (C := RX12) (T := TX12) (N := 37) (ci := 12) (v := .ref a_m_worth) 5 12 iX12 k40 dX12_findWorth_100 rfl rfl (by decide) rfl ?_
            refine lv_iload S.1 S.2.1 dX12_findWorth_103 (lv_at hl 1 rfl) ?_
            obtain ⟨hi_19, hf⟩ := rd_s hf
            refine g_iald (n := 256) (f := m_worth_10) S hN hw 4 hi_19 dX12_findWorth_105 rfl ?_
            generalize m_worth_10 (((16 * y_16) + y_17) : Int32).toNatClampNeg = y_20 at hf ⊢
            obtain ⟨jj_120_21, ejj_120_21, hf⟩ := jn_s hf
            have hJ_jj_120_21 : ∀ (z_21 : Int32) (H : Heap) (locs : List Loc) (ls : Array Slot), Wo E A s [aI E a_m_from 60 m_from, aI E a_m_to 60 m_to, aZ E a_m_alive 60 m_alive, aI E a_m_near 256 m_near_9, aI E a_m_worth 256 m_worth_10, oC a_m 12 [.int m_nodes, .int m_made, .ref a_m_from, .ref a_m_to, .ref a_m_weighs, .ref a_m_alive, .ref a_m_ranks, .int m_known, .ref a_m_best, .ref a_m_most, .ref a_m_apart, .ref a_m_near, .ref a_m_worth, .ref a_m_mates, .ref a_m_sizes, .ref a_m_sums, .ref a_m_has, .ref a_m_sorts, .ref a_m_pieces, .int m_pieceCount, .int m_parts, .int m_halves, .ref a_m_inCover, .int m_coverSize, .int m_holdSet, .ref a_m_pairCost, .ref a_m_inJoin, .int m_hasJoin, .ref a_m_half, .ref a_m_way, .ref a_m_counts, .ref a_m_lastCounts, .ref a_m_openArc, .ref a_m_with, .ref a_m_tried, .int m_stables, .long m_firstSet], aI E a_m_weighs 60 m_weighs] H locs → lv_has ls 6 [(0, .ref a_m), (1, .int p1), (2, .int v2_8), (4, .int ((16 * y_16) + y_17)), (5, .int ((16 * y_18) + y_19))] → jj_120_21 z_21 = some (u_m_near, u_m_worth) → W p l e (Rm 1) s m (([.ref a_m, .int p1] : List Value).toArray) below meth c H locs 0 0 Q (F0 m 120 ls [.int z_21, .int ((16 * y_16) + y_17), .ref a_m_worth]) := by
              intro z_21 H locs ls hw hl hf
              rw [ejj_120_21] at hf
              obtain ⟨hi_22, hf⟩ := wr_s hf
              refine g_iast (n := 256) (f := m_worth_10) (w1 := [aI E a_m_from 60 m_from, aI E a_m_to 60 m_to, aZ E a_m_alive 60 m_alive, aI E a_m_near 256 m_near_9, aI E a_m_worth 256 (va_up m_worth_10 (((16 * y_16) + y_17) : Int32).toNatClampNeg z_21), oC a_m 12 [.int m_nodes, .int m_made, .ref a_m_from, .ref a_m_to, .ref a_m_weighs, .ref a_m_alive, .ref a_m_ranks, .int m_known, .ref a_m_best, .ref a_m_most, .ref a_m_apart, .ref a_m_near, .ref a_m_worth, .ref a_m_mates, .ref a_m_sizes, .ref a_m_sums, .ref a_m_has, .ref a_m_sorts, .ref a_m_pieces, .int m_pieceCount, .int m_parts, .int m_halves, .ref a_m_inCover, .int m_coverSize, .int m_holdSet, .ref a_m_pairCost, .ref a_m_inJoin, .int m_hasJoin, .ref a_m_half, .ref a_m_way, .ref a_m_counts, .ref a_m_lastCounts, .ref a_m_openArc, .ref a_m_with, .ref a_m_tried, .int m_stables, .long m_firstSet], aI E a_m_weighs 60 m_weighs]) S hN hw 4 hi_22 dX12_findWorth_120 rfl rfl (fun H locs hw => ?_)
              generalize va_up m_worth_10 (((16 * y_16) + y_17) : Int32).toNatClampNeg z_21 = m_worth_23 at hf hw
              refine lv_aload_n S.1 S.2.1 dX12_findWorth_121 rfl (lv_at hl 0 rfl) ?_
              refine g_get S hN hw (C := RX12) (T := TX12) (N := 37) (ci := 12) (v := .ref a_m_worth) 5 12 iX12 k40 dX12_findWorth_122 rfl rfl (by decide) rfl ?_
              refine lv_iload S.1 S.2.1 dX12_findWorth_125 (lv_at hl 4 rfl) ?_
              refine lv_aload_n S.1 S.2.1 dX12_findWorth_127 rfl (lv_at hl 0 rfl) ?_
              refine g_get S hN hw (C := RX12) (T := TX12) (N := 37) (ci := 12) (v := .ref a_m_worth) 5 12 iX12 k40 dX12_findWorth_128 rfl rfl (by decide) rfl ?_
              refine lv_iload S.1 S.2.1 dX12_findWorth_131 (lv_at hl 3 rfl) ?_
              obtain ⟨hi_23, hf⟩ := rd_s hf
              refine g_iald (n := 256) (f := m_worth_23) S hN hw 4 hi_23 dX12_findWorth_133 rfl ?_
              generalize m_worth_23 (((16 * y_16) + y_17) : Int32).toNatClampNeg = y_24 at hf ⊢
              obtain ⟨hi_24, hf⟩ := wr_s hf
              refine g_iast (n := 256) (f := m_worth_23) (w1 := [aI E a_m_from 60 m_from, aI E a_m_to 60 m_to, aZ E a_m_alive 60 m_alive, aI E a_m_near 256 m_near_9, aI E a_m_worth 256 (va_up m_worth_23 (((16 * y_18) + y_19) : Int32).toNatClampNeg y_24), oC a_m 12 [.int m_nodes, .int m_made, .ref a_m_from, .ref a_m_to, .ref a_m_weighs, .ref a_m_alive, .ref a_m_ranks, .int m_known, .ref a_m_best, .ref a_m_most, .ref a_m_apart, .ref a_m_near, .ref a_m_worth, .ref a_m_mates, .ref a_m_sizes, .ref a_m_sums, .ref a_m_has, .ref a_m_sorts, .ref a_m_pieces, .int m_pieceCount, .int m_parts, .int m_halves, .ref a_m_inCover, .int m_coverSize, .int m_holdSet, .ref a_m_pairCost, .ref a_m_inJoin, .int m_hasJoin, .ref a_m_half, .ref a_m_way, .ref a_m_counts, .ref a_m_lastCounts, .ref a_m_openArc, .ref a_m_with, .ref a_m_tried, .int m_stables, .long m_firstSet], aI E a_m_weighs 60 m_weighs]) S hN hw 4 hi_24 dX12_findWorth_134 rfl rfl (fun H locs hw => ?_)
              generalize va_up m_worth_23 (((16 * y_18) + y_19) : Int32).toNatClampNeg y_24 = m_worth_25 at hf hw
              refine lv_aload_n S.1 S.2.1 dX12_findWorth_135 rfl (lv_at hl 0 rfl) ?_
              refine g_get S hN hw (C := RX12) (T := TX12) (N := 37) (ci := 12) (v := .ref a_m_near) 5 11 iX12 k37 dX12_findWorth_136 rfl rfl (by decide) rfl ?_
              refine lv_iload S.1 S.2.1 dX12_findWorth_139 (lv_at hl 3 rfl) ?_
              refine lv_dup2_11 S.1 S.2.1 dX12_findWorth_141 rfl rfl ?_
              obtain ⟨hi_25, hf⟩ := rd_s hf
              refine g_iald (n := 256) (f := m_near_9) S hN hw 3 hi_25 dX12_findWorth_142 rfl ?_
              generalize m_near_9 (((16 * y_16) + y_17) : Int32).toNatClampNeg = y_26 at hf ⊢
              refine lv_iconst (v := 1) S.1 S.2.1 dX12_findWorth_143 (by decide) ?_
              refine lv_iadd S.1 S.2.1 dX12_findWorth_144 ?_
              obtain ⟨hi_26, hf⟩ := wr_s hf
              refine g_iast (n := 256) (f := m_near_9) (w1 := [aI E a_m_from 60 m_from, aI E a_m_to 60 m_to, aZ E a_m_alive 60 m_alive, aI E a_m_near 256 (va_up m_near_9 (((16 * y_16) + y_17) : Int32).toNatClampNeg (y_26 + 1)), aI E a_m_worth 256 m_worth_25, oC a_m 12 [.int m_nodes, .int m_made, .ref a_m_from, .ref a_m_to, .ref a_m_weighs, .ref a_m_alive, .ref a_m_ranks, .int m_known, .ref a_m_best, .ref a_m_most, .ref a_m_apart, .ref a_m_near, .ref a_m_worth, .ref a_m_mates, .ref a_m_sizes, .ref a_m_sums, .ref a_m_has, .ref a_m_sorts, .ref a_m_pieces, .int m_pieceCount, .int m_parts, .int m_halves, .ref a_m_inCover, .int m_coverSize, .int m_holdSet, .ref a_m_pairCost, .ref a_m_inJoin, .int m_hasJoin, .ref a_m_half, .ref a_m_way, .ref a_m_counts, .ref a_m_lastCounts, .ref a_m_openArc, .ref a_m_with, .ref a_m_tried, .int m_stables, .long m_firstSet], aI E a_m_weighs 60 m_weighs]) S hN hw 3 hi_26 dX12_findWorth_145 rfl rfl (fun H locs hw => ?_)
              generalize va_up m_near_9 (((16 * y_16) + y_17) : Int32).toNatClampNeg (y_26 + 1) = m_near_27 at hf hw
              refine lv_aload_n S.1 S.2.1 dX12_findWorth_146 rfl (lv_at hl 0 rfl) ?_
              refine g_get S hN hw (C := RX12) (T := TX12) (N := 37) (ci := 12) (v := .ref a_m_near) 5 11 iX12 k37 dX12_findWorth_147 rfl rfl (by decide) rfl ?_
              refine lv_iload S.1 S.2.1 dX12_findWorth_150 (lv_at hl 4 rfl) ?_
              refine lv_dup2_11 S.1 S.2.1 dX12_findWorth_152 rfl rfl ?_
              obtain ⟨hi_27, hf⟩ := rd_s hf
              refine g_iald (n := 256) (f := m_near_27) S hN hw 3 hi_27 dX12_findWorth_153 rfl ?_
              generalize m_near_27 (((16 * y_18) + y_19) : Int32).toNatClampNeg = y_28 at hf ⊢
              refine lv_iconst (v := 1) S.1 S.2.1 dX12_findWorth_154 (by decide) ?_
              refine lv_iadd S.1 S.2.1 dX12_findWorth_155 ?_
              obtain ⟨hi_28, hf⟩ := wr_s hf
              refine g_iast (n := 256) (f := m_near_27) (w1 := [aI E a_m_from 60 m_from, aI E a_m_to 60 m_to, aZ E a_m_alive 60 m_alive, aI E a_m_near 256 (va_up m_near_27 (((16 * y_18) + y_19) : Int32).toNatClampNeg (y_28 + 1)), aI E a_m_worth 256 m_worth_25, oC a_m 12 [.int m_nodes, .int m_made, .ref a_m_from, .ref a_m_to, .ref a_m_weighs, .ref a_m_alive, .ref a_m_ranks, .int m_known, .ref a_m_best, .ref a_m_most, .ref a_m_apart, .ref a_m_near, .ref a_m_worth, .ref a_m_mates, .ref a_m_sizes, .ref a_m_sums, .ref a_m_has, .ref a_m_sorts, .ref a_m_pieces, .int m_pieceCount, .int m_parts, .int m_halves, .ref a_m_inCover, .int m_coverSize, .int m_holdSet, .ref a_m_pairCost, .ref a_m_inJoin, .int m_hasJoin, .ref a_m_half, .ref a_m_way, .ref a_m_counts, .ref a_m_lastCounts, .ref a_m_openArc, .ref a_m_with, .ref a_m_tried, .int m_stables, .long m_firstSet], aI E a_m_weighs 60 m_weighs]) S hN hw 3 hi_28 dX12_findWorth_156 rfl rfl (fun H locs hw => ?_)
              generalize va_up m_near_27 (((16 * y_18) + y_19) : Int32).toNatClampNeg (y_28 + 1) = m_near_29 at hf hw
              refine lv_iinc (v := (v2_8 + 1)) (lv' := [(2, .int (v2_8 + 1)), (0, .ref a_m), (1, .int p1), (4, .int ((16 * y_16) + y_17)), (5, .int ((16 * y_18) + y_19))]) S.1 S.2.1 dX12_findWorth_157 hl (k := 2) rfl rfl (by decide) rfl (fun ls hl => ?_)
              refine lv_goto (tgt := 32) S.1 S.2.1 dX12_findWorth_160 (by decide) ?_
              exact ih (v2_8 + 1) m_near_29 m_worth_25 _ _ _ (hw.sub [5, 0, 1, 6, 2, 3, 4] rfl rfl) (lv_sub hl [1, 2, 0] rfl) hf
            refine lv_icmp_le (tgt := 113) S.1 S.2.1 dX12_findWorth_106 (by decide) (fun h_30 => ?_) (fun h_30 => ?_)
            · replace hf := if_t h_30 hf
              refine lv_aload_n S.1 S.2.1 dX12_findWorth_113 rfl (lv_at hl 3 rfl) ?_
              refine g_get S hN hw (C := RX12) (T := TX12) (N := 37) (ci := 12) (v := .ref a_m_worth) 5 12 iX12 k40 dX12_findWorth_114 rfl rfl (by decide) rfl ?_
              refine lv_iload S.1 S.2.1 dX12_findWorth_117 (lv_at hl 1 rfl) ?_
              obtain ⟨hi_30, hf⟩ := rd_s hf
              refine g_iald (n := 256) (f := m_worth_10) S hN hw 4 hi_30 dX12_findWorth_119 rfl ?_
              generalize m_worth_10 (((16 * y_16) + y_17) : Int32).toNatClampNeg = y_31 at hf ⊢
              exact hJ_jj_120_21 y_31 _ _ _ hw (lv_sub hl [3, 4, 5, 1, 0] rfl) hf
            · replace hf := if_f h_30 hf
              refine lv_iload_n S.1 S.2.1 dX12_findWorth_109 rfl (lv_at hl 2 rfl) ?_
              refine lv_goto (tgt := 120) S.1 S.2.1 dX12_findWorth_110 (by decide) ?_
              exact hJ_jj_120_21 r_14 _ _ _ hw (lv_sub hl [3, 4, 5, 1, 0] rfl) hf
    exact hL_32_31 F 0 m_near_1 m_worth_2 _ _ _ hw (lv_sub hl [1, 2, 0] rfl) hf
  have hL_2_39 : ∀ (n : Nat) (v2_34 : Int32) (m_near_35 : Nat → Int32) (m_worth_36 : Nat → Int32) (H : Heap) (locs : List Loc) (ls : Array Slot), Wo E A s [oC a_m 12 [.int m_nodes, .int m_made, .ref a_m_from, .ref a_m_to, .ref a_m_weighs, .ref a_m_alive, .ref a_m_ranks, .int m_known, .ref a_m_best, .ref a_m_most, .ref a_m_apart, .ref a_m_near, .ref a_m_worth, .ref a_m_mates, .ref a_m_sizes, .ref a_m_sums, .ref a_m_has, .ref a_m_sorts, .ref a_m_pieces, .int m_pieceCount, .int m_parts, .int m_halves, .ref a_m_inCover, .int m_coverSize, .int m_holdSet, .ref a_m_pairCost, .ref a_m_inJoin, .int m_hasJoin, .ref a_m_half, .ref a_m_way, .ref a_m_counts, .ref a_m_lastCounts, .ref a_m_openArc, .ref a_m_with, .ref a_m_tried, .int m_stables, .long m_firstSet], aI E a_m_from 60 m_from, aI E a_m_to 60 m_to, aI E a_m_weighs 60 m_weighs, aZ E a_m_alive 60 m_alive, aI E a_m_near 256 m_near_35, aI E a_m_worth 256 m_worth_36] H locs → lv_has ls 6 [(0, .ref a_m), (1, .int p1), (2, .int v2_34)] → f_X12_findWorth_L2 kk_30_32 n v2_34 m_near_35 m_worth_36 = some (u_m_near, u_m_worth) → W p l e (Rm 1) s m (([.ref a_m, .int p1] : List Value).toArray) below meth c H locs 0 0 Q (F0 m 2 ls []) := by
    intro n
    induction n with
    | zero => intro v2_34 m_near_35 m_worth_36 H locs ls hw hl hf; unfold f_X12_findWorth_L2 at hf; cases hf
    | succ n ih =>
      intro v2_34 m_near_35 m_worth_36 H locs ls hw hl hf
      unfold f_X12_findWorth_L2 at hf
      refine lv_iload_n S.1 S.2.1 dX12_findWorth_2 rfl (lv_at hl 2 rfl) ?_
      refine lv_sipush (v := 256) S.1 S.2.1 dX12_findWorth_3 (by decide) ?_
      refine lv_icmp_ge (tgt := 30) S.1 S.2.1 dX12_findWorth_6 (by decide) (fun h_37 => ?_) (fun h_37 => ?_)
      · replace hf := if_t h_37 hf
        exact hJ_kk_30_32 m_near_35 m_worth_36 _ _ _ hw (lv_sub hl [0, 1] rfl) hf
      · replace hf := if_f h_37 hf
        refine lv_aload_n S.1 S.2.1 dX12_findWorth_9 rfl (lv_at hl 0 rfl) ?_
        refine g_get S hN hw (C := RX12) (T := TX12) (N := 37) (ci := 12) (v := .ref a_m_worth) 0 12 iX12 k40 dX12_findWorth_10 rfl rfl (by decide) rfl ?_
        refine lv_iload_n S.1 S.2.1 dX12_findWorth_13 rfl (lv_at hl 2 rfl) ?_
        refine lv_ldc (v := (-1000000000)) S.1 S.2.1 S.2.2.2.1 k96 dX12_findWorth_14 ?_
        obtain ⟨hi_37, hf⟩ := wr_s hf
        refine g_iast (n := 256) (f := m_worth_36) (w1 := [oC a_m 12 [.int m_nodes, .int m_made, .ref a_m_from, .ref a_m_to, .ref a_m_weighs, .ref a_m_alive, .ref a_m_ranks, .int m_known, .ref a_m_best, .ref a_m_most, .ref a_m_apart, .ref a_m_near, .ref a_m_worth, .ref a_m_mates, .ref a_m_sizes, .ref a_m_sums, .ref a_m_has, .ref a_m_sorts, .ref a_m_pieces, .int m_pieceCount, .int m_parts, .int m_halves, .ref a_m_inCover, .int m_coverSize, .int m_holdSet, .ref a_m_pairCost, .ref a_m_inJoin, .int m_hasJoin, .ref a_m_half, .ref a_m_way, .ref a_m_counts, .ref a_m_lastCounts, .ref a_m_openArc, .ref a_m_with, .ref a_m_tried, .int m_stables, .long m_firstSet], aI E a_m_from 60 m_from, aI E a_m_to 60 m_to, aI E a_m_weighs 60 m_weighs, aZ E a_m_alive 60 m_alive, aI E a_m_near 256 m_near_35, aI E a_m_worth 256 (va_up m_worth_36 (v2_34 : Int32).toNatClampNeg (-1000000000))]) S hN hw 6 hi_37 dX12_findWorth_16 rfl rfl (fun H locs hw => ?_)
        generalize va_up m_worth_36 (v2_34 : Int32).toNatClampNeg (-1000000000) = m_worth_38 at hf hw
        refine lv_aload_n S.1 S.2.1 dX12_findWorth_17 rfl (lv_at hl 0 rfl) ?_
        refine g_get S hN hw (C := RX12) (T := TX12) (N := 37) (ci := 12) (v := .ref a_m_near) 0 11 iX12 k37 dX12_findWorth_18 rfl rfl (by decide) rfl ?_
        refine lv_iload_n S.1 S.2.1 dX12_findWorth_21 rfl (lv_at hl 2 rfl) ?_
        refine lv_iconst (v := 0) S.1 S.2.1 dX12_findWorth_22 (by decide) ?_
        obtain ⟨hi_38, hf⟩ := wr_s hf
        refine g_iast (n := 256) (f := m_near_35) (w1 := [oC a_m 12 [.int m_nodes, .int m_made, .ref a_m_from, .ref a_m_to, .ref a_m_weighs, .ref a_m_alive, .ref a_m_ranks, .int m_known, .ref a_m_best, .ref a_m_most, .ref a_m_apart, .ref a_m_near, .ref a_m_worth, .ref a_m_mates, .ref a_m_sizes, .ref a_m_sums, .ref a_m_has, .ref a_m_sorts, .ref a_m_pieces, .int m_pieceCount, .int m_parts, .int m_halves, .ref a_m_inCover, .int m_coverSize, .int m_holdSet, .ref a_m_pairCost, .ref a_m_inJoin, .int m_hasJoin, .ref a_m_half, .ref a_m_way, .ref a_m_counts, .ref a_m_lastCounts, .ref a_m_openArc, .ref a_m_with, .ref a_m_tried, .int m_stables, .long m_firstSet], aI E a_m_from 60 m_from, aI E a_m_to 60 m_to, aI E a_m_weighs 60 m_weighs, aZ E a_m_alive 60 m_alive, aI E a_m_near 256 (va_up m_near_35 (v2_34 : Int32).toNatClampNeg 0), aI E a_m_worth 256 m_worth_38]) S hN hw 5 hi_38 dX12_findWorth_23 rfl rfl (fun H locs hw => ?_)
        generalize va_up m_near_35 (v2_34 : Int32).toNatClampNeg 0 = m_near_39 at hf hw
        refine lv_iinc (v := (v2_34 + 1)) (lv' := [(2, .int (v2_34 + 1)), (0, .ref a_m), (1, .int p1)]) S.1 S.2.1 dX12_findWorth_24 hl (k := 2) rfl rfl (by decide) rfl (fun ls hl => ?_)
        refine lv_goto (tgt := 2) S.1 S.2.1 dX12_findWorth_27 (by decide) ?_
        exact ih (v2_34 + 1) m_near_39 m_worth_38 _ _ _ hw (lv_sub hl [1, 2, 0] rfl) hf
  exact hL_2_39 F 0 m_near m_worth _ _ _ hw (lv_sub hl [1, 2, 0] rfl) hf
