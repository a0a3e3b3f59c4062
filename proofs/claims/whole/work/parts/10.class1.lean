def f_X1_refresh_L31 (F : Nat) (r_slots : Nat → Int32) (r_slotOf : Nat → Int32) (r_sets : Nat → Int32) (r_later : Nat → Int32) (r_laters : Nat → Int32) (r_amount : Int32) (n_several_2 : Nat → Int32) (kk_51_4 : (Nat → Int64) → Option (Int32 × Int32 × (Nat → Int32) × (Nat → Int64))) : Nat → Int32 → (Nat → Int64) → Option (Int32 × Int32 × (Nat → Int32) × (Nat → Int64))
  | 0, _, _ => none
  | n + 1, v2_6, n_numbers_7 => (if r_amount ≤ v2_6 then (kk_51_4 n_numbers_7) else (f_X1_countFor F v2_6 n_several_2 n_numbers_7 r_slots r_slotOf r_sets r_later r_laters r_amount).bind (fun n_numbers_9 => (f_X1_refresh_L31 F r_slots r_slotOf r_sets r_later r_laters r_amount n_several_2 kk_51_4 n (v2_6 + 1) n_numbers_9)))
def f_X1_refresh (F : Nat) (g_made : Int32) (g_age : Int32) (g_oneEnd : Nat → Int32) (g_otherEnd : Nat → Int32) (g_alive : Nat → Int32) (n_several : Nat → Int32) (n_numbers : Nat → Int64) (n_last : Int32) (n_age : Int32) (r_slots : Nat → Int32) (r_slotOf : Nat → Int32) (r_sets : Nat → Int32) (r_later : Nat → Int32) (r_laters : Nat → Int32) (r_amount : Int32) : Option (Int32 × Int32 × (Nat → Int32) × (Nat → Int64)) :=
  (if n_age = g_age then some (n_last, n_age, n_several, n_numbers) else (f_X1_countArcs F g_made g_oneEnd g_otherEnd g_alive n_several).bind (fun n_several_2 => (jn (fun (n_numbers_4 : Nat → Int64) => some ((r_amount - 1), g_age, n_several_2, n_numbers_4)) (fun kk_51_4 => (f_X1_refresh_L31 F r_slots r_slotOf r_sets r_later r_laters r_amount n_several_2 kk_51_4 F 0 n_numbers)))))
set_option maxHeartbeats 4000000 in
set_option maxRecDepth 100000 in
theorem c_X1_refresh (l : Launch) (E : Ev) (F : Nat) (g_nodes : Int32) (g_made : Int32) (g_living : Int32) (g_age : Int32) (g_oneEnd : Nat → Int32) (a_g_oneEnd : Nat) (g_otherEnd : Nat → Int32) (a_g_otherEnd : Nat) (a_g_weights : Nat) (g_alive : Nat → Int32) (a_g_alive : Nat) (a_g_joined : Nat) (a_g : Nat) (n_several : Nat → Int32) (a_n_several : Nat) (n_numbers : Nat → Int64) (a_n_numbers : Nat) (n_last : Int32) (n_age : Int32) (a_n : Nat) (r_slots : Nat → Int32) (a_r_slots : Nat) (r_slotOf : Nat → Int32) (a_r_slotOf : Nat) (r_sets : Nat → Int32) (a_r_sets : Nat) (r_later : Nat → Int32) (a_r_later : Nat) (r_laters : Nat → Int32) (a_r_laters : Nat) (r_mayLeave : Int32) (r_amount : Int32) (a_r : Nat) (u_n_last : Int32) (u_n_age : Int32) (u_n_several : Nat → Int32) (u_n_numbers : Nat → Int64) (hf : f_X1_refresh F g_made g_age g_oneEnd g_otherEnd g_alive n_several n_numbers n_last n_age r_slots r_slotOf r_sets r_later r_laters r_amount = some (u_n_last, u_n_age, u_n_several, u_n_numbers)) :
    CtV l yX1_refresh wsX1_refresh (Rm 3) E [.ref a_n, .ref a_r] [oC a_n 1 [.ref a_g, .ref a_n_several, .ref a_n_numbers, .int n_last, .int n_age], oC a_g 2 [.int g_nodes, .int g_made, .int g_living, .int g_age, .ref a_g_oneEnd, .ref a_g_otherEnd, .ref a_g_weights, .ref a_g_alive, .ref a_g_joined], aI E a_g_oneEnd 60 g_oneEnd, aI E a_g_otherEnd 60 g_otherEnd, aZ E a_g_alive 60 g_alive, aI E a_n_several 256 n_several, aJ E a_n_numbers 23256 n_numbers, oC a_r 7 [.ref a_r_slots, .ref a_r_slotOf, .ref a_r_sets, .ref a_r_later, .ref a_r_laters, .int r_mayLeave, .int r_amount], aI E a_r_slots 4096 r_slots, aI E a_r_slotOf 2584 r_slotOf, aI E a_r_sets 2584 r_sets, aI E a_r_later 256 r_later, aI E a_r_laters 16 r_laters] [oC a_n 1 [.ref a_g, .ref a_n_several, .ref a_n_numbers, .int u_n_last, .int u_n_age], oC a_g 2 [.int g_nodes, .int g_made, .int g_living, .int g_age, .ref a_g_oneEnd, .ref a_g_otherEnd, .ref a_g_weights, .ref a_g_alive, .ref a_g_joined], aI E a_g_oneEnd 60 g_oneEnd, aI E a_g_otherEnd 60 g_otherEnd, aZ E a_g_alive 60 g_alive, aI E a_n_several 256 u_n_several, aJ E a_n_numbers 23256 u_n_numbers, oC a_r 7 [.ref a_r_slots, .ref a_r_slotOf, .ref a_r_sets, .ref a_r_later, .ref a_r_laters, .int r_mayLeave, .int r_amount], aI E a_r_slots 4096 r_slots, aI E a_r_slotOf 2584 r_slotOf, aI E a_r_sets 2584 r_sets, aI E a_r_later 256 r_later, aI E a_r_laters 16 r_laters] := by
  refine ofV (cc := cX1_refresh) (maxL := 3) (own := RX1) rfl rfl (by decide) rfl rfl ?_
  intro p e s m below meth c A ls Q S hnm hN hw hA hl0 hE
  have hl : lv_has ls 3 [(0, .ref a_n), (1, .ref a_r)] := hl0 _ (lv_entry [.ref a_n, .ref a_r] (n := 3) (Nat.le_of_ble_eq_true rfl))
  have iX1 : ∀ w ∈ wsX10, w ∈ wsX1_refresh := by decide +kernel
  have iX2 : ∀ w ∈ wsX20, w ∈ wsX1_refresh := by decide +kernel
  have iX7 : ∀ w ∈ wsX70, w ∈ wsX1_refresh := by decide +kernel
  have k21 := S.2.2.2.2 (.fieldLink RX1 21 "PairMatching$Counts" "last" "I") (by decide +kernel)
  have k25 := S.2.2.2.2 (.fieldLink RX1 25 "PairMatching$Counts" "age" "I") (by decide +kernel)
  have k28 := S.2.2.2.2 (.fieldLink RX1 28 "PairMatching$Counts" "graph" "LPairMatching$Graph;") (by decide +kernel)
  have w32 : Cond.fieldLinkNest RX1 32 "PairMatching$Graph" "age" "I" "PairMatching" ∈ nestW := List.mem_of_getElem? (i := 14) rfl
  have w38 : Cond.fieldLinkNest RX1 38 "PairMatching$Rests" "amount" "I" "PairMatching" ∈ nestW := List.mem_of_getElem? (i := 50) rfl
  unfold f_X1_refresh at hf
  refine lv_aload_n S.1 S.2.1 dX1_refresh_0 rfl (lv_at hl 0 rfl) ?_
  refine g_get S hN hw (C := RX1) (T := TX1) (N := 5) (ci := 1) (v := .int n_age) 0 4 iX1 k25 dX1_refresh_1 rfl rfl (by decide) rfl ?_
  refine lv_aload_n S.1 S.2.1 dX1_refresh_4 rfl (lv_at hl 0 rfl) ?_
  refine g_get S hN hw (C := RX1) (T := TX1) (N := 5) (ci := 1) (v := .ref a_g) 0 0 iX1 k28 dX1_refresh_5 rfl rfl (by decide) rfl ?_
  refine g_getN S hN hw (C := RX2) (T := TX2) (N := 9) (ci := 2) (v := .int g_age) 1 3 iX2 w32 dX1_refresh_8 rfl rfl (by decide) rfl ?_
  refine lv_icmp_eq (tgt := 61) S.1 S.2.1 dX1_refresh_11 (by decide) (fun h_1 => ?_) (fun h_1 => ?_)
  · replace hf := if_t h_1 hf
    cases hf
    exact hE _ _ _ _ hw dX1_refresh_61
  · replace hf := if_f h_1 hf
    refine lv_aload_n S.1 S.2.1 dX1_refresh_14 rfl (lv_at hl 0 rfl) ?_
    refine lv_aload_n S.1 S.2.1 dX1_refresh_15 rfl (lv_at hl 0 rfl) ?_
    refine g_get S hN hw (C := RX1) (T := TX1) (N := 5) (ci := 1) (v := .ref a_g) 0 0 iX1 k28 dX1_refresh_16 rfl rfl (by decide) rfl ?_
    refine g_getN S hN hw (C := RX2) (T := TX2) (N := 9) (ci := 2) (v := .int g_age) 1 3 iX2 w32 dX1_refresh_19 rfl rfl (by decide) rfl ?_
    refine g_put S hN hw (C := RX1) (T := TX1) (N := 5) (ci := 1) (ty := .int) (w1 := [oC a_n 1 [.ref a_g, .ref a_n_several, .ref a_n_numbers, .int n_last, .int g_age], oC a_g 2 [.int g_nodes, .int g_made, .int g_living, .int g_age, .ref a_g_oneEnd, .ref a_g_otherEnd, .ref a_g_weights, .ref a_g_alive, .ref a_g_joined], aI E a_g_oneEnd 60 g_oneEnd, aI E a_g_otherEnd 60 g_otherEnd, aZ E a_g_alive 60 g_alive, aI E a_n_several 256 n_several, aJ E a_n_numbers 23256 n_numbers, oC a_r 7 [.ref a_r_slots, .ref a_r_slotOf, .ref a_r_sets, .ref a_r_later, .ref a_r_laters, .int r_mayLeave, .int r_amount], aI E a_r_slots 4096 r_slots, aI E a_r_slotOf 2584 r_slotOf, aI E a_r_sets 2584 r_sets, aI E a_r_later 256 r_later, aI E a_r_laters 16 r_laters]) 0 4 iX1 k25 tyX1 tyX1_ok nmX1 dX1_refresh_22 rfl rfl (by decide) rfl (by decide +kernel) rfl rfl (Nat.le_of_ble_eq_true rfl) rfl (fun H locs hw => ?_)
    refine lv_aload_n S.1 S.2.1 dX1_refresh_25 rfl (lv_at hl 0 rfl) ?_
    obtain ⟨n_several_2, hc_2, hf⟩ := bd_s hf
    refine g_callv (wc := [oC a_n 1 [.ref a_g, .ref a_n_several, .ref a_n_numbers, .int n_last, .int g_age], oC a_g 2 [.int g_nodes, .int g_made, .int g_living, .int g_age, .ref a_g_oneEnd, .ref a_g_otherEnd, .ref a_g_weights, .ref a_g_alive, .ref a_g_joined], aI E a_g_oneEnd 60 g_oneEnd, aI E a_g_otherEnd 60 g_otherEnd, aZ E a_g_alive 60 g_alive, aI E a_n_several 256 n_several]) (wr := [aJ E a_n_numbers 23256 n_numbers, oC a_r 7 [.ref a_r_slots, .ref a_r_slotOf, .ref a_r_sets, .ref a_r_later, .ref a_r_laters, .int r_mayLeave, .int r_amount], aI E a_r_slots 4096 r_slots, aI E a_r_slotOf 2584 r_slotOf, aI E a_r_sets 2584 r_sets, aI E a_r_later 256 r_later, aI E a_r_laters 16 r_laters]) (w1 := [oC a_n 1 [.ref a_g, .ref a_n_several, .ref a_n_numbers, .int n_last, .int g_age], oC a_g 2 [.int g_nodes, .int g_made, .int g_living, .int g_age, .ref a_g_oneEnd, .ref a_g_otherEnd, .ref a_g_weights, .ref a_g_alive, .ref a_g_joined], aI E a_g_oneEnd 60 g_oneEnd, aI E a_g_otherEnd 60 g_otherEnd, aZ E a_g_alive 60 g_alive, aI E a_n_several 256 n_several_2]) (va_runV (As := []) (rest := []) S (c_X1_countArcs l E F g_nodes g_made g_living g_age g_oneEnd a_g_oneEnd g_otherEnd a_g_otherEnd a_g_weights g_alive a_g_alive a_g_joined a_g n_several a_n_several a_n_numbers n_last g_age a_n n_several_2 hc_2 _) (cwV 0 S.2.2.2.2 gX1_refresh_X1_countArcs rfl rfl rfl (by decide +kernel) (rm_le (by omega) (by decide))) (preV (q := (RX1, TX1, 5)) hN hw [0, 1, 2, 3, 4, 5] rfl rfl rfl rfl) rfl rfl hl.1 rfl (lv_room (Nat.le_of_ble_eq_true rfl)) dX1_refresh_26 ⟨Nat.le_refl _, Nat.le_refl _⟩) hw hA [0, 1, 2, 3, 4, 5] [6, 7, 8, 9, 10, 11, 12] rfl rfl rfl (by decide) (fun H locs hw => ?_)
    have hw : Wo E A s [aJ E a_n_numbers 23256 n_numbers, oC a_r 7 [.ref a_r_slots, .ref a_r_slotOf, .ref a_r_sets, .ref a_r_later, .ref a_r_laters, .int r_mayLeave, .int r_amount], aI E a_r_slots 4096 r_slots, aI E a_r_slotOf 2584 r_slotOf, aI E a_r_sets 2584 r_sets, aI E a_r_later 256 r_later, aI E a_r_laters 16 r_laters, oC a_n 1 [.ref a_g, .ref a_n_several, .ref a_n_numbers, .int n_last, .int g_age], oC a_g 2 [.int g_nodes, .int g_made, .int g_living, .int g_age, .ref a_g_oneEnd, .ref a_g_otherEnd, .ref a_g_weights, .ref a_g_alive, .ref a_g_joined], aI E a_g_oneEnd 60 g_oneEnd, aI E a_g_otherEnd 60 g_otherEnd, aZ E a_g_alive 60 g_alive, aI E a_n_several 256 n_several_2] H _ := hw
    refine lv_iconst (v := 0) S.1 S.2.1 dX1_refresh_29 (by decide) ?_
    refine lv_istore_n (lv' := [(2, .int 0), (0, .ref a_n), (1, .ref a_r)]) S.1 S.2.1 dX1_refresh_30 rfl hl (by decide) rfl (fun ls hl => ?_)
    obtain ⟨kk_51_4, ekk_51_4, hf⟩ := jn_s hf
    have hJ_kk_51_4 : ∀ (n_numbers_4 : Nat → Int64) (H : Heap) (locs : List Loc) (ls : Array Slot), Wo E A s [aJ E a_n_numbers 23256 n_numbers_4, oC a_r 7 [.ref a_r_slots, .ref a_r_slotOf, .ref a_r_sets, .ref a_r_later, .ref a_r_laters, .int r_mayLeave, .int r_amount], aI E a_r_slots 4096 r_slots, aI E a_r_slotOf 2584 r_slotOf, aI E a_r_sets 2584 r_sets, aI E a_r_later 256 r_later, aI E a_r_laters 16 r_laters, oC a_n 1 [.ref a_g, .ref a_n_several, .ref a_n_numbers, .int n_last, .int g_age], oC a_g 2 [.int g_nodes, .int g_made, .int g_living, .int g_age, .ref a_g_oneEnd, .ref a_g_otherEnd, .ref a_g_weights, .ref a_g_alive, .ref a_g_joined], aI E a_g_oneEnd 60 g_oneEnd, aI E a_g_otherEnd 60 g_otherEnd, aZ E a_g_alive 60 g_alive, aI E a_n_several 256 n_several_2] H locs → lv_has ls 3 [(0, .ref a_n), (1, .ref a_r)] → kk_51_4 n_numbers_4 = some (u_n_last, u_n_age, u_n_several, u_n_numbers) → W p l e (Rm 3) s m (([.ref a_n, .ref a_r] : List Value).toArray) below meth c H locs 0 0 Q (F0 m 51 ls []) := by
      intro n_numbers_4 H locs ls hw hl hf
      rw [ekk_51_4] at hf
      refine lv_aload_n S.1 S.2.1 dX1_refresh_51 rfl (lv_at hl 0 rfl) ?_
      refine lv_aload_n S.1 S.2.1 dX1_refresh_52 rfl (lv_at hl 1 rfl) ?_
      refine g_getN S hN hw (C := RX7) (T := TX7) (N := 7) (ci := 7) (v := .int r_amount) 1 6 iX7 w38 dX1_refresh_53 rfl rfl (by decide) rfl ?_
      refine lv_iconst (v := 1) S.1 S.2.1 dX1_refresh_56 (by decide) ?_
      refine lv_isub S.1 S.2.1 dX1_refresh_57 ?_
      refine g_put S hN hw (C := RX1) (T := TX1) (N := 5) (ci := 1) (ty := .int) (w1 := [aJ E a_n_numbers 23256 n_numbers_4, oC a_r 7 [.ref a_r_slots, .ref a_r_slotOf, .ref a_r_sets, .ref a_r_later, .ref a_r_laters, .int r_mayLeave, .int r_amount], aI E a_r_slots 4096 r_slots, aI E a_r_slotOf 2584 r_slotOf, aI E a_r_sets 2584 r_sets, aI E a_r_later 256 r_later, aI E a_r_laters 16 r_laters, oC a_n 1 [.ref a_g, .ref a_n_several, .ref a_n_numbers, .int (r_amount - 1), .int g_age], oC a_g 2 [.int g_nodes, .int g_made, .int g_living, .int g_age, .ref a_g_oneEnd, .ref a_g_otherEnd, .ref a_g_weights, .ref a_g_alive, .ref a_g_joined], aI E a_g_oneEnd 60 g_oneEnd, aI E a_g_otherEnd 60 g_otherEnd, aZ E a_g_alive 60 g_alive, aI E a_n_several 256 n_several_2]) 7 3 iX1 k21 tyX1 tyX1_ok nmX1 dX1_refresh_58 rfl rfl (by decide) rfl (by decide +kernel) rfl rfl (Nat.le_of_ble_eq_true rfl) rfl (fun H locs hw => ?_)
      cases hf
      exact hE _ _ _ _ (hw.sub [7, 8, 9, 10, 11, 12, 0, 1, 2, 3, 4, 5, 6] rfl rfl) dX1_refresh_61
    have hL_31_10 : ∀ (n : Nat) (v2_6 : Int32) (n_numbers_7 : Nat → Int64) (H : Heap) (locs : List Loc) (ls : Array Slot), Wo E A s [aJ E a_n_numbers 23256 n_numbers_7, oC a_r 7 [.ref a_r_slots, .ref a_r_slotOf, .ref a_r_sets, .ref a_r_later, .ref a_r_laters, .int r_mayLeave, .int r_amount], aI E a_r_slots 4096 r_slots, aI E a_r_slotOf 2584 r_slotOf, aI E a_r_sets 2584 r_sets, aI E a_r_later 256 r_later, aI E a_r_laters 16 r_laters, oC a_n 1 [.ref a_g, .ref a_n_several, .ref a_n_numbers, .int n_last, .int g_age], oC a_g 2 [.int g_nodes, .int g_made, .int g_living, .int g_age, .ref a_g_oneEnd, .ref a_g_otherEnd, .ref a_g_weights, .ref a_g_alive, .ref a_g_joined], aI E a_g_oneEnd 60 g_oneEnd, aI E a_g_otherEnd 60 g_otherEnd, aZ E a_g_alive 60 g_alive, aI E a_n_several 256 n_several_2] H locs → lv_has ls 3 [(0, .ref a_n), (1, .ref a_r), (2, .int v2_6)] → f_X1_refresh_L31 F r_slots r_slotOf r_sets r_later r_laters r_amount n_several_2 kk_51_4 n v2_6 n_numbers_7 = some (u_n_last, u_n_age, u_n_several, u_n_numbers) → W p l e (Rm 3) s m (([.ref a_n, .ref a_r] : List Value).toArray) below meth c H locs 0 0 Q (F0 m 31 ls []) := by
      intro n
      induction n with
      | zero => intro v2_6 n_numbers_7 H locs ls hw hl hf; unfold f_X1_refresh_L31 at hf; cases hf
      | succ n ih =>
        intro v2_6 n_numbers_7 H locs ls hw hl hf
        unfold f_X1_refresh_L31 at hf
        refine lv_iload_n S.1 S.2.1 dX1_refresh_31 rfl (lv_at hl 2 rfl) ?_
        refine lv_aload_n S.1 S.2.1 dX1_refresh_32 rfl (lv_at hl 1 rfl) ?_
        refine g_getN S hN hw (C := RX7) (T := TX7) (N := 7) (ci := 7) (v := .int r_amount) 1 6 iX7 w38 dX1_refresh_33 rfl rfl (by decide) rfl ?_
        refine lv_icmp_ge (tgt := 51) S.1 S.2.1 dX1_refresh_36 (by decide) (fun h_8 => ?_) (fun h_8 => ?_)
        · replace hf := if_t h_8 hf
          exact hJ_kk_51_4 n_numbers_7 _ _ _ hw (lv_sub hl [0, 1] rfl) hf
        · replace hf := if_f h_8 hf
          refine lv_aload_n S.1 S.2.1 dX1_refresh_39 rfl (lv_at hl 0 rfl) ?_
          refine lv_aload_n S.1 S.2.1 dX1_refresh_40 rfl (lv_at hl 1 rfl) ?_
          refine lv_iload_n S.1 S.2.1 dX1_refresh_41 rfl (lv_at hl 2 rfl) ?_
          obtain ⟨n_numbers_9, hc_9, hf⟩ := bd_s hf
          refine g_callv (wc := [oC a_n 1 [.ref a_g, .ref a_n_several, .ref a_n_numbers, .int n_last, .int g_age], aI E a_n_several 256 n_several_2, aJ E a_n_numbers 23256 n_numbers_7, oC a_r 7 [.ref a_r_slots, .ref a_r_slotOf, .ref a_r_sets, .ref a_r_later, .ref a_r_laters, .int r_mayLeave, .int r_amount], aI E a_r_slots 4096 r_slots, aI E a_r_slotOf 2584 r_slotOf, aI E a_r_sets 2584 r_sets, aI E a_r_later 256 r_later, aI E a_r_laters 16 r_laters]) (wr := [oC a_g 2 [.int g_nodes, .int g_made, .int g_living, .int g_age, .ref a_g_oneEnd, .ref a_g_otherEnd, .ref a_g_weights, .ref a_g_alive, .ref a_g_joined], aI E a_g_oneEnd 60 g_oneEnd, aI E a_g_otherEnd 60 g_otherEnd, aZ E a_g_alive 60 g_alive]) (w1 := [oC a_n 1 [.ref a_g, .ref a_n_several, .ref a_n_numbers, .int n_last, .int g_age], aI E a_n_several 256 n_several_2, aJ E a_n_numbers 23256 n_numbers_9, oC a_r 7 [.ref a_r_slots, .ref a_r_slotOf, .ref a_r_sets, .ref a_r_later, .ref a_r_laters, .int r_mayLeave, .int r_amount], aI E a_r_slots 4096 r_slots, aI E a_r_slotOf 2584 r_slotOf, aI E a_r_sets 2584 r_sets, aI E a_r_later 256 r_later, aI E a_r_laters 16 r_laters]) (va_runV (As := [.ref a_r, .int v2_6]) (rest := []) S (c_X1_countFor l E F a_g n_several_2 a_n_several n_numbers_7 a_n_numbers n_last g_age a_n r_slots a_r_slots r_slotOf a_r_slotOf r_sets a_r_sets r_later a_r_later r_laters a_r_laters r_mayLeave r_amount a_r v2_6 n_numbers_9 hc_9 _) (cwV 2 S.2.2.2.2 gX1_refresh_X1_countFor rfl rfl rfl (by decide +kernel) (rm_le (by omega) (by decide))) (preV (q := (RX1, TX1, 5)) hN hw [7, 12, 0, 1, 2, 3, 4, 5, 6] rfl rfl rfl rfl) rfl rfl hl.1 rfl (lv_room (Nat.le_of_ble_eq_true rfl)) dX1_refresh_42 ⟨Nat.le_refl _, Nat.le_refl _⟩) hw hA [7, 12, 0, 1, 2, 3, 4, 5, 6] [8, 9, 10, 11] rfl rfl rfl (by decide) (fun H locs hw => ?_)
          have hw : Wo E A s [oC a_g 2 [.int g_nodes, .int g_made, .int g_living, .int g_age, .ref a_g_oneEnd, .ref a_g_otherEnd, .ref a_g_weights, .ref a_g_alive, .ref a_g_joined], aI E a_g_oneEnd 60 g_oneEnd, aI E a_g_otherEnd 60 g_otherEnd, aZ E a_g_alive 60 g_alive, oC a_n 1 [.ref a_g, .ref a_n_several, .ref a_n_numbers, .int n_last, .int g_age], aI E a_n_several 256 n_several_2, aJ E a_n_numbers 23256 n_numbers_9, oC a_r 7 [.ref a_r_slots, .ref a_r_slotOf, .ref a_r_sets, .ref a_r_later, .ref a_r_laters, .int r_mayLeave, .int r_amount], aI E a_r_slots 4096 r_slots, aI E a_r_slotOf 2584 r_slotOf, aI E a_r_sets 2584 r_sets, aI E a_r_later 256 r_later, aI E a_r_laters 16 r_laters] H _ := hw
          refine lv_iinc (v := (v2_6 + 1)) (lv' := [(2, .int (v2_6 + 1)), (0, .ref a_n), (1, .ref a_r)]) S.1 S.2.1 dX1_refresh_45 hl (k := 2) rfl rfl (by decide) rfl (fun ls hl => ?_)
          refine lv_goto (tgt := 31) S.1 S.2.1 dX1_refresh_48 (by decide) ?_
          exact ih (v2_6 + 1) n_numbers_9 _ _ _ (hw.sub [6, 7, 8, 9, 10, 11, 12, 4, 0, 1, 2, 3, 5] rfl rfl) (lv_sub hl [1, 2, 0] rfl) hf
    exact hL_31_10 F 0 n_numbers _ _ _ hw (lv_sub hl [1, 2, 0] rfl) hf
def f_X1_ofSize (p1 : Int32) (n_numbers : Nat → Int64) (n_last : Int32) : Option (Int64) :=
  (if n_last < 0 then some (0 : Int64) else (if p1 < 0 then some (0 : Int64) else (if 9 ≤ p1 then some (0 : Int64) else rd 23256 n_numbers ((n_last * 9) + p1) (fun y_4 => some y_4))))
set_option maxHeartbeats 4000000 in
set_option maxRecDepth 100000 in
theorem c_X1_ofSize (l : Launch) (E : Ev) (a_g : Nat) (a_n_several : Nat) (n_numbers : Nat → Int64) (a_n_numbers : Nat) (n_last : Int32) (n_age : Int32) (a_n : Nat) (p1 : Int32) (ro : Int64) (hf : f_X1_ofSize p1 n_numbers n_last = some ro) :
    CtL l yX1_ofSize wsX1_ofSize (Rm 0) E [.ref a_n, .int p1] [oC a_n 1 [.ref a_g, .ref a_n_several, .ref a_n_numbers, .int n_last, .int n_age], aJ E a_n_numbers 23256 n_numbers] ro [oC a_n 1 [.ref a_g, .ref a_n_several, .ref a_n_numbers, .int n_last, .int n_age], aJ E a_n_numbers 23256 n_numbers] := by
  refine ofL (cc := cX1_ofSize) (maxL := 2) (own := RX1) rfl rfl (by decide) rfl rfl ?_
  intro p e s m below meth c A ls Q S hnm hN hw hA hl0 hE
  have hl : lv_has ls 2 [(0, .ref a_n), (1, .int p1)] := hl0 _ (lv_entry [.ref a_n, .int p1] (n := 2) (Nat.le_of_ble_eq_true rfl))
  have iX1 : ∀ w ∈ wsX10, w ∈ wsX1_ofSize := by decide +kernel
  have k17 := S.2.2.2.2 (.fieldLink RX1 17 "PairMatching$Counts" "numbers" "[J") (by decide +kernel)
  have k21 := S.2.2.2.2 (.fieldLink RX1 21 "PairMatching$Counts" "last" "I") (by decide +kernel)
  unfold f_X1_ofSize at hf
  refine lv_aload_n S.1 S.2.1 dX1_ofSize_0 rfl (lv_at hl 0 rfl) ?_
  refine g_get S hN hw (C := RX1) (T := TX1) (N := 5) (ci := 1) (v := .int n_last) 0 3 iX1 k21 dX1_ofSize_1 rfl rfl (by decide) rfl ?_
  refine lv_if_lt (tgt := 34) S.1 S.2.1 dX1_ofSize_4 (by decide) (fun h_1 => ?_) (fun h_1 => ?_)
  · replace hf := if_t h_1 hf
    refine lv_lconst (v := 0) S.1 S.2.1 dX1_ofSize_34 (by decide) ?_
    cases hf
    exact hE _ _ _ _ hw dX1_ofSize_35
  · replace hf := if_f h_1 hf
    refine lv_iload_n S.1 S.2.1 dX1_ofSize_7 rfl (lv_at hl 1 rfl) ?_
    refine lv_if_lt (tgt := 34) S.1 S.2.1 dX1_ofSize_8 (by decide) (fun h_2 => ?_) (fun h_2 => ?_)
    · replace hf := if_t h_2 hf
      refine lv_lconst (v := 0) S.1 S.2.1 dX1_ofSize_34 (by decide) ?_
      cases hf
      exact hE _ _ _ _ hw dX1_ofSize_35
    · replace hf := if_f h_2 hf
      refine lv_iload_n S.1 S.2.1 dX1_ofSize_11 rfl (lv_at hl 1 rfl) ?_
      refine lv_bipush (v := 9) S.1 S.2.1 dX1_ofSize_12 (by decide) ?_
      refine lv_icmp_ge (tgt := 34) S.1 S.2.1 dX1_ofSize_14 (by decide) (fun h_3 => ?_) (fun h_3 => ?_)
      · replace hf := if_t h_3 hf
        refine lv_lconst (v := 0) S.1 S.2.1 dX1_ofSize_34 (by decide) ?_
        cases hf
        exact hE _ _ _ _ hw dX1_ofSize_35
      · replace hf := if_f h_3 hf
        refine lv_aload_n S.1 S.2.1 dX1_ofSize_17 rfl (lv_at hl 0 rfl) ?_
        refine g_get S hN hw (C := RX1) (T := TX1) (N := 5) (ci := 1) (v := .ref a_n_numbers) 0 2 iX1 k17 dX1_ofSize_18 rfl rfl (by decide) rfl ?_
        refine lv_aload_n S.1 S.2.1 dX1_ofSize_21 rfl (lv_at hl 0 rfl) ?_
        refine g_get S hN hw (C := RX1) (T := TX1) (N := 5) (ci := 1) (v := .int n_last) 0 3 iX1 k21 dX1_ofSize_22 rfl rfl (by decide) rfl ?_
        refine lv_bipush (v := 9) S.1 S.2.1 dX1_ofSize_25 (by decide) ?_
        refine lv_imul S.1 S.2.1 dX1_ofSize_27 ?_
        refine lv_iload_n S.1 S.2.1 dX1_ofSize_28 rfl (lv_at hl 1 rfl) ?_
        refine lv_iadd S.1 S.2.1 dX1_ofSize_29 ?_
        obtain ⟨hi_3, hf⟩ := rd_s hf
        refine g_lald (n := 23256) (f := n_numbers) S hN hw 1 hi_3 dX1_ofSize_30 rfl ?_
        generalize n_numbers (((n_last * 9) + p1) : Int32).toNatClampNeg = y_4 at hf ⊢
        refine lv_goto (tgt := 35) S.1 S.2.1 dX1_ofSize_31 (by decide) ?_
        cases hf
        exact hE _ _ _ _ hw dX1_ofSize_35
def f_X2_isNode (p1 : Int32) (g_nodes : Int32) : Int32 :=
  (if p1 < 0 then 0 else (if g_nodes ≤ p1 then 0 else 1))
set_option maxHeartbeats 4000000 in
set_option maxRecDepth 100000 in
theorem c_X2_isNode (l : Launch) (E : Ev) (g_nodes : Int32) (g_made : Int32) (g_living : Int32) (g_age : Int32) (a_g_oneEnd : Nat) (a_g_otherEnd : Nat) (a_g_weights : Nat) (a_g_alive : Nat) (a_g_joined : Nat) (a_g : Nat) (p1 : Int32) (ro : Int32) (hf : f_X2_isNode p1 g_nodes = ro) :
    CtI l yX2_isNode wsX2_isNode (Rm 0) E [.ref a_g, .int p1] [oC a_g 2 [.int g_nodes, .int g_made, .int g_living, .int g_age, .ref a_g_oneEnd, .ref a_g_otherEnd, .ref a_g_weights, .ref a_g_alive, .ref a_g_joined]] ro [oC a_g 2 [.int g_nodes, .int g_made, .int g_living, .int g_age, .ref a_g_oneEnd, .ref a_g_otherEnd, .ref a_g_weights, .ref a_g_alive, .ref a_g_joined]] := by
  refine ofZ (cc := cX2_isNode) (maxL := 2) (own := RX2) rfl rfl (by decide) rfl rfl ?_
  intro p e s m below meth c A ls Q S hnm hN hw hA hl0 hE
  have hl : lv_has ls 2 [(0, .ref a_g), (1, .int p1)] := hl0 _ (lv_entry [.ref a_g, .int p1] (n := 2) (Nat.le_of_ble_eq_true rfl))
  have iX2 : ∀ w ∈ wsX20, w ∈ wsX2_isNode := by decide +kernel
  have k28 := S.2.2.2.2 (.fieldLink RX2 28 "PairMatching$Graph" "nodes" "I") (by decide +kernel)
  unfold f_X2_isNode at hf
  refine lv_iload_n S.1 S.2.1 dX2_isNode_0 rfl (lv_at hl 1 rfl) ?_
  refine lv_if_lt (tgt := 16) S.1 S.2.1 dX2_isNode_1 (by decide) (fun h_1 => ?_) (fun h_1 => ?_)
  · replace hf := if_t h_1 hf
    refine lv_iconst (v := 0) S.1 S.2.1 dX2_isNode_16 (by decide) ?_
    cases hf
    exact hE _ _ _ _ hw dX2_isNode_17 (by decide)
  · replace hf := if_f h_1 hf
    refine lv_iload_n S.1 S.2.1 dX2_isNode_4 rfl (lv_at hl 1 rfl) ?_
    refine lv_aload_n S.1 S.2.1 dX2_isNode_5 rfl (lv_at hl 0 rfl) ?_
    refine g_get S hN hw (C := RX2) (T := TX2) (N := 9) (ci := 2) (v := .int g_nodes) 0 0 iX2 k28 dX2_isNode_6 rfl rfl (by decide) rfl ?_
    refine lv_icmp_ge (tgt := 16) S.1 S.2.1 dX2_isNode_9 (by decide) (fun h_2 => ?_) (fun h_2 => ?_)
    · replace hf := if_t h_2 hf
      refine lv_iconst (v := 0) S.1 S.2.1 dX2_isNode_16 (by decide) ?_
      cases hf
      exact hE _ _ _ _ hw dX2_isNode_17 (by decide)
    · replace hf := if_f h_2 hf
      refine lv_iconst (v := 1) S.1 S.2.1 dX2_isNode_12 (by decide) ?_
      refine lv_goto (tgt := 17) S.1 S.2.1 dX2_isNode_13 (by decide) ?_
      cases hf
      exact hE _ _ _ _ hw dX2_isNode_17 (by decide)
def f_X2_isArc (p1 : Int32) (g_made : Int32) (g_alive : Nat → Int32) : Option (Int32) :=
  (if p1 < 0 then some 0 else (if g_made ≤ p1 then some 0 else rd 60 g_alive p1 (fun y_3 => (if y_3 = 0 then some 0 else some 1))))
set_option maxHeartbeats 4000000 in
set_option maxRecDepth 100000 in
theorem c_X2_isArc (l : Launch) (E : Ev) (g_nodes : Int32) (g_made : Int32) (g_living : Int32) (g_age : Int32) (a_g_oneEnd : Nat) (a_g_otherEnd : Nat) (a_g_weights : Nat) (g_alive : Nat → Int32) (a_g_alive : Nat) (a_g_joined : Nat) (a_g : Nat) (p1 : Int32) (ro : Int32) (hf : f_X2_isArc p1 g_made g_alive = some ro) :
    CtI l yX2_isArc wsX2_isArc (Rm 0) E [.ref a_g, .int p1] [oC a_g 2 [.int g_nodes, .int g_made, .int g_living, .int g_age, .ref a_g_oneEnd, .ref a_g_otherEnd, .ref a_g_weights, .ref a_g_alive, .ref a_g_joined], aZ E a_g_alive 60 g_alive] ro [oC a_g 2 [.int g_nodes, .int g_made, .int g_living, .int g_age, .ref a_g_oneEnd, .ref a_g_otherEnd, .ref a_g_weights, .ref a_g_alive, .ref a_g_joined], aZ E a_g_alive 60 g_alive] := by
  refine ofZ (cc := cX2_isArc) (maxL := 2) (own := RX2) rfl rfl (by decide) rfl rfl ?_
  intro p e s m below meth c A ls Q S hnm hN hw hA hl0 hE
  have hl : lv_has ls 2 [(0, .ref a_g), (1, .int p1)] := hl0 _ (lv_entry [.ref a_g, .int p1] (n := 2) (Nat.le_of_ble_eq_true rfl))
  have iX2 : ∀ w ∈ wsX20, w ∈ wsX2_isArc := by decide +kernel
  have k21 := S.2.2.2.2 (.fieldLink RX2 21 "PairMatching$Graph" "alive" "[Z") (by decide +kernel)
  have k32 := S.2.2.2.2 (.fieldLink RX2 32 "PairMatching$Graph" "made" "I") (by decide +kernel)
  unfold f_X2_isArc at hf
  refine lv_iload_n S.1 S.2.1 dX2_isArc_0 rfl (lv_at hl 1 rfl) ?_
  refine lv_if_lt (tgt := 25) S.1 S.2.1 dX2_isArc_1 (by decide) (fun h_1 => ?_) (fun h_1 => ?_)
  · replace hf := if_t h_1 hf
    refine lv_iconst (v := 0) S.1 S.2.1 dX2_isArc_25 (by decide) ?_
    cases hf
    exact hE _ _ _ _ hw dX2_isArc_26 (by decide)
  · replace hf := if_f h_1 hf
    refine lv_iload_n S.1 S.2.1 dX2_isArc_4 rfl (lv_at hl 1 rfl) ?_
    refine lv_aload_n S.1 S.2.1 dX2_isArc_5 rfl (lv_at hl 0 rfl) ?_
    refine g_get S hN hw (C := RX2) (T := TX2) (N := 9) (ci := 2) (v := .int g_made) 0 1 iX2 k32 dX2_isArc_6 rfl rfl (by decide) rfl ?_
    refine lv_icmp_ge (tgt := 25) S.1 S.2.1 dX2_isArc_9 (by decide) (fun h_2 => ?_) (fun h_2 => ?_)
    · replace hf := if_t h_2 hf
      refine lv_iconst (v := 0) S.1 S.2.1 dX2_isArc_25 (by decide) ?_
      cases hf
      exact hE _ _ _ _ hw dX2_isArc_26 (by decide)
    · replace hf := if_f h_2 hf
      refine lv_aload_n S.1 S.2.1 dX2_isArc_12 rfl (lv_at hl 0 rfl) ?_
      refine g_get S hN hw (C := RX2) (T := TX2) (N := 9) (ci := 2) (v := .ref a_g_alive) 0 7 iX2 k21 dX2_isArc_13 rfl rfl (by decide) rfl ?_
      refine lv_iload_n S.1 S.2.1 dX2_isArc_16 rfl (lv_at hl 1 rfl) ?_
      obtain ⟨hi_2, hf⟩ := rd_s hf
      refine g_zald (n := 60) (f := g_alive) S hN hw 1 hi_2 dX2_isArc_17 rfl ?_
      generalize g_alive (p1 : Int32).toNatClampNeg = y_3 at hf ⊢
      refine lv_if_eq (tgt := 25) S.1 S.2.1 dX2_isArc_18 (by decide) (fun h_4 => ?_) (fun h_4 => ?_)
      · replace hf := if_t h_4 hf
        refine lv_iconst (v := 0) S.1 S.2.1 dX2_isArc_25 (by decide) ?_
        cases hf
        exact hE _ _ _ _ hw dX2_isArc_26 (by decide)
      · replace hf := if_f h_4 hf
        refine lv_iconst (v := 1) S.1 S.2.1 dX2_isArc_21 (by decide) ?_
        refine lv_goto (tgt := 26) S.1 S.2.1 dX2_isArc_22 (by decide) ?_
        cases hf
        exact hE _ _ _ _ hw dX2_isArc_26 (by decide)
def f_X2_allNodes (g_nodes : Int32) : Int32 :=
  (((1 : Int32) <<< (g_nodes &&& 31)) - 1)
set_option maxHeartbeats 4000000 in
set_option maxRecDepth 100000 in
theorem c_X2_allNodes (l : Launch) (E : Ev) (g_nodes : Int32) (g_made : Int32) (g_living : Int32) (g_age : Int32) (a_g_oneEnd : Nat) (a_g_otherEnd : Nat) (a_g_weights : Nat) (a_g_alive : Nat) (a_g_joined : Nat) (a_g : Nat) (ro : Int32) (hf : f_X2_allNodes g_nodes = ro) :
    CtI l yX2_allNodes wsX2_allNodes (Rm 0) E [.ref a_g] [oC a_g 2 [.int g_nodes, .int g_made, .int g_living, .int g_age, .ref a_g_oneEnd, .ref a_g_otherEnd, .ref a_g_weights, .ref a_g_alive, .ref a_g_joined]] ro [oC a_g 2 [.int g_nodes, .int g_made, .int g_living, .int g_age, .ref a_g_oneEnd, .ref a_g_otherEnd, .ref a_g_weights, .ref a_g_alive, .ref a_g_joined]] := by
  refine ofI (cc := cX2_allNodes) (maxL := 1) (own := RX2) rfl rfl (by decide) rfl rfl ?_
  intro p e s m below meth c A ls Q S hnm hN hw hA hl0 hE
  have hl : lv_has ls 1 [(0, .ref a_g)] := hl0 _ (lv_entry [.ref a_g] (n := 1) (Nat.le_of_ble_eq_true rfl))
  have iX2 : ∀ w ∈ wsX20, w ∈ wsX2_allNodes := by decide +kernel
  have k28 := S.2.2.2.2 (.fieldLink RX2 28 "PairMatching$Graph" "nodes" "I") (by decide +kernel)
  unfold f_X2_allNodes at hf
  refine lv_iconst (v := 1) S.1 S.2.1 dX2_allNodes_0 (by decide) ?_
  refine lv_aload_n S.1 S.2.1 dX2_allNodes_1 rfl (lv_at hl 0 rfl) ?_
  refine g_get S hN hw (C := RX2) (T := TX2) (N := 9) (ci := 2) (v := .int g_nodes) 0 0 iX2 k28 dX2_allNodes_2 rfl rfl (by decide) rfl ?_
  refine lv_ishl S.1 S.2.1 dX2_allNodes_5 ?_
  refine lv_iconst (v := 1) S.1 S.2.1 dX2_allNodes_6 (by decide) ?_
  refine lv_isub S.1 S.2.1 dX2_allNodes_7 ?_
  cases hf
  exact hE _ _ _ _ hw dX2_allNodes_8
def f_X2_addNode (g_nodes : Int32) (g_age : Int32) : Option (Int32 × Int32 × Int32) :=
  some (((g_nodes + 1) - 1), (g_nodes + 1), (g_age + 1))
set_option maxHeartbeats 4000000 in
set_option maxRecDepth 100000 in
theorem c_X2_addNode (l : Launch) (E : Ev) (g_nodes : Int32) (g_made : Int32) (g_living : Int32) (g_age : Int32) (a_g_oneEnd : Nat) (a_g_otherEnd : Nat) (a_g_weights : Nat) (a_g_alive : Nat) (a_g_joined : Nat) (a_g : Nat) (ro : Int32) (u_g_nodes : Int32) (u_g_age : Int32) (hf : f_X2_addNode g_nodes g_age = some (ro, u_g_nodes, u_g_age)) :
    CtI l yX2_addNode wsX2_addNode (Rm 0) E [.ref a_g] [oC a_g 2 [.int g_nodes, .int g_made, .int g_living, .int g_age, .ref a_g_oneEnd, .ref a_g_otherEnd, .ref a_g_weights, .ref a_g_alive, .ref a_g_joined]] ro [oC a_g 2 [.int u_g_nodes, .int g_made, .int g_living, .int u_g_age, .ref a_g_oneEnd, .ref a_g_otherEnd, .ref a_g_weights, .ref a_g_alive, .ref a_g_joined]] := by
  refine ofI (cc := cX2_addNode) (maxL := 1) (own := RX2) rfl rfl (by decide) rfl rfl ?_
  intro p e s m below meth c A ls Q S hnm hN hw hA hl0 hE
  have hl : lv_has ls 1 [(0, .ref a_g)] := hl0 _ (lv_entry [.ref a_g] (n := 1) (Nat.le_of_ble_eq_true rfl))
  have iX2 : ∀ w ∈ wsX20, w ∈ wsX2_addNode := by decide +kernel
  have k28 := S.2.2.2.2 (.fieldLink RX2 28 "PairMatching$Graph" "nodes" "I") (by decide +kernel)
  have k35 := S.2.2.2.2 (.fieldLink RX2 35 "PairMatching$Graph" "age" "I") (by decide +kernel)
  unfold f_X2_addNode at hf
  refine lv_aload_n S.1 S.2.1 dX2_addNode_0 rfl (lv_at hl 0 rfl) ?_
  refine lv_dup S.1 S.2.1 dX2_addNode_1 rfl ?_
  refine g_get S hN hw (C := RX2) (T := TX2) (N := 9) (ci := 2) (v := .int g_age) 0 3 iX2 k35 dX2_addNode_2 rfl rfl (by decide) rfl ?_
  refine lv_iconst (v := 1) S.1 S.2.1 dX2_addNode_5 (by decide) ?_
  refine lv_iadd S.1 S.2.1 dX2_addNode_6 ?_
  refine g_put S hN hw (C := RX2) (T := TX2) (N := 9) (ci := 2) (ty := .int) (w1 := [oC a_g 2 [.int g_nodes, .int g_made, .int g_living, .int (g_age + 1), .ref a_g_oneEnd, .ref a_g_otherEnd, .ref a_g_weights, .ref a_g_alive, .ref a_g_joined]]) 0 3 iX2 k35 tyX2 tyX2_ok nmX2 dX2_addNode_7 rfl rfl (by decide) rfl (by decide +kernel) rfl rfl (Nat.le_of_ble_eq_true rfl) rfl (fun H locs hw => ?_)
  refine lv_aload_n S.1 S.2.1 dX2_addNode_10 rfl (lv_at hl 0 rfl) ?_
  refine lv_dup S.1 S.2.1 dX2_addNode_11 rfl ?_
  refine g_get S hN hw (C := RX2) (T := TX2) (N := 9) (ci := 2) (v := .int g_nodes) 0 0 iX2 k28 dX2_addNode_12 rfl rfl (by decide) rfl ?_
  refine lv_iconst (v := 1) S.1 S.2.1 dX2_addNode_15 (by decide) ?_
  refine lv_iadd S.1 S.2.1 dX2_addNode_16 ?_
  refine g_put S hN hw (C := RX2) (T := TX2) (N := 9) (ci := 2) (ty := .int) (w1 := [oC a_g 2 [.int (g_nodes + 1), .int g_made, .int g_living, .int (g_age + 1), .ref a_g_oneEnd, .ref a_g_otherEnd, .ref a_g_weights, .ref a_g_alive, .ref a_g_joined]]) 0 0 iX2 k28 tyX2 tyX2_ok nmX2 dX2_addNode_17 rfl rfl (by decide) rfl (by decide +kernel) rfl rfl (Nat.le_of_ble_eq_true rfl) rfl (fun H locs hw => ?_)
  refine lv_aload_n S.1 S.2.1 dX2_addNode_20 rfl (lv_at hl 0 rfl) ?_
  refine g_get S hN hw (C := RX2) (T := TX2) (N := 9) (ci := 2) (v := .int (g_nodes + 1)) 0 0 iX2 k28 dX2_addNode_21 rfl rfl (by decide) rfl ?_
  refine lv_iconst (v := 1) S.1 S.2.1 dX2_addNode_24 (by decide) ?_
  refine lv_isub S.1 S.2.1 dX2_addNode_25 ?_
  cases hf
  exact hE _ _ _ _ hw dX2_addNode_26
def f_X2_link (p1 : Int32) (g_oneEnd : Nat → Int32) (g_otherEnd : Nat → Int32) (g_joined : Nat → Int32) : Option ((Nat → Int32)) :=
  rd 60 g_oneEnd p1 (fun y_1 => rd 60 g_otherEnd p1 (fun y_2 => rd 16 g_joined y_1 (fun y_3 => wr 16 g_joined y_1 (y_3 ||| ((1 : Int32) <<< (y_2 &&& 31))) (fun g_joined_4 => rd 16 g_joined_4 y_2 (fun y_5 => wr 16 g_joined_4 y_2 (y_5 ||| ((1 : Int32) <<< (y_1 &&& 31))) (fun g_joined_6 => some g_joined_6))))))
set_option maxHeartbeats 4000000 in
set_option maxRecDepth 100000 in
theorem c_X2_link (l : Launch) (E : Ev) (g_nodes : Int32) (g_made : Int32) (g_living : Int32) (g_age : Int32) (g_oneEnd : Nat → Int32) (a_g_oneEnd : Nat) (g_otherEnd : Nat → Int32) (a_g_otherEnd : Nat) (a_g_weights : Nat) (a_g_alive : Nat) (g_joined : Nat → Int32) (a_g_joined : Nat) (a_g : Nat) (p1 : Int32) (u_g_joined : Nat → Int32) (hf : f_X2_link p1 g_oneEnd g_otherEnd g_joined = some u_g_joined) :
    CtV l yX2_link wsX2_link (Rm 0) E [.ref a_g, .int p1] [oC a_g 2 [.int g_nodes, .int g_made, .int g_living, .int g_age, .ref a_g_oneEnd, .ref a_g_otherEnd, .ref a_g_weights, .ref a_g_alive, .ref a_g_joined], aI E a_g_oneEnd 60 g_oneEnd, aI E a_g_otherEnd 60 g_otherEnd, aI E a_g_joined 16 g_joined] [oC a_g 2 [.int g_nodes, .int g_made, .int g_living, .int g_age, .ref a_g_oneEnd, .ref a_g_otherEnd, .ref a_g_weights, .ref a_g_alive, .ref a_g_joined], aI E a_g_oneEnd 60 g_oneEnd, aI E a_g_otherEnd 60 g_otherEnd, aI E a_g_joined 16 u_g_joined] := by
  refine ofV (cc := cX2_link) (maxL := 4) (own := RX2) rfl rfl (by decide) rfl rfl ?_
  intro p e s m below meth c A ls Q S hnm hN hw hA hl0 hE
  have hl : lv_has ls 4 [(0, .ref a_g), (1, .int p1)] := hl0 _ (lv_entry [.ref a_g, .int p1] (n := 4) (Nat.le_of_ble_eq_true rfl))
  have iX2 : ∀ w ∈ wsX20, w ∈ wsX2_link := by decide +kernel
  have k15 := S.2.2.2.2 (.fieldLink RX2 15 "PairMatching$Graph" "otherEnd" "[I") (by decide +kernel)
  have k25 := S.2.2.2.2 (.fieldLink RX2 25 "PairMatching$Graph" "joined" "[I") (by decide +kernel)
  have k9 := S.2.2.2.2 (.fieldLink RX2 9 "PairMatching$Graph" "oneEnd" "[I") (by decide +kernel)
  unfold f_X2_link at hf
  refine lv_aload_n S.1 S.2.1 dX2_link_0 rfl (lv_at hl 0 rfl) ?_
  refine g_get S hN hw (C := RX2) (T := TX2) (N := 9) (ci := 2) (v := .ref a_g_oneEnd) 0 4 iX2 k9 dX2_link_1 rfl rfl (by decide) rfl ?_
  refine lv_iload_n S.1 S.2.1 dX2_link_4 rfl (lv_at hl 1 rfl) ?_
  obtain ⟨hi_0, hf⟩ := rd_s hf
  refine g_iald (n := 60) (f := g_oneEnd) S hN hw 1 hi_0 dX2_link_5 rfl ?_
  generalize g_oneEnd (p1 : Int32).toNatClampNeg = y_1 at hf ⊢
  refine lv_istore_n (lv' := [(2, .int y_1), (0, .ref a_g), (1, .int p1)]) S.1 S.2.1 dX2_link_6 rfl hl (by decide) rfl (fun ls hl => ?_)
  refine lv_aload_n S.1 S.2.1 dX2_link_7 rfl (lv_at hl 1 rfl) ?_
  refine g_get S hN hw (C := RX2) (T := TX2) (N := 9) (ci := 2) (v := .ref a_g_otherEnd) 0 5 iX2 k15 dX2_link_8 rfl rfl (by decide) rfl ?_
  refine lv_iload_n S.1 S.2.1 dX2_link_11 rfl (lv_at hl 2 rfl) ?_
  obtain ⟨hi_1, hf⟩ := rd_s hf
  refine g_iald (n := 60) (f := g_otherEnd) S hN hw 2 hi_1 dX2_link_12 rfl ?_
  generalize g_otherEnd (p1 : Int32).toNatClampNeg = y_2 at hf ⊢
  refine lv_istore_n (lv' := [(3, .int y_2), (2, .int y_1), (0, .ref a_g), (1, .int p1)]) S.1 S.2.1 dX2_link_13 rfl hl (by decide) rfl (fun ls hl => ?_)
  refine lv_aload_n S.1 S.2.1 dX2_link_14 rfl (lv_at hl 2 rfl) ?_
  refine g_get S hN hw (C := RX2) (T := TX2) (N := 9) (ci := 2) (v := .ref a_g_joined) 0 8 iX2 k25 dX2_link_15 rfl rfl (by decide) rfl ?_
  refine lv_iload_n S.1 S.2.1 dX2_link_18 rfl (lv_at hl 1 rfl) ?_
  refine lv_dup2_11 S.1 S.2.1 dX2_link_19 rfl rfl ?_
  obtain ⟨hi_2, hf⟩ := rd_s hf
  refine g_iald (n := 16) (f := g_joined) S hN hw 3 hi_2 dX2_link_20 rfl ?_
  generalize g_joined (y_1 : Int32).toNatClampNeg = y_3 at hf ⊢
  refine lv_iconst (v := 1) S.1 S.2.1 dX2_link_21 (by decide) ?_
  refine lv_iload_n S.1 S.2.1 dX2_link_22 rfl (lv_at hl 0 rfl) ?_
  refine lv_ishl S.1 S.2.1 dX2_link_23 ?_
  refine lv_ior S.1 S.2.1 dX2_link_24 ?_
  obtain ⟨hi_3, hf⟩ := wr_s hf
  refine g_iast (n := 16) (f := g_joined) (w1 := [oC a_g 2 [.int g_nodes, .int g_made, .int g_living, .int g_age, .ref a_g_oneEnd, .ref a_g_otherEnd, .ref a_g_weights, .ref a_g_alive, .ref a_g_joined], aI E a_g_oneEnd 60 g_oneEnd, aI E a_g_otherEnd 60 g_otherEnd, aI E a_g_joined 16 (va_up g_joined (y_1 : Int32).toNatClampNeg (y_3 ||| ((1 : Int32) <<< (y_2 &&& 31))))]) S hN hw 3 hi_3 dX2_link_25 rfl rfl (fun H locs hw => ?_)
  generalize va_up g_joined (y_1 : Int32).toNatClampNeg (y_3 ||| ((1 : Int32) <<< (y_2 &&& 31))) = g_joined_4 at hf hw
  refine lv_aload_n S.1 S.2.1 dX2_link_26 rfl (lv_at hl 2 rfl) ?_
  refine g_get S hN hw (C := RX2) (T := TX2) (N := 9) (ci := 2) (v := .ref a_g_joined) 0 8 iX2 k25 dX2_link_27 rfl rfl (by decide) rfl ?_
  refine lv_iload_n S.1 S.2.1 dX2_link_30 rfl (lv_at hl 0 rfl) ?_
  refine lv_dup2_11 S.1 S.2.1 dX2_link_31 rfl rfl ?_
  obtain ⟨hi_4, hf⟩ := rd_s hf
  refine g_iald (n := 16) (f := g_joined_4) S hN hw 3 hi_4 dX2_link_32 rfl ?_
  generalize g_joined_4 (y_2 : Int32).toNatClampNeg = y_5 at hf ⊢
  refine lv_iconst (v := 1) S.1 S.2.1 dX2_link_33 (by decide) ?_
  refine lv_iload_n S.1 S.2.1 dX2_link_34 rfl (lv_at hl 1 rfl) ?_
  refine lv_ishl S.1 S.2.1 dX2_link_35 ?_
  refine lv_ior S.1 S.2.1 dX2_link_36 ?_
  obtain ⟨hi_5, hf⟩ := wr_s hf
  refine g_iast (n := 16) (f := g_joined_4) (w1 := [oC a_g 2 [.int g_nodes, .int g_made, .int g_living, .int g_age, .ref a_g_oneEnd, .ref a_g_otherEnd, .ref a_g_weights, .ref a_g_alive, .ref a_g_joined], aI E a_g_oneEnd 60 g_oneEnd, aI E a_g_otherEnd 60 g_otherEnd, aI E a_g_joined 16 (va_up g_joined_4 (y_2 : Int32).toNatClampNeg (y_5 ||| ((1 : Int32) <<< (y_1 &&& 31))))]) S hN hw 3 hi_5 dX2_link_37 rfl rfl (fun H locs hw => ?_)
  generalize va_up g_joined_4 (y_2 : Int32).toNatClampNeg (y_5 ||| ((1 : Int32) <<< (y_1 &&& 31))) = g_joined_6 at hf hw
  cases hf
  exact hE _ _ _ _ hw dX2_link_38
def f_X2_addArc (p1 : Int32) (p2 : Int32) (p3 : Int32) (g_made : Int32) (g_living : Int32) (g_age : Int32) (g_oneEnd : Nat → Int32) (g_otherEnd : Nat → Int32) (g_weights : Nat → Int32) (g_alive : Nat → Int32) (g_joined : Nat → Int32) : Option (Int32 × Int32 × Int32 × Int32 × (Nat → Int32) × (Nat → Int32) × (Nat → Int32) × (Nat → Int32) × (Nat → Int32)) :=
  wr 60 g_oneEnd g_made p1 (fun g_oneEnd_1 => wr 60 g_otherEnd g_made p2 (fun g_otherEnd_2 => wr 60 g_weights g_made p3 (fun g_weights_3 => wr 60 g_alive g_made 1 (fun g_alive_4 => (f_X2_link g_made g_oneEnd_1 g_otherEnd_2 g_joined).bind (fun g_joined_5 => some (g_made, (g_made + 1), (g_living + 1), (g_age + 1), g_oneEnd_1, g_otherEnd_2, g_weights_3, g_alive_4, g_joined_5))))))
set_option maxHeartbeats 4000000 in
set_option maxRecDepth 100000 in
theorem c_X2_addArc (l : Launch) (E : Ev) (g_nodes : Int32) (g_made : Int32) (g_living : Int32) (g_age : Int32) (g_oneEnd : Nat → Int32) (a_g_oneEnd : Nat) (g_otherEnd : Nat → Int32) (a_g_otherEnd : Nat) (g_weights : Nat → Int32) (a_g_weights : Nat) (g_alive : Nat → Int32) (a_g_alive : Nat) (g_joined : Nat → Int32) (a_g_joined : Nat) (a_g : Nat) (p1 : Int32) (p2 : Int32) (p3 : Int32) (ro : Int32) (u_g_made : Int32) (u_g_living : Int32) (u_g_age : Int32) (u_g_oneEnd : Nat → Int32) (u_g_otherEnd : Nat → Int32) (u_g_weights : Nat → Int32) (u_g_alive : Nat → Int32) (u_g_joined : Nat → Int32) (hf : f_X2_addArc p1 p2 p3 g_made g_living g_age g_oneEnd g_otherEnd g_weights g_alive g_joined = some (ro, u_g_made, u_g_living, u_g_age, u_g_oneEnd, u_g_otherEnd, u_g_weights, u_g_alive, u_g_joined)) :
    CtI l yX2_addArc wsX2_addArc (Rm 1) E [.ref a_g, .int p1, .int p2, .int p3] [oC a_g 2 [.int g_nodes, .int g_made, .int g_living, .int g_age, .ref a_g_oneEnd, .ref a_g_otherEnd, .ref a_g_weights, .ref a_g_alive, .ref a_g_joined], aI E a_g_oneEnd 60 g_oneEnd, aI E a_g_otherEnd 60 g_otherEnd, aI E a_g_weights 60 g_weights, aZ E a_g_alive 60 g_alive, aI E a_g_joined 16 g_joined] ro [oC a_g 2 [.int g_nodes, .int u_g_made, .int u_g_living, .int u_g_age, .ref a_g_oneEnd, .ref a_g_otherEnd, .ref a_g_weights, .ref a_g_alive, .ref a_g_joined], aI E a_g_oneEnd 60 u_g_oneEnd, aI E a_g_otherEnd 60 u_g_otherEnd, aI E a_g_weights 60 u_g_weights, aZ E a_g_alive 60 u_g_alive, aI E a_g_joined 16 u_g_joined] := by
  refine ofI (cc := cX2_addArc) (maxL := 5) (own := RX2) rfl rfl (by decide) rfl rfl ?_
  intro p e s m below meth c A ls Q S hnm hN hw hA hl0 hE
  have hl : lv_has ls 5 [(0, .ref a_g), (1, .int p1), (2, .int p2), (3, .int p3)] := hl0 _ (lv_entry [.ref a_g, .int p1, .int p2, .int p3] (n := 5) (Nat.le_of_ble_eq_true rfl))
  have iX2 : ∀ w ∈ wsX20, w ∈ wsX2_addArc := by decide +kernel
  have k15 := S.2.2.2.2 (.fieldLink RX2 15 "PairMatching$Graph" "otherEnd" "[I") (by decide +kernel)
  have k18 := S.2.2.2.2 (.fieldLink RX2 18 "PairMatching$Graph" "weights" "[I") (by decide +kernel)
  have k21 := S.2.2.2.2 (.fieldLink RX2 21 "PairMatching$Graph" "alive" "[Z") (by decide +kernel)
  have k32 := S.2.2.2.2 (.fieldLink RX2 32 "PairMatching$Graph" "made" "I") (by decide +kernel)
  have k35 := S.2.2.2.2 (.fieldLink RX2 35 "PairMatching$Graph" "age" "I") (by decide +kernel)
  have k38 := S.2.2.2.2 (.fieldLink RX2 38 "PairMatching$Graph" "living" "I") (by decide +kernel)
  have k9 := S.2.2.2.2 (.fieldLink RX2 9 "PairMatching$Graph" "oneEnd" "[I") (by decide +kernel)
  unfold f_X2_addArc at hf
  refine lv_aload_n S.1 S.2.1 dX2_addArc_0 rfl (lv_at hl 0 rfl) ?_
  refine lv_dup S.1 S.2.1 dX2_addArc_1 rfl ?_
  refine g_get S hN hw (C := RX2) (T := TX2) (N := 9) (ci := 2) (v := .int g_age) 0 3 iX2 k35 dX2_addArc_2 rfl rfl (by decide) rfl ?_
  refine lv_iconst (v := 1) S.1 S.2.1 dX2_addArc_5 (by decide) ?_
  refine lv_iadd S.1 S.2.1 dX2_addArc_6 ?_
  refine g_put S hN hw (C := RX2) (T := TX2) (N := 9) (ci := 2) (ty := .int) (w1 := [oC a_g 2 [.int g_nodes, .int g_made, .int g_living, .int (g_age + 1), .ref a_g_oneEnd, .ref a_g_otherEnd, .ref a_g_weights, .ref a_g_alive, .ref a_g_joined], aI E a_g_oneEnd 60 g_oneEnd, aI E a_g_otherEnd 60 g_otherEnd, aI E a_g_weights 60 g_weights, aZ E a_g_alive 60 g_alive, aI E a_g_joined 16 g_joined]) 0 3 iX2 k35 tyX2 tyX2_ok nmX2 dX2_addArc_7 rfl rfl (by decide) rfl (by decide +kernel) rfl rfl (Nat.le_of_ble_eq_true rfl) rfl (fun H locs hw => ?_)
  refine lv_aload_n S.1 S.2.1 dX2_addArc_10 rfl (lv_at hl 0 rfl) ?_
  refine g_get S hN hw (C := RX2) (T := TX2) (N := 9) (ci := 2) (v := .int g_made) 0 1 iX2 k32 dX2_addArc_11 rfl rfl (by decide) rfl ?_
  refine lv_istore (lv' := [(4, .int g_made), (0, .ref a_g), (1, .int p1), (2, .int p2), (3, .int p3)]) S.1 S.2.1 dX2_addArc_14 hl (by decide) rfl (fun ls hl => ?_)
  refine lv_aload_n S.1 S.2.1 dX2_addArc_16 rfl (lv_at hl 1 rfl) ?_
  refine lv_dup S.1 S.2.1 dX2_addArc_17 rfl ?_
  refine g_get S hN hw (C := RX2) (T := TX2) (N := 9) (ci := 2) (v := .int g_made) 0 1 iX2 k32 dX2_addArc_18 rfl rfl (by decide) rfl ?_
  refine lv_iconst (v := 1) S.1 S.2.1 dX2_addArc_21 (by decide) ?_
  refine lv_iadd S.1 S.2.1 dX2_addArc_22 ?_
  refine g_put S hN hw (C := RX2) (T := TX2) (N := 9) (ci := 2) (ty := .int) (w1 := [oC a_g 2 [.int g_nodes, .int (g_made + 1), .int g_living, .int (g_age + 1), .ref a_g_oneEnd, .ref a_g_otherEnd, .ref a_g_weights, .ref a_g_alive, .ref a_g_joined], aI E a_g_oneEnd 60 g_oneEnd, aI E a_g_otherEnd 60 g_otherEnd, aI E a_g_weights 60 g_weights, aZ E a_g_alive 60 g_alive, aI E a_g_joined 16 g_joined]) 0 1 iX2 k32 tyX2 tyX2_ok nmX2 dX2_addArc_23 rfl rfl (by decide) rfl (by decide +kernel) rfl rfl (Nat.le_of_ble_eq_true rfl) rfl (fun H locs hw => ?_)
  refine lv_aload_n S.1 S.2.1 dX2_addArc_26 rfl (lv_at hl 1 rfl) ?_
  refine lv_dup S.1 S.2.1 dX2_addArc_27 rfl ?_
  refine g_get S hN hw (C := RX2) (T := TX2) (N := 9) (ci := 2) (v := .int g_living) 0 2 iX2 k38 dX2_addArc_28 rfl rfl (by decide) rfl ?_
  refine lv_iconst (v := 1) S.1 S.2.1 dX2_addArc_31 (by decide) ?_
  refine lv_iadd S.1 S.2.1 dX2_addArc_32 ?_
  refine g_put S hN hw (C := RX2) (T := TX2) (N := 9) (ci := 2) (ty := .int) (w1 := [oC a_g 2 [.int g_nodes, .int (g_made + 1), .int (g_living + 1), .int (g_age + 1), .ref a_g_oneEnd, .ref a_g_otherEnd, .ref a_g_weights, .ref a_g_alive, .ref a_g_joined], aI E a_g_oneEnd 60 g_oneEnd, aI E a_g_otherEnd 60 g_otherEnd, aI E a_g_weights 60 g_weights, aZ E a_g_alive 60 g_alive, aI E a_g_joined 16 g_joined]) 0 2 iX2 k38 tyX2 tyX2_ok nmX2 dX2_addArc_33 rfl rfl (by decide) rfl (by decide +kernel) rfl rfl (Nat.le_of_ble_eq_true rfl) rfl (fun H locs hw => ?_)
  refine lv_aload_n S.1 S.2.1 dX2_addArc_36 rfl (lv_at hl 1 rfl) ?_
  refine g_get S hN hw (C := RX2) (T := TX2) (N := 9) (ci := 2) (v := .ref a_g_oneEnd) 0 4 iX2 k9 dX2_addArc_37 rfl rfl (by decide) rfl ?_
  refine lv_iload S.1 S.2.1 dX2_addArc_40 (lv_at hl 0 rfl) ?_
  refine lv_iload_n S.1 S.2.1 dX2_addArc_42 rfl (lv_at hl 2 rfl) ?_
  obtain ⟨hi_0, hf⟩ := wr_s hf
  refine g_iast (n := 60) (f := g_oneEnd) (w1 := [oC a_g 2 [.int g_nodes, .int (g_made + 1), .int (g_living + 1), .int (g_age + 1), .ref a_g_oneEnd, .ref a_g_otherEnd, .ref a_g_weights, .ref a_g_alive, .ref a_g_joined], aI E a_g_oneEnd 60 (va_up g_oneEnd (g_made : Int32).toNatClampNeg p1), aI E a_g_otherEnd 60 g_otherEnd, aI E a_g_weights 60 g_weights, aZ E a_g_alive 60 g_alive, aI E a_g_joined 16 g_joined]) S hN hw 1 hi_0 dX2_addArc_43 rfl rfl (fun H locs hw => ?_)
  generalize va_up g_oneEnd (g_made : Int32).toNatClampNeg p1 = g_oneEnd_1 at hf hw
  refine lv_aload_n S.1 S.2.1 dX2_addArc_44 rfl (lv_at hl 1 rfl) ?_
  refine g_get S hN hw (C := RX2) (T := TX2) (N := 9) (ci := 2) (v := .ref a_g_otherEnd) 0 5 iX2 k15 dX2_addArc_45 rfl rfl (by decide) rfl ?_
  refine lv_iload S.1 S.2.1 dX2_addArc_48 (lv_at hl 0 rfl) ?_
  refine lv_iload_n S.1 S.2.1 dX2_addArc_50 rfl (lv_at hl 3 rfl) ?_
  obtain ⟨hi_1, hf⟩ := wr_s hf
  refine g_iast (n := 60) (f := g_otherEnd) (w1 := [oC a_g 2 [.int g_nodes, .int (g_made + 1), .int (g_living + 1), .int (g_age + 1), .ref a_g_oneEnd, .ref a_g_otherEnd, .ref a_g_weights, .ref a_g_alive, .ref a_g_joined], aI E a_g_oneEnd 60 g_oneEnd_1, aI E a_g_otherEnd 60 (va_up g_otherEnd (g_made : Int32).toNatClampNeg p2), aI E a_g_weights 60 g_weights, aZ E a_g_alive 60 g_alive, aI E a_g_joined 16 g_joined]) S hN hw 2 hi_1 dX2_addArc_51 rfl rfl (fun H locs hw => ?_)
  generalize va_up g_otherEnd (g_made : Int32).toNatClampNeg p2 = g_otherEnd_2 at hf hw
  refine lv_aload_n S.1 S.2.1 dX2_addArc_52 rfl (lv_at hl 1 rfl) ?_
  refine g_get S hN hw (C := RX2) (T := TX2) (N := 9) (ci := 2) (v := .ref a_g_weights) 0 6 iX2 k18 dX2_addArc_53 rfl rfl (by decide) rfl ?_
  refine lv_iload S.1 S.2.1 dX2_addArc_56 (lv_at hl 0 rfl) ?_
  refine lv_iload_n S.1 S.2.1 dX2_addArc_58 rfl (lv_at hl 4 rfl) ?_
  obtain ⟨hi_2, hf⟩ := wr_s hf
  refine g_iast (n := 60) (f := g_weights) (w1 := [oC a_g 2 [.int g_nodes, .int (g_made + 1), .int (g_living + 1), .int (g_age + 1), .ref a_g_oneEnd, .ref a_g_otherEnd, .ref a_g_weights, .ref a_g_alive, .ref a_g_joined], aI E a_g_oneEnd 60 g_oneEnd_1, aI E a_g_otherEnd 60 g_otherEnd_2, aI E a_g_weights 60 (va_up g_weights (g_made : Int32).toNatClampNeg p3), aZ E a_g_alive 60 g_alive, aI E a_g_joined 16 g_joined]) S hN hw 3 hi_2 dX2_addArc_59 rfl rfl (fun H locs hw => ?_)
  generalize va_up g_weights (g_made : Int32).toNatClampNeg p3 = g_weights_3 at hf hw
  refine lv_aload_n S.1 S.2.1 dX2_addArc_60 rfl (lv_at hl 1 rfl) ?_
  refine g_get S hN hw (C := RX2) (T := TX2) (N := 9) (ci := 2) (v := .ref a_g_alive) 0 7 iX2 k21 dX2_addArc_61 rfl rfl (by decide) rfl ?_
  refine lv_iload S.1 S.2.1 dX2_addArc_64 (lv_at hl 0 rfl) ?_
  refine lv_iconst (v := 1) S.1 S.2.1 dX2_addArc_66 (by decide) ?_
  obtain ⟨hi_3, hf⟩ := wr_s hf
  refine g_zast (n := 60) (f := g_alive) (w1 := [oC a_g 2 [.int g_nodes, .int (g_made + 1), .int (g_living + 1), .int (g_age + 1), .ref a_g_oneEnd, .ref a_g_otherEnd, .ref a_g_weights, .ref a_g_alive, .ref a_g_joined], aI E a_g_oneEnd 60 g_oneEnd_1, aI E a_g_otherEnd 60 g_otherEnd_2, aI E a_g_weights 60 g_weights_3, aZ E a_g_alive 60 (va_up g_alive (g_made : Int32).toNatClampNeg 1), aI E a_g_joined 16 g_joined]) S hN hw 4 hi_3 dX2_addArc_67 rfl rfl (fun H locs hw => ?_)
  generalize va_up g_alive (g_made : Int32).toNatClampNeg 1 = g_alive_4 at hf hw
  refine lv_aload_n S.1 S.2.1 dX2_addArc_68 rfl (lv_at hl 1 rfl) ?_
  refine lv_iload S.1 S.2.1 dX2_addArc_69 (lv_at hl 0 rfl) ?_
  obtain ⟨g_joined_5, hc_5, hf⟩ := bd_s hf
  refine g_callv (wc := [oC a_g 2 [.int g_nodes, .int (g_made + 1), .int (g_living + 1), .int (g_age + 1), .ref a_g_oneEnd, .ref a_g_otherEnd, .ref a_g_weights, .ref a_g_alive, .ref a_g_joined], aI E a_g_oneEnd 60 g_oneEnd_1, aI E a_g_otherEnd 60 g_otherEnd_2, aI E a_g_joined 16 g_joined]) (wr := [aI E a_g_weights 60 g_weights_3, aZ E a_g_alive 60 g_alive_4]) (w1 := [oC a_g 2 [.int g_nodes, .int (g_made + 1), .int (g_living + 1), .int (g_age + 1), .ref a_g_oneEnd, .ref a_g_otherEnd, .ref a_g_weights, .ref a_g_alive, .ref a_g_joined], aI E a_g_oneEnd 60 g_oneEnd_1, aI E a_g_otherEnd 60 g_otherEnd_2, aI E a_g_joined 16 g_joined_5]) (va_runV (As := [.int g_made]) (rest := []) S (c_X2_link l E g_nodes (g_made + 1) (g_living + 1) (g_age + 1) g_oneEnd_1 a_g_oneEnd g_otherEnd_2 a_g_otherEnd a_g_weights a_g_alive g_joined a_g_joined a_g g_made g_joined_5 hc_5 _) (cwV 1 S.2.2.2.2 gX2_addArc_X2_link rfl rfl rfl (by decide +kernel) (rm_le (by omega) (by decide))) (preV (q := (RX2, TX2, 9)) hN hw [0, 1, 2, 5] rfl rfl rfl rfl) rfl rfl hl.1 rfl (lv_room (Nat.le_of_ble_eq_true rfl)) dX2_addArc_71 ⟨Nat.le_refl _, Nat.le_refl _⟩) hw hA [0, 1, 2, 5] [3, 4] rfl rfl rfl (by decide) (fun H locs hw => ?_)
  have hw : Wo E A s [aI E a_g_weights 60 g_weights_3, aZ E a_g_alive 60 g_alive_4, oC a_g 2 [.int g_nodes, .int (g_made + 1), .int (g_living + 1), .int (g_age + 1), .ref a_g_oneEnd, .ref a_g_otherEnd, .ref a_g_weights, .ref a_g_alive, .ref a_g_joined], aI E a_g_oneEnd 60 g_oneEnd_1, aI E a_g_otherEnd 60 g_otherEnd_2, aI E a_g_joined 16 g_joined_5] H _ := hw
  refine lv_iload S.1 S.2.1 dX2_addArc_74 (lv_at hl 0 rfl) ?_
  cases hf
  exact hE _ _ _ _ (hw.sub [2, 3, 4, 0, 1, 5] rfl rfl) dX2_addArc_76
def f_X2_removeArc_L37 (g_made : Int32) (g_oneEnd : Nat → Int32) (g_otherEnd : Nat → Int32) (g_alive_1 : Nat → Int32) (kk_65_4 : (Nat → Int32) → Option (Int32 × Int32 × (Nat → Int32) × (Nat → Int32))) : Nat → Int32 → (Nat → Int32) → Option (Int32 × Int32 × (Nat → Int32) × (Nat → Int32))
  | 0, _, _ => none
  | n + 1, v2_6, g_joined_7 => (if g_made ≤ v2_6 then (kk_65_4 g_joined_7) else rd 60 g_alive_1 v2_6 (fun y_9 => (if y_9 = 0 then (f_X2_removeArc_L37 g_made g_oneEnd g_otherEnd g_alive_1 kk_65_4 n (v2_6 + 1) g_joined_7) else (f_X2_link v2_6 g_oneEnd g_otherEnd g_joined_7).bind (fun g_joined_11 => (f_X2_removeArc_L37 g_made g_oneEnd g_otherEnd g_alive_1 kk_65_4 n (v2_6 + 1) g_joined_11)))))
def f_X2_removeArc (F : Nat) (p1 : Int32) (g_made : Int32) (g_living : Int32) (g_age : Int32) (g_oneEnd : Nat → Int32) (g_otherEnd : Nat → Int32) (g_alive : Nat → Int32) (g_joined : Nat → Int32) : Option (Int32 × Int32 × (Nat → Int32) × (Nat → Int32)) :=
  wr 60 g_alive p1 0 (fun g_alive_1 => (f_J7_fill_53178 F 0 g_joined 16).bind (fun p1_2 => (jn (fun (g_joined_4 : Nat → Int32) => some ((g_living - 1), (g_age + 1), g_alive_1, g_joined_4)) (fun kk_65_4 => (f_X2_removeArc_L37 g_made g_oneEnd g_otherEnd g_alive_1 kk_65_4 F 0 p1_2)))))
set_option maxHeartbeats 4000000 in
set_option maxRecDepth 100000 in
theorem c_X2_removeArc (l : Launch) (E : Ev) (F : Nat) (g_nodes : Int32) (g_made : Int32) (g_living : Int32) (g_age : Int32) (g_oneEnd : Nat → Int32) (a_g_oneEnd : Nat) (g_otherEnd : Nat → Int32) (a_g_otherEnd : Nat) (a_g_weights : Nat) (g_alive : Nat → Int32) (a_g_alive : Nat) (g_joined : Nat → Int32) (a_g_joined : Nat) (a_g : Nat) (p1 : Int32) (u_g_living : Int32) (u_g_age : Int32) (u_g_alive : Nat → Int32) (u_g_joined : Nat → Int32) (hf : f_X2_removeArc F p1 g_made g_living g_age g_oneEnd g_otherEnd g_alive g_joined = some (u_g_living, u_g_age, u_g_alive, u_g_joined)) :
    CtV l yX2_removeArc wsX2_removeArc (Rm 1) E [.ref a_g, .int p1] [oC a_g 2 [.int g_nodes, .int g_made, .int g_living, .int g_age, .ref a_g_oneEnd, .ref a_g_otherEnd, .ref a_g_weights, .ref a_g_alive, .ref a_g_joined], aI E a_g_oneEnd 60 g_oneEnd, aI E a_g_otherEnd 60 g_otherEnd, aZ E a_g_alive 60 g_alive, aI E a_g_joined 16 g_joined] [oC a_g 2 [.int g_nodes, .int g_made, .int u_g_living, .int u_g_age, .ref a_g_oneEnd, .ref a_g_otherEnd, .ref a_g_weights, .ref a_g_alive, .ref a_g_joined], aI E a_g_oneEnd 60 g_oneEnd, aI E a_g_otherEnd 60 g_otherEnd, aZ E a_g_alive 60 u_g_alive, aI E a_g_joined 16 u_g_joined] := by
  refine ofV (cc := cX2_removeArc) (maxL := 3) (own := RX2) rfl rfl (by decide) rfl rfl ?_
  intro p e s m below meth c A ls Q S hnm hN hw hA hl0 hE
  have hl : lv_has ls 3 [(0, .ref a_g), (1, .int p1)] := hl0 _ (lv_entry [.ref a_g, .int p1] (n := 3) (Nat.le_of_ble_eq_true rfl))
  have iX2 : ∀ w ∈ wsX20, w ∈ wsX2_removeArc := by decide +kernel
  have k21 := S.2.2.2.2 (.fieldLink RX2 21 "PairMatching$Graph" "alive" "[Z") (by decide +kernel)
  have k25 := S.2.2.2.2 (.fieldLink RX2 25 "PairMatching$Graph" "joined" "[I") (by decide +kernel)
  have k32 := S.2.2.2.2 (.fieldLink RX2 32 "PairMatching$Graph" "made" "I") (by decide +kernel)
  have k35 := S.2.2.2.2 (.fieldLink RX2 35 "PairMatching$Graph" "age" "I") (by decide +kernel)
  have k38 := S.2.2.2.2 (.fieldLink RX2 38 "PairMatching$Graph" "living" "I") (by decide +kernel)
  unfold f_X2_removeArc at hf
  refine lv_aload_n S.1 S.2.1 dX2_removeArc_0 rfl (lv_at hl 0 rfl) ?_
  refine lv_dup S.1 S.2.1 dX2_removeArc_1 rfl ?_
  refine g_get S hN hw (C := RX2) (T := TX2) (N := 9) (ci := 2) (v := .int g_age) 0 3 iX2 k35 dX2_removeArc_2 rfl rfl (by decide) rfl ?_
  refine lv_iconst (v := 1) S.1 S.2.1 dX2_removeArc_5 (by decide) ?_
  refine lv_iadd S.1 S.2.1 dX2_removeArc_6 ?_
  refine g_put S hN hw (C := RX2) (T := TX2) (N := 9) (ci := 2) (ty := .int) (w1 := [oC a_g 2 [.int g_nodes, .int g_made, .int g_living, .int (g_age + 1), .ref a_g_oneEnd, .ref a_g_otherEnd, .ref a_g_weights, .ref a_g_alive, .ref a_g_joined], aI E a_g_oneEnd 60 g_oneEnd, aI E a_g_otherEnd 60 g_otherEnd, aZ E a_g_alive 60 g_alive, aI E a_g_joined 16 g_joined]) 0 3 iX2 k35 tyX2 tyX2_ok nmX2 dX2_removeArc_7 rfl rfl (by decide) rfl (by decide +kernel) rfl rfl (Nat.le_of_ble_eq_true rfl) rfl (fun H locs hw => ?_)
  refine lv_aload_n S.1 S.2.1 dX2_removeArc_10 rfl (lv_at hl 0 rfl) ?_
  refine lv_dup S.1 S.2.1 dX2_removeArc_11 rfl ?_
  refine g_get S hN hw (C := RX2) (T := TX2) (N := 9) (ci := 2) (v := .int g_living) 0 2 iX2 k38 dX2_removeArc_12 rfl rfl (by decide) rfl ?_
  refine lv_iconst (v := 1) S.1 S.2.1 dX2_removeArc_15 (by decide) ?_
  refine lv_isub S.1 S.2.1 dX2_removeArc_16 ?_
  refine g_put S hN hw (C := RX2) (T := TX2) (N := 9) (ci := 2) (ty := .int) (w1 := [oC a_g 2 [.int g_nodes, .int g_made, .int (g_living - 1), .int (g_age + 1), .ref a_g_oneEnd, .ref a_g_otherEnd, .ref a_g_weights, .ref a_g_alive, .ref a_g_joined], aI E a_g_oneEnd 60 g_oneEnd, aI E a_g_otherEnd 60 g_otherEnd, aZ E a_g_alive 60 g_alive, aI E a_g_joined 16 g_joined]) 0 2 iX2 k38 tyX2 tyX2_ok nmX2 dX2_removeArc_17 rfl rfl (by decide) rfl (by decide +kernel) rfl rfl (Nat.le_of_ble_eq_true rfl) rfl (fun H locs hw => ?_)
  refine lv_aload_n S.1 S.2.1 dX2_removeArc_20 rfl (lv_at hl 0 rfl) ?_
  refine g_get S hN hw (C := RX2) (T := TX2) (N := 9) (ci := 2) (v := .ref a_g_alive) 0 7 iX2 k21 dX2_removeArc_21 rfl rfl (by decide) rfl ?_
  refine lv_iload_n S.1 S.2.1 dX2_removeArc_24 rfl (lv_at hl 1 rfl) ?_
  refine lv_iconst (v := 0) S.1 S.2.1 dX2_removeArc_25 (by decide) ?_
  obtain ⟨hi_0, hf⟩ := wr_s hf
  refine g_zast (n := 60) (f := g_alive) (w1 := [oC a_g 2 [.int g_nodes, .int g_made, .int (g_living - 1), .int (g_age + 1), .ref a_g_oneEnd, .ref a_g_otherEnd, .ref a_g_weights, .ref a_g_alive, .ref a_g_joined], aI E a_g_oneEnd 60 g_oneEnd, aI E a_g_otherEnd 60 g_otherEnd, aZ E a_g_alive 60 (va_up g_alive (p1 : Int32).toNatClampNeg 0), aI E a_g_joined 16 g_joined]) S hN hw 3 hi_0 dX2_removeArc_26 rfl rfl (fun H locs hw => ?_)
  generalize va_up g_alive (p1 : Int32).toNatClampNeg 0 = g_alive_1 at hf hw
  refine lv_aload_n S.1 S.2.1 dX2_removeArc_27 rfl (lv_at hl 0 rfl) ?_
  refine g_get S hN hw (C := RX2) (T := TX2) (N := 9) (ci := 2) (v := .ref a_g_joined) 0 8 iX2 k25 dX2_removeArc_28 rfl rfl (by decide) rfl ?_
  refine lv_iconst (v := 0) S.1 S.2.1 dX2_removeArc_31 (by decide) ?_
  obtain ⟨p1_2, hc_2, hf⟩ := bd_s hf
  refine g_callv (wc := [aI E a_g_joined 16 g_joined]) (wr := [oC a_g 2 [.int g_nodes, .int g_made, .int (g_living - 1), .int (g_age + 1), .ref a_g_oneEnd, .ref a_g_otherEnd, .ref a_g_weights, .ref a_g_alive, .ref a_g_joined], aI E a_g_oneEnd 60 g_oneEnd, aI E a_g_otherEnd 60 g_otherEnd, aZ E a_g_alive 60 g_alive_1]) (w1 := [aI E a_g_joined 16 p1_2]) (va_runS (As := [.ref a_g_joined, .int 0]) (rest := []) S (c_J7_fill_53178 l E F a_g_joined g_joined 16 0 p1_2 hc_2 _) (va_cwS 2 S.2.2.2.2 gX2_removeArc_J7_fill_53178 rfl rfl rfl (by decide +kernel) (rm_le (by omega) (by decide))) (preS hN hw [4] rfl rfl) rfl rfl hl.1 rfl (lv_room (Nat.le_of_ble_eq_true rfl)) dX2_removeArc_32 ⟨Nat.le_refl _, Nat.le_refl _⟩) hw hA [4] [0, 1, 2, 3] rfl rfl rfl (by decide) (fun H locs hw => ?_)
  have hw : Wo E A s [oC a_g 2 [.int g_nodes, .int g_made, .int (g_living - 1), .int (g_age + 1), .ref a_g_oneEnd, .ref a_g_otherEnd, .ref a_g_weights, .ref a_g_alive, .ref a_g_joined], aI E a_g_oneEnd 60 g_oneEnd, aI E a_g_otherEnd 60 g_otherEnd, aZ E a_g_alive 60 g_alive_1, aI E a_g_joined 16 p1_2] H _ := hw
  refine lv_iconst (v := 0) S.1 S.2.1 dX2_removeArc_35 (by decide) ?_
  refine lv_istore_n (lv' := [(2, .int 0), (0, .ref a_g), (1, .int p1)]) S.1 S.2.1 dX2_removeArc_36 rfl hl (by decide) rfl (fun ls hl => ?_)
  obtain ⟨kk_65_4, ekk_65_4, hf⟩ := jn_s hf
  have hJ_kk_65_4 : ∀ (g_joined_4 : Nat → Int32) (H : Heap) (locs : List Loc) (ls : Array Slot), Wo E A s [oC a_g 2 [.int g_nodes, .int g_made, .int (g_living - 1), .int (g_age + 1), .ref a_g_oneEnd, .ref a_g_otherEnd, .ref a_g_weights, .ref a_g_alive, .ref a_g_joined], aI E a_g_oneEnd 60 g_oneEnd, aI E a_g_otherEnd 60 g_otherEnd, aZ E a_g_alive 60 g_alive_1, aI E a_g_joined 16 g_joined_4] H locs → lv_has ls 3 [] → kk_65_4 g_joined_4 = some (u_g_living, u_g_age, u_g_alive, u_g_joined) → W p l e (Rm 1) s m (([.ref a_g, .int p1] : List Value).toArray) below meth c H locs 0 0 Q (F0 m 65 ls []) := by
    intro g_joined_4 H locs ls hw hl hf
    rw [ekk_65_4] at hf
    cases hf
    exact hE _ _ _ _ hw dX2_removeArc_65
  have hL_37_12 : ∀ (n : Nat) (v2_6 : Int32) (g_joined_7 : Nat → Int32) (H : Heap) (locs : List Loc) (ls : Array Slot), Wo E A s [oC a_g 2 [.int g_nodes, .int g_made, .int (g_living - 1), .int (g_age + 1), .ref a_g_oneEnd, .ref a_g_otherEnd, .ref a_g_weights, .ref a_g_alive, .ref a_g_joined], aI E a_g_oneEnd 60 g_oneEnd, aI E a_g_otherEnd 60 g_otherEnd, aZ E a_g_alive 60 g_alive_1, aI E a_g_joined 16 g_joined_7] H locs → lv_has ls 3 [(0, .ref a_g), (2, .int v2_6)] → f_X2_removeArc_L37 g_made g_oneEnd g_otherEnd g_alive_1 kk_65_4 n v2_6 g_joined_7 = some (u_g_living, u_g_age, u_g_alive, u_g_joined) → W p l e (Rm 1) s m (([.ref a_g, .int p1] : List Value).toArray) below meth c H locs 0 0 Q (F0 m 37 ls []) := by
    intro n
    induction n with
    | zero => intro v2_6 g_joined_7 H locs ls hw hl hf; unfold f_X2_removeArc_L37 at hf; cases hf
    | succ n ih =>
      intro v2_6 g_joined_7 H locs ls hw hl hf
      unfold f_X2_removeArc_L37 at hf
      refine lv_iload_n S.1 S.2.1 dX2_removeArc_37 rfl (lv_at hl 1 rfl) ?_
      refine lv_aload_n S.1 S.2.1 dX2_removeArc_38 rfl (lv_at hl 0 rfl) ?_
      refine g_get S hN hw (C := RX2) (T := TX2) (N := 9) (ci := 2) (v := .int g_made) 0 1 iX2 k32 dX2_removeArc_39 rfl rfl (by decide) rfl ?_
      refine lv_icmp_ge (tgt := 65) S.1 S.2.1 dX2_removeArc_42 (by decide) (fun h_8 => ?_) (fun h_8 => ?_)
      · replace hf := if_t h_8 hf
        exact hJ_kk_65_4 g_joined_7 _ _ _ hw (lv_sub hl [] rfl) hf
      · replace hf := if_f h_8 hf
        refine lv_aload_n S.1 S.2.1 dX2_removeArc_45 rfl (lv_at hl 0 rfl) ?_
        refine g_get S hN hw (C := RX2) (T := TX2) (N := 9) (ci := 2) (v := .ref a_g_alive) 0 7 iX2 k21 dX2_removeArc_46 rfl rfl (by decide) rfl ?_
        refine lv_iload_n S.1 S.2.1 dX2_removeArc_49 rfl (lv_at hl 1 rfl) ?_
        obtain ⟨hi_8, hf⟩ := rd_s hf
        refine g_zald (n := 60) (f := g_alive_1) S hN hw 3 hi_8 dX2_removeArc_50 rfl ?_
        generalize g_alive_1 (v2_6 : Int32).toNatClampNeg = y_9 at hf ⊢
        refine lv_if_eq (tgt := 59) S.1 S.2.1 dX2_removeArc_51 (by decide) (fun h_10 => ?_) (fun h_10 => ?_)
        · replace hf := if_t h_10 hf
          refine lv_iinc (v := (v2_6 + 1)) (lv' := [(2, .int (v2_6 + 1)), (0, .ref a_g)]) S.1 S.2.1 dX2_removeArc_59 hl (k := 1) rfl rfl (by decide) rfl (fun ls hl => ?_)
          refine lv_goto (tgt := 37) S.1 S.2.1 dX2_removeArc_62 (by decide) ?_
          exact ih (v2_6 + 1) g_joined_7 _ _ _ hw (lv_sub hl [1, 0] rfl) hf
        · replace hf := if_f h_10 hf
          refine lv_aload_n S.1 S.2.1 dX2_removeArc_54 rfl (lv_at hl 0 rfl) ?_
          refine lv_iload_n S.1 S.2.1 dX2_removeArc_55 rfl (lv_at hl 1 rfl) ?_
          obtain ⟨g_joined_11, hc_11, hf⟩ := bd_s hf
          refine g_callv (wc := [oC a_g 2 [.int g_nodes, .int g_made, .int (g_living - 1), .int (g_age + 1), .ref a_g_oneEnd, .ref a_g_otherEnd, .ref a_g_weights, .ref a_g_alive, .ref a_g_joined], aI E a_g_oneEnd 60 g_oneEnd, aI E a_g_otherEnd 60 g_otherEnd, aI E a_g_joined 16 g_joined_7]) (wr := [aZ E a_g_alive 60 g_alive_1]) (w1 := [oC a_g 2 [.int g_nodes, .int g_made, .int (g_living - 1), .int (g_age + 1), .ref a_g_oneEnd, .ref a_g_otherEnd, .ref a_g_weights, .ref a_g_alive, .ref a_g_joined], aI E a_g_oneEnd 60 g_oneEnd, aI E a_g_otherEnd 60 g_otherEnd, aI E a_g_joined 16 g_joined_11]) (va_runV (As := [.int v2_6]) (rest := []) S (c_X2_link l E g_nodes g_made (g_living - 1) (g_age + 1) g_oneEnd a_g_oneEnd g_otherEnd a_g_otherEnd a_g_weights a_g_alive g_joined_7 a_g_joined a_g v2_6 g_joined_11 hc_11 _) (cwV 1 S.2.2.2.2 gX2_removeArc_X2_link rfl rfl rfl (by decide +kernel) (rm_le (by omega) (by decide))) (preV (q := (RX2, TX2, 9)) hN hw [0, 1, 2, 4] rfl rfl rfl rfl) rfl rfl hl.1 rfl (lv_room (Nat.le_of_ble_eq_true rfl)) dX2_removeArc_56 ⟨Nat.le_refl _, Nat.le_refl _⟩) hw hA [0, 1, 2, 4] [3] rfl rfl rfl (by decide) (fun H locs hw => ?_)
          have hw : Wo E A s [aZ E a_g_alive 60 g_alive_1, oC a_g 2 [.int g_nodes, .int g_made, .int (g_living - 1), .int (g_age + 1), .ref a_g_oneEnd, .ref a_g_otherEnd, .ref a_g_weights, .ref a_g_alive, .ref a_g_joined], aI E a_g_oneEnd 60 g_oneEnd, aI E a_g_otherEnd 60 g_otherEnd, aI E a_g_joined 16 g_joined_11] H _ := hw
          refine lv_iinc (v := (v2_6 + 1)) (lv' := [(2, .int (v2_6 + 1)), (0, .ref a_g)]) S.1 S.2.1 dX2_removeArc_59 hl (k := 1) rfl rfl (by decide) rfl (fun ls hl => ?_)
          refine lv_goto (tgt := 37) S.1 S.2.1 dX2_removeArc_62 (by decide) ?_
          exact ih (v2_6 + 1) g_joined_11 _ _ _ (hw.sub [1, 2, 3, 0, 4] rfl rfl) (lv_sub hl [1, 0] rfl) hf
  exact hL_37_12 F 0 p1_2 _ _ _ hw (lv_sub hl [1, 0] rfl) hf
def f_X2_removeAll (F : Nat) (g_age : Int32) (g_joined : Nat → Int32) : Option (Int32 × Int32 × Int32 × Int32 × (Nat → Int32)) :=
  (f_J7_fill_53178 F 0 g_joined 16).bind (fun p1_1 => some (0, 0, 0, (g_age + 1), p1_1))
set_option maxHeartbeats 4000000 in
set_option maxRecDepth 100000 in
theorem c_X2_removeAll (l : Launch) (E : Ev) (F : Nat) (g_nodes : Int32) (g_made : Int32) (g_living : Int32) (g_age : Int32) (a_g_oneEnd : Nat) (a_g_otherEnd : Nat) (a_g_weights : Nat) (a_g_alive : Nat) (g_joined : Nat → Int32) (a_g_joined : Nat) (a_g : Nat) (u_g_nodes : Int32) (u_g_made : Int32) (u_g_living : Int32) (u_g_age : Int32) (u_g_joined : Nat → Int32) (hf : f_X2_removeAll F g_age g_joined = some (u_g_nodes, u_g_made, u_g_living, u_g_age, u_g_joined)) :
    CtV l yX2_removeAll wsX2_removeAll (Rm 1) E [.ref a_g] [oC a_g 2 [.int g_nodes, .int g_made, .int g_living, .int g_age, .ref a_g_oneEnd, .ref a_g_otherEnd, .ref a_g_weights, .ref a_g_alive, .ref a_g_joined], aI E a_g_joined 16 g_joined] [oC a_g 2 [.int u_g_nodes, .int u_g_made, .int u_g_living, .int u_g_age, .ref a_g_oneEnd, .ref a_g_otherEnd, .ref a_g_weights, .ref a_g_alive, .ref a_g_joined], aI E a_g_joined 16 u_g_joined] := by
  refine ofV (cc := cX2_removeAll) (maxL := 1) (own := RX2) rfl rfl (by decide) rfl rfl ?_
  intro p e s m below meth c A ls Q S hnm hN hw hA hl0 hE
  have hl : lv_has ls 1 [(0, .ref a_g)] := hl0 _ (lv_entry [.ref a_g] (n := 1) (Nat.le_of_ble_eq_true rfl))
  have iX2 : ∀ w ∈ wsX20, w ∈ wsX2_removeAll := by decide +kernel
  have k25 := S.2.2.2.2 (.fieldLink RX2 25 "PairMatching$Graph" "joined" "[I") (by decide +kernel)
  have k28 := S.2.2.2.2 (.fieldLink RX2 28 "PairMatching$Graph" "nodes" "I") (by decide +kernel)
  have k32 := S.2.2.2.2 (.fieldLink RX2 32 "PairMatching$Graph" "made" "I") (by decide +kernel)
  have k35 := S.2.2.2.2 (.fieldLink RX2 35 "PairMatching$Graph" "age" "I") (by decide +kernel)
  have k38 := S.2.2.2.2 (.fieldLink RX2 38 "PairMatching$Graph" "living" "I") (by decide +kernel)
  unfold f_X2_removeAll at hf
  refine lv_aload_n S.1 S.2.1 dX2_removeAll_0 rfl (lv_at hl 0 rfl) ?_
  refine lv_dup S.1 S.2.1 dX2_removeAll_1 rfl ?_
  refine g_get S hN hw (C := RX2) (T := TX2) (N := 9) (ci := 2) (v := .int g_age) 0 3 iX2 k35 dX2_removeAll_2 rfl rfl (by decide) rfl ?_
  refine lv_iconst (v := 1) S.1 S.2.1 dX2_removeAll_5 (by decide) ?_
  refine lv_iadd S.1 S.2.1 dX2_removeAll_6 ?_
  refine g_put S hN hw (C := RX2) (T := TX2) (N := 9) (ci := 2) (ty := .int) (w1 := [oC a_g 2 [.int g_nodes, .int g_made, .int g_living, .int (g_age + 1), .ref a_g_oneEnd, .ref a_g_otherEnd, .ref a_g_weights, .ref a_g_alive, .ref a_g_joined], aI E a_g_joined 16 g_joined]) 0 3 iX2 k35 tyX2 tyX2_ok nmX2 dX2_removeAll_7 rfl rfl (by decide) rfl (by decide +kernel) rfl rfl (Nat.le_of_ble_eq_true rfl) rfl (fun H locs hw => ?_)
  refine lv_aload_n S.1 S.2.1 dX2_removeAll_10 rfl (lv_at hl 0 rfl) ?_
  refine lv_iconst (v := 0) S.1 S.2.1 dX2_removeAll_11 (by decide) ?_
  refine g_put S hN hw (C := RX2) (T := TX2) (N := 9) (ci := 2) (ty := .int) (w1 := [oC a_g 2 [.int 0, .int g_made, .int g_living, .int (g_age + 1), .ref a_g_oneEnd, .ref a_g_otherEnd, .ref a_g_weights, .ref a_g_alive, .ref a_g_joined], aI E a_g_joined 16 g_joined]) 0 0 iX2 k28 tyX2 tyX2_ok nmX2 dX2_removeAll_12 rfl rfl (by decide) rfl (by decide +kernel) rfl rfl (Nat.le_of_ble_eq_true rfl) rfl (fun H locs hw => ?_)
  refine lv_aload_n S.1 S.2.1 dX2_removeAll_15 rfl (lv_at hl 0 rfl) ?_
  refine lv_iconst (v := 0) S.1 S.2.1 dX2_removeAll_16 (by decide) ?_
  refine g_put S hN hw (C := RX2) (T := TX2) (N := 9) (ci := 2) (ty := .int) (w1 := [oC a_g 2 [.int 0, .int 0, .int g_living, .int (g_age + 1), .ref a_g_oneEnd, .ref a_g_otherEnd, .ref a_g_weights, .ref a_g_alive, .ref a_g_joined], aI E a_g_joined 16 g_joined]) 0 1 iX2 k32 tyX2 tyX2_ok nmX2 dX2_removeAll_17 rfl rfl (by decide) rfl (by decide +kernel) rfl rfl (Nat.le_of_ble_eq_true rfl) rfl (fun H locs hw => ?_)
  refine lv_aload_n S.1 S.2.1 dX2_removeAll_20 rfl (lv_at hl 0 rfl) ?_
  refine lv_iconst (v := 0) S.1 S.2.1 dX2_removeAll_21 (by decide) ?_
  refine g_put S hN hw (C := RX2) (T := TX2) (N := 9) (ci := 2) (ty := .int) (w1 := [oC a_g 2 [.int 0, .int 0, .int 0, .int (g_age + 1), .ref a_g_oneEnd, .ref a_g_otherEnd, .ref a_g_weights, .ref a_g_alive, .ref a_g_joined], aI E a_g_joined 16 g_joined]) 0 2 iX2 k38 tyX2 tyX2_ok nmX2 dX2_removeAll_22 rfl rfl (by decide) rfl (by decide +kernel) rfl rfl (Nat.le_of_ble_eq_true rfl) rfl (fun H locs hw => ?_)
  refine lv_aload_n S.1 S.2.1 dX2_removeAll_25 rfl (lv_at hl 0 rfl) ?_
  refine g_get S hN hw (C := RX2) (T := TX2) (N := 9) (ci := 2) (v := .ref a_g_joined) 0 8 iX2 k25 dX2_removeAll_26 rfl rfl (by decide) rfl ?_
  refine lv_iconst (v := 0) S.1 S.2.1 dX2_removeAll_29 (by decide) ?_
  obtain ⟨p1_1, hc_1, hf⟩ := bd_s hf
  refine g_callv (wc := [aI E a_g_joined 16 g_joined]) (wr := [oC a_g 2 [.int 0, .int 0, .int 0, .int (g_age + 1), .ref a_g_oneEnd, .ref a_g_otherEnd, .ref a_g_weights, .ref a_g_alive, .ref a_g_joined]]) (w1 := [aI E a_g_joined 16 p1_1]) (va_runS (As := [.ref a_g_joined, .int 0]) (rest := []) S (c_J7_fill_53178 l E F a_g_joined g_joined 16 0 p1_1 hc_1 _) (va_cwS 2 S.2.2.2.2 gX2_removeAll_J7_fill_53178 rfl rfl rfl (by decide +kernel) (rm_le (by omega) (by decide))) (preS hN hw [1] rfl rfl) rfl rfl hl.1 rfl (lv_room (Nat.le_of_ble_eq_true rfl)) dX2_removeAll_30 ⟨Nat.le_refl _, Nat.le_refl _⟩) hw hA [1] [0] rfl rfl rfl (by decide) (fun H locs hw => ?_)
  have hw : Wo E A s [oC a_g 2 [.int 0, .int 0, .int 0, .int (g_age + 1), .ref a_g_oneEnd, .ref a_g_otherEnd, .ref a_g_weights, .ref a_g_alive, .ref a_g_joined], aI E a_g_joined 16 p1_1] H _ := hw
  cases hf
  exact hE _ _ _ _ hw dX2_removeAll_33
def f_X11_markOf (p1 : Int32) : Int64 :=
  ((1 : Int64) <<< (((59 - p1) : Int32).toInt64 &&& 63))
set_option maxHeartbeats 4000000 in
set_option maxRecDepth 100000 in
theorem c_X11_markOf (l : Launch) (E : Ev) (p1 : Int32) (ro : Int64) (hf : f_X11_markOf p1 = ro) :
    CtL l yX11_markOf wsX11_markOf (Rm 0) E [.int p1] [] ro [] := by
  refine ofL (cc := cX11_markOf) (maxL := 1) (own := RX11) rfl rfl (by decide) rfl rfl ?_
  intro p e s m below meth c A ls Q S hnm hN hw hA hl0 hE
  have hl : lv_has ls 1 [(0, .int p1)] := hl0 _ (lv_entry [.int p1] (n := 1) (Nat.le_of_ble_eq_true rfl))
  unfold f_X11_markOf at hf
  refine lv_lconst (v := 1) S.1 S.2.1 dX11_markOf_0 (by decide) ?_
  refine lv_bipush (v := 59) S.1 S.2.1 dX11_markOf_1 (by decide) ?_
  refine lv_iload_n S.1 S.2.1 dX11_markOf_3 rfl (lv_at hl 0 rfl) ?_
  refine lv_isub S.1 S.2.1 dX11_markOf_4 ?_
  refine lv_lshl S.1 S.2.1 dX11_markOf_5 rfl ?_
  cases hf
  exact hE _ _ _ _ hw dX11_markOf_6
def f_X2_weightOf_L5 (g_made : Int32) (g_weights : Nat → Int32) (p1 : Int64) (kk_42_1 : Int32 → Option (Int32)) : Nat → Int32 → Int32 → Option (Int32)
  | 0, _, _ => none
  | n + 1, v3_3, v4_4 => (if g_made ≤ v4_4 then (kk_42_1 v3_3) else (if (lg_cmp (p1 &&& (f_X11_markOf v4_4)) (0 : Int64)) = 0 then (f_X2_weightOf_L5 g_made g_weights p1 kk_42_1 n v3_3 (v4_4 + 1)) else rd 60 g_weights v4_4 (fun y_9 => (f_X2_weightOf_L5 g_made g_weights p1 kk_42_1 n (v3_3 + y_9) (v4_4 + 1)))))
def f_X2_weightOf (F : Nat) (p1 : Int64) (g_made : Int32) (g_weights : Nat → Int32) : Option (Int32) :=
  (jn (fun (v3_1 : Int32) => some v3_1) (fun kk_42_1 => (f_X2_weightOf_L5 g_made g_weights p1 kk_42_1 F 0 0)))
set_option maxHeartbeats 4000000 in
set_option maxRecDepth 100000 in
theorem c_X2_weightOf (l : Launch) (E : Ev) (F : Nat) (g_nodes : Int32) (g_made : Int32) (g_living : Int32) (g_age : Int32) (a_g_oneEnd : Nat) (a_g_otherEnd : Nat) (g_weights : Nat → Int32) (a_g_weights : Nat) (a_g_alive : Nat) (a_g_joined : Nat) (a_g : Nat) (p1 : Int64) (ro : Int32) (hf : f_X2_weightOf F p1 g_made g_weights = some ro) :
    CtI l yX2_weightOf wsX2_weightOf (Rm 1) E [.ref a_g, .long p1] [oC a_g 2 [.int g_nodes, .int g_made, .int g_living, .int g_age, .ref a_g_oneEnd, .ref a_g_otherEnd, .ref a_g_weights, .ref a_g_alive, .ref a_g_joined], aI E a_g_weights 60 g_weights] ro [oC a_g 2 [.int g_nodes, .int g_made, .int g_living, .int g_age, .ref a_g_oneEnd, .ref a_g_otherEnd, .ref a_g_weights, .ref a_g_alive, .ref a_g_joined], aI E a_g_weights 60 g_weights] := by
  refine ofI (cc := cX2_weightOf) (maxL := 5) (own := RX2) rfl rfl (by decide) rfl rfl ?_
  intro p e s m below meth c A ls Q S hnm hN hw hA hl0 hE
  have hl : lv_has ls 5 [(0, .ref a_g), (1, .long p1)] := hl0 _ (lv_entry [.ref a_g, .long p1] (n := 5) (Nat.le_of_ble_eq_true rfl))
  have iX2 : ∀ w ∈ wsX20, w ∈ wsX2_weightOf := by decide +kernel
  have k18 := S.2.2.2.2 (.fieldLink RX2 18 "PairMatching$Graph" "weights" "[I") (by decide +kernel)
  have k32 := S.2.2.2.2 (.fieldLink RX2 32 "PairMatching$Graph" "made" "I") (by decide +kernel)
  have kIX11 := S.2.2.2.2 (.initialized RX11) (by decide +kernel)
  have kSX11_markOf := S.2.2.2.2 (.static yX11_markOf) (by decide +kernel)
  have w51 : Cond.methodLinkNest RX2 51 yX11_markOf "PairMatching" ∈ nestW := List.mem_of_getElem? (i := 66) rfl
  unfold f_X2_weightOf at hf
  refine lv_iconst (v := 0) S.1 S.2.1 dX2_weightOf_0 (by decide) ?_
  refine lv_istore_n (lv' := [(3, .int 0), (0, .ref a_g), (1, .long p1)]) S.1 S.2.1 dX2_weightOf_1 rfl hl (by decide) rfl (fun ls hl => ?_)
  refine lv_iconst (v := 0) S.1 S.2.1 dX2_weightOf_2 (by decide) ?_
  refine lv_istore (lv' := [(4, .int 0), (3, .int 0), (0, .ref a_g), (1, .long p1)]) S.1 S.2.1 dX2_weightOf_3 hl (by decide) rfl (fun ls hl => ?_)
  obtain ⟨kk_42_1, ekk_42_1, hf⟩ := jn_s hf
  have hJ_kk_42_1 : ∀ (v3_1 : Int32) (H : Heap) (locs : List Loc) (ls : Array Slot), Wo E A s [oC a_g 2 [.int g_nodes, .int g_made, .int g_living, .int g_age, .ref a_g_oneEnd, .ref a_g_otherEnd, .ref a_g_weights, .ref a_g_alive, .ref a_g_joined], aI E a_g_weights 60 g_weights] H locs → lv_has ls 5 [(3, .int v3_1)] → kk_42_1 v3_1 = some ro → W p l e (Rm 1) s m (([.ref a_g, .long p1] : List Value).toArray) below meth c H locs 0 0 Q (F0 m 42 ls []) := by
    intro v3_1 H locs ls hw hl hf
    rw [ekk_42_1] at hf
    refine lv_iload_n S.1 S.2.1 dX2_weightOf_42 rfl (lv_at hl 0 rfl) ?_
    cases hf
    exact hE _ _ _ _ hw dX2_weightOf_43
  have hL_5_9 : ∀ (n : Nat) (v3_3 : Int32) (v4_4 : Int32) (H : Heap) (locs : List Loc) (ls : Array Slot), Wo E A s [oC a_g 2 [.int g_nodes, .int g_made, .int g_living, .int g_age, .ref a_g_oneEnd, .ref a_g_otherEnd, .ref a_g_weights, .ref a_g_alive, .ref a_g_joined], aI E a_g_weights 60 g_weights] H locs → lv_has ls 5 [(0, .ref a_g), (1, .long p1), (3, .int v3_3), (4, .int v4_4)] → f_X2_weightOf_L5 g_made g_weights p1 kk_42_1 n v3_3 v4_4 = some ro → W p l e (Rm 1) s m (([.ref a_g, .long p1] : List Value).toArray) below meth c H locs 0 0 Q (F0 m 5 ls []) := by
    intro n
    induction n with
    | zero => intro v3_3 v4_4 H locs ls hw hl hf; unfold f_X2_weightOf_L5 at hf; cases hf
    | succ n ih =>
      intro v3_3 v4_4 H locs ls hw hl hf
      unfold f_X2_weightOf_L5 at hf
      refine lv_iload S.1 S.2.1 dX2_weightOf_5 (lv_at hl 3 rfl) ?_
      refine lv_aload_n S.1 S.2.1 dX2_weightOf_7 rfl (lv_at hl 0 rfl) ?_
      refine g_get S hN hw (C := RX2) (T := TX2) (N := 9) (ci := 2) (v := .int g_made) 0 1 iX2 k32 dX2_weightOf_8 rfl rfl (by decide) rfl ?_
      refine lv_icmp_ge (tgt := 42) S.1 S.2.1 dX2_weightOf_11 (by decide) (fun h_5 => ?_) (fun h_5 => ?_)
      · replace hf := if_t h_5 hf
        exact hJ_kk_42_1 v3_3 _ _ _ hw (lv_sub hl [2] rfl) hf
      · replace hf := if_f h_5 hf
        refine lv_lload_n S.1 S.2.1 dX2_weightOf_14 rfl (lv_at hl 1 rfl) ?_
        refine lv_iload S.1 S.2.1 dX2_weightOf_15 (lv_at hl 3 rfl) ?_
        refine g_calll (r := (f_X11_markOf v4_4)) (wc := []) (wr := [oC a_g 2 [.int g_nodes, .int g_made, .int g_living, .int g_age, .ref a_g_oneEnd, .ref a_g_otherEnd, .ref a_g_weights, .ref a_g_alive, .ref a_g_joined], aI E a_g_weights 60 g_weights]) (w1 := []) (va_runSN (As := [.int v4_4]) (rest := [.long p1]) S (c_X11_markOf l E v4_4 (f_X11_markOf v4_4) rfl _) ⟨(va_cnB 1 S.2.2.2.2 gX2_weightOf_X11_markOf_n51 rfl rfl rfl (hN.2 _ w51) kIX11 (by decide +kernel) (rm_le (by omega) (by decide))), kSX11_markOf, trivial⟩ (preS hN hw [] rfl rfl) rfl rfl hl.1 rfl (lv_room (Nat.le_of_ble_eq_true rfl)) dX2_weightOf_17 ⟨Nat.le_refl _, Nat.le_refl _⟩) hw hA [] [0, 1] rfl rfl rfl (by decide) (fun H locs hw => ?_)
        have hw : Wo E A s [oC a_g 2 [.int g_nodes, .int g_made, .int g_living, .int g_age, .ref a_g_oneEnd, .ref a_g_otherEnd, .ref a_g_weights, .ref a_g_alive, .ref a_g_joined], aI E a_g_weights 60 g_weights] H _ := hw
        refine lv_land S.1 S.2.1 dX2_weightOf_20 ?_
        refine lv_lconst (v := 0) S.1 S.2.1 dX2_weightOf_21 (by decide) ?_
        refine W.lcmp S.1 S.2.1 dX2_weightOf_22 ?_
        refine lv_if_eq (tgt := 36) S.1 S.2.1 dX2_weightOf_23 (by decide) (fun h_8 => ?_) (fun h_8 => ?_)
        · replace hf := if_t h_8 hf
          refine lv_iinc (v := (v4_4 + 1)) (lv' := [(4, .int (v4_4 + 1)), (0, .ref a_g), (1, .long p1), (3, .int v3_3)]) S.1 S.2.1 dX2_weightOf_36 hl (k := 3) rfl rfl (by decide) rfl (fun ls hl => ?_)
          refine lv_goto (tgt := 5) S.1 S.2.1 dX2_weightOf_39 (by decide) ?_
          exact ih v3_3 (v4_4 + 1) _ _ _ hw (lv_sub hl [1, 2, 3, 0] rfl) hf
        · replace hf := if_f h_8 hf
          refine lv_iload_n S.1 S.2.1 dX2_weightOf_26 rfl (lv_at hl 2 rfl) ?_
          refine lv_aload_n S.1 S.2.1 dX2_weightOf_27 rfl (lv_at hl 0 rfl) ?_
          refine g_get S hN hw (C := RX2) (T := TX2) (N := 9) (ci := 2) (v := .ref a_g_weights) 0 6 iX2 k18 dX2_weightOf_28 rfl rfl (by decide) rfl ?_
          refine lv_iload S.1 S.2.1 dX2_weightOf_31 (lv_at hl 3 rfl) ?_
          obtain ⟨hi_8, hf⟩ := rd_s hf
          refine g_iald (n := 60) (f := g_weights) S hN hw 1 hi_8 dX2_weightOf_33 rfl ?_
          generalize g_weights (v4_4 : Int32).toNatClampNeg = y_9 at hf ⊢
          refine lv_iadd S.1 S.2.1 dX2_weightOf_34 ?_
          refine lv_istore_n (lv' := [(3, .int (v3_3 + y_9)), (0, .ref a_g), (1, .long p1), (4, .int v4_4)]) S.1 S.2.1 dX2_weightOf_35 rfl hl (by decide) rfl (fun ls hl => ?_)
          refine lv_iinc (v := (v4_4 + 1)) (lv' := [(4, .int (v4_4 + 1)), (3, .int (v3_3 + y_9)), (0, .ref a_g), (1, .long p1)]) S.1 S.2.1 dX2_weightOf_36 hl (k := 3) rfl rfl (by decide) rfl (fun ls hl => ?_)
          refine lv_goto (tgt := 5) S.1 S.2.1 dX2_weightOf_39 (by decide) ?_
          exact ih (v3_3 + y_9) (v4_4 + 1) _ _ _ hw (lv_sub hl [2, 3, 1, 0] rfl) hf
  exact hL_5_9 F 0 0 _ _ _ hw (lv_sub hl [2, 3, 1, 0] rfl) hf
def f_X2_arcAt_L3 (g_made : Int32) (g_oneEnd : Nat → Int32) (g_otherEnd : Nat → Int32) (p1 : Int64) (p2 : Int32) (kk_55_0 : Option (Int32)) : Nat → Int32 → Option (Int32)
  | 0, _ => none
  | n + 1, v4_2 => (if g_made ≤ v4_2 then (kk_55_0) else (if (lg_cmp (p1 &&& (f_X11_markOf v4_2)) (0 : Int64)) = 0 then (f_X2_arcAt_L3 g_made g_oneEnd g_otherEnd p1 p2 kk_55_0 n (v4_2 + 1)) else rd 60 g_oneEnd v4_2 (fun y_7 => (if y_7 = p2 then some v4_2 else rd 60 g_otherEnd v4_2 (fun y_9 => (if y_9 = p2 then some v4_2 else (f_X2_arcAt_L3 g_made g_oneEnd g_otherEnd p1 p2 kk_55_0 n (v4_2 + 1))))))))
def f_X2_arcAt (F : Nat) (p1 : Int64) (p2 : Int32) (g_made : Int32) (g_oneEnd : Nat → Int32) (g_otherEnd : Nat → Int32) : Option (Int32) :=
  (jn (some (-3)) (fun kk_55_0 => (f_X2_arcAt_L3 g_made g_oneEnd g_otherEnd p1 p2 kk_55_0 F 0)))
set_option maxHeartbeats 4000000 in
set_option maxRecDepth 100000 in
theorem c_X2_arcAt (l : Launch) (E : Ev) (F : Nat) (g_nodes : Int32) (g_made : Int32) (g_living : Int32) (g_age : Int32) (g_oneEnd : Nat → Int32) (a_g_oneEnd : Nat) (g_otherEnd : Nat → Int32) (a_g_otherEnd : Nat) (a_g_weights : Nat) (a_g_alive : Nat) (a_g_joined : Nat) (a_g : Nat) (p1 : Int64) (p2 : Int32) (ro : Int32) (hf : f_X2_arcAt F p1 p2 g_made g_oneEnd g_otherEnd = some ro) :
    CtI l yX2_arcAt wsX2_arcAt (Rm 1) E [.ref a_g, .long p1, .int p2] [oC a_g 2 [.int g_nodes, .int g_made, .int g_living, .int g_age, .ref a_g_oneEnd, .ref a_g_otherEnd, .ref a_g_weights, .ref a_g_alive, .ref a_g_joined], aI E a_g_oneEnd 60 g_oneEnd, aI E a_g_otherEnd 60 g_otherEnd] ro [oC a_g 2 [.int g_nodes, .int g_made, .int g_living, .int g_age, .ref a_g_oneEnd, .ref a_g_otherEnd, .ref a_g_weights, .ref a_g_alive, .ref a_g_joined], aI E a_g_oneEnd 60 g_oneEnd, aI E a_g_otherEnd 60 g_otherEnd] := by
  refine ofI (cc := cX2_arcAt) (maxL := 5) (own := RX2) rfl rfl (by decide) rfl rfl ?_
  intro p e s m below meth c A ls Q S hnm hN hw hA hl0 hE
  have hl : lv_has ls 5 [(0, .ref a_g), (1, .long p1), (3, .int p2)] := hl0 _ (lv_entry [.ref a_g, .long p1, .int p2] (n := 5) (Nat.le_of_ble_eq_true rfl))
  have iX2 : ∀ w ∈ wsX20, w ∈ wsX2_arcAt := by decide +kernel
  have k15 := S.2.2.2.2 (.fieldLink RX2 15 "PairMatching$Graph" "otherEnd" "[I") (by decide +kernel)
  have k32 := S.2.2.2.2 (.fieldLink RX2 32 "PairMatching$Graph" "made" "I") (by decide +kernel)
  have k9 := S.2.2.2.2 (.fieldLink RX2 9 "PairMatching$Graph" "oneEnd" "[I") (by decide +kernel)
  have kIX11 := S.2.2.2.2 (.initialized RX11) (by decide +kernel)
  have kSX11_markOf := S.2.2.2.2 (.static yX11_markOf) (by decide +kernel)
  have w51 : Cond.methodLinkNest RX2 51 yX11_markOf "PairMatching" ∈ nestW := List.mem_of_getElem? (i := 66) rfl
  unfold f_X2_arcAt at hf
  refine lv_iconst (v := 0) S.1 S.2.1 dX2_arcAt_0 (by decide) ?_
  refine lv_istore (lv' := [(4, .int 0), (0, .ref a_g), (1, .long p1), (3, .int p2)]) S.1 S.2.1 dX2_arcAt_1 hl (by decide) rfl (fun ls hl => ?_)
  obtain ⟨kk_55_0, ekk_55_0, hf⟩ := jn_s hf
  have hJ_kk_55_0 : ∀  (H : Heap) (locs : List Loc) (ls : Array Slot), Wo E A s [oC a_g 2 [.int g_nodes, .int g_made, .int g_living, .int g_age, .ref a_g_oneEnd, .ref a_g_otherEnd, .ref a_g_weights, .ref a_g_alive, .ref a_g_joined], aI E a_g_oneEnd 60 g_oneEnd, aI E a_g_otherEnd 60 g_otherEnd] H locs → lv_has ls 5 [] → kk_55_0 = some ro → W p l e (Rm 1) s m (([.ref a_g, .long p1, .int p2] : List Value).toArray) below meth c H locs 0 0 Q (F0 m 55 ls []) := by
    intro H locs ls hw hl hf
    rw [ekk_55_0] at hf
    refine lv_bipush (v := (-3)) S.1 S.2.1 dX2_arcAt_55 (by decide) ?_
    cases hf
    exact hE _ _ _ _ hw dX2_arcAt_57
  have hL_3_10 : ∀ (n : Nat) (v4_2 : Int32) (H : Heap) (locs : List Loc) (ls : Array Slot), Wo E A s [oC a_g 2 [.int g_nodes, .int g_made, .int g_living, .int g_age, .ref a_g_oneEnd, .ref a_g_otherEnd, .ref a_g_weights, .ref a_g_alive, .ref a_g_joined], aI E a_g_oneEnd 60 g_oneEnd, aI E a_g_otherEnd 60 g_otherEnd] H locs → lv_has ls 5 [(0, .ref a_g), (1, .long p1), (3, .int p2), (4, .int v4_2)] → f_X2_arcAt_L3 g_made g_oneEnd g_otherEnd p1 p2 kk_55_0 n v4_2 = some ro → W p l e (Rm 1) s m (([.ref a_g, .long p1, .int p2] : List Value).toArray) below meth c H locs 0 0 Q (F0 m 3 ls []) := by
    intro n
    induction n with
    | zero => intro v4_2 H locs ls hw hl hf; unfold f_X2_arcAt_L3 at hf; cases hf
    | succ n ih =>
      intro v4_2 H locs ls hw hl hf
      unfold f_X2_arcAt_L3 at hf
      refine lv_iload S.1 S.2.1 dX2_arcAt_3 (lv_at hl 3 rfl) ?_
      refine lv_aload_n S.1 S.2.1 dX2_arcAt_5 rfl (lv_at hl 0 rfl) ?_
      refine g_get S hN hw (C := RX2) (T := TX2) (N := 9) (ci := 2) (v := .int g_made) 0 1 iX2 k32 dX2_arcAt_6 rfl rfl (by decide) rfl ?_
      refine lv_icmp_ge (tgt := 55) S.1 S.2.1 dX2_arcAt_9 (by decide) (fun h_3 => ?_) (fun h_3 => ?_)
      · replace hf := if_t h_3 hf
        exact hJ_kk_55_0 _ _ _ hw (lv_sub hl [] rfl) hf
      · replace hf := if_f h_3 hf
        refine lv_lload_n S.1 S.2.1 dX2_arcAt_12 rfl (lv_at hl 1 rfl) ?_
        refine lv_iload S.1 S.2.1 dX2_arcAt_13 (lv_at hl 3 rfl) ?_
        refine g_calll (r := (f_X11_markOf v4_2)) (wc := []) (wr := [oC a_g 2 [.int g_nodes, .int g_made, .int g_living, .int g_age, .ref a_g_oneEnd, .ref a_g_otherEnd, .ref a_g_weights, .ref a_g_alive, .ref a_g_joined], aI E a_g_oneEnd 60 g_oneEnd, aI E a_g_otherEnd 60 g_otherEnd]) (w1 := []) (va_runSN (As := [.int v4_2]) (rest := [.long p1]) S (c_X11_markOf l E v4_2 (f_X11_markOf v4_2) rfl _) ⟨(va_cnB 1 S.2.2.2.2 gX2_arcAt_X11_markOf_n51 rfl rfl rfl (hN.2 _ w51) kIX11 (by decide +kernel) (rm_le (by omega) (by decide))), kSX11_markOf, trivial⟩ (preS hN hw [] rfl rfl) rfl rfl hl.1 rfl (lv_room (Nat.le_of_ble_eq_true rfl)) dX2_arcAt_15 ⟨Nat.le_refl _, Nat.le_refl _⟩) hw hA [] [0, 1, 2] rfl rfl rfl (by decide) (fun H locs hw => ?_)
        have hw : Wo E A s [oC a_g 2 [.int g_nodes, .int g_made, .int g_living, .int g_age, .ref a_g_oneEnd, .ref a_g_otherEnd, .ref a_g_weights, .ref a_g_alive, .ref a_g_joined], aI E a_g_oneEnd 60 g_oneEnd, aI E a_g_otherEnd 60 g_otherEnd] H _ := hw
        refine lv_land S.1 S.2.1 dX2_arcAt_18 ?_
        refine lv_lconst (v := 0) S.1 S.2.1 dX2_arcAt_19 (by decide) ?_
        refine W.lcmp S.1 S.2.1 dX2_arcAt_20 ?_
        refine lv_if_eq (tgt := 49) S.1 S.2.1 dX2_arcAt_21 (by decide) (fun h_6 => ?_) (fun h_6 => ?_)
        · replace hf := if_t h_6 hf
          refine lv_iinc (v := (v4_2 + 1)) (lv' := [(4, .int (v4_2 + 1)), (0, .ref a_g), (1, .long p1), (3, .int p2)]) S.1 S.2.1 dX2_arcAt_49 hl (k := 3) rfl rfl (by decide) rfl (fun ls hl => ?_)
          refine lv_goto (tgt := 3) S.1 S.2.1 dX2_arcAt_52 (by decide) ?_
          exact ih (v4_2 + 1) _ _ _ hw (lv_sub hl [1, 2, 3, 0] rfl) hf
        · replace hf := if_f h_6 hf
          refine lv_aload_n S.1 S.2.1 dX2_arcAt_24 rfl (lv_at hl 0 rfl) ?_
          refine g_get S hN hw (C := RX2) (T := TX2) (N := 9) (ci := 2) (v := .ref a_g_oneEnd) 0 4 iX2 k9 dX2_arcAt_25 rfl rfl (by decide) rfl ?_
          refine lv_iload S.1 S.2.1 dX2_arcAt_28 (lv_at hl 3 rfl) ?_
          obtain ⟨hi_6, hf⟩ := rd_s hf
          refine g_iald (n := 60) (f := g_oneEnd) S hN hw 1 hi_6 dX2_arcAt_30 rfl ?_
          generalize g_oneEnd (v4_2 : Int32).toNatClampNeg = y_7 at hf ⊢
          refine lv_iload_n S.1 S.2.1 dX2_arcAt_31 rfl (lv_at hl 2 rfl) ?_
          refine lv_icmp_eq (tgt := 46) S.1 S.2.1 dX2_arcAt_32 (by decide) (fun h_8 => ?_) (fun h_8 => ?_)
          · replace hf := if_t h_8 hf
            refine lv_iload S.1 S.2.1 dX2_arcAt_46 (lv_at hl 3 rfl) ?_
            cases hf
            exact hE _ _ _ _ hw dX2_arcAt_48
          · replace hf := if_f h_8 hf
            refine lv_aload_n S.1 S.2.1 dX2_arcAt_35 rfl (lv_at hl 0 rfl) ?_
            refine g_get S hN hw (C := RX2) (T := TX2) (N := 9) (ci := 2) (v := .ref a_g_otherEnd) 0 5 iX2 k15 dX2_arcAt_36 rfl rfl (by decide) rfl ?_
            refine lv_iload S.1 S.2.1 dX2_arcAt_39 (lv_at hl 3 rfl) ?_
            obtain ⟨hi_8, hf⟩ := rd_s hf
            refine g_iald (n := 60) (f := g_otherEnd) S hN hw 2 hi_8 dX2_arcAt_41 rfl ?_
            generalize g_otherEnd (v4_2 : Int32).toNatClampNeg = y_9 at hf ⊢
            refine lv_iload_n S.1 S.2.1 dX2_arcAt_42 rfl (lv_at hl 2 rfl) ?_
            refine lv_icmp_ne (tgt := 49) S.1 S.2.1 dX2_arcAt_43 (by decide) (fun h_10 => ?_) (fun h_10 => ?_)
            · replace hf := if_f h_10 hf
              refine lv_iinc (v := (v4_2 + 1)) (lv' := [(4, .int (v4_2 + 1)), (0, .ref a_g), (1, .long p1), (3, .int p2)]) S.1 S.2.1 dX2_arcAt_49 hl (k := 3) rfl rfl (by decide) rfl (fun ls hl => ?_)
              refine lv_goto (tgt := 3) S.1 S.2.1 dX2_arcAt_52 (by decide) ?_
              exact ih (v4_2 + 1) _ _ _ hw (lv_sub hl [1, 2, 3, 0] rfl) hf
            · replace hf := if_t h_10 hf
              refine lv_iload S.1 S.2.1 dX2_arcAt_46 (lv_at hl 3 rfl) ?_
              cases hf
              exact hE _ _ _ _ hw dX2_arcAt_48
  exact hL_3_10 F 0 _ _ _ hw (lv_sub hl [1, 2, 3, 0] rfl) hf
def f_X3_flip_L4 (p1 : Int32) (kk_26_1 : Int32 → Option (Int32)) : Nat → Int32 → Int32 → Option (Int32)
  | 0, _, _ => none
  | n + 1, v1_3, v2_4 => (if 16 ≤ v2_4 then (kk_26_1 v1_3) else ltt ((v1_3 <<< ((1 : Int32) &&& 31)) ||| ((p1 >>> (v2_4 &&& 31)) &&& 1)) (fun x_6 => (f_X3_flip_L4 p1 kk_26_1 n x_6 (v2_4 + 1))))
def f_X3_flip (F : Nat) (p1 : Int32) : Option (Int32) :=
  (jn (fun (v1_1 : Int32) => some v1_1) (fun kk_26_1 => (f_X3_flip_L4 p1 kk_26_1 F 0 0)))
set_option maxHeartbeats 4000000 in
set_option maxRecDepth 100000 in
theorem c_X3_flip (l : Launch) (E : Ev) (F : Nat) (p1 : Int32) (ro : Int32) (hf : f_X3_flip F p1 = some ro) :
    CtI l yX3_flip wsX3_flip (Rm 0) E [.int p1] [] ro [] := by
  refine ofI (cc := cX3_flip) (maxL := 3) (own := RX3) rfl rfl (by decide) rfl rfl ?_
  intro p e s m below meth c A ls Q S hnm hN hw hA hl0 hE
  have hl : lv_has ls 3 [(0, .int p1)] := hl0 _ (lv_entry [.int p1] (n := 3) (Nat.le_of_ble_eq_true rfl))
  unfold f_X3_flip at hf
  refine lv_iconst (v := 0) S.1 S.2.1 dX3_flip_0 (by decide) ?_
  refine lv_istore_n (lv' := [(1, .int 0), (0, .int p1)]) S.1 S.2.1 dX3_flip_1 rfl hl (by decide) rfl (fun ls hl => ?_)
  refine lv_iconst (v := 0) S.1 S.2.1 dX3_flip_2 (by decide) ?_
  refine lv_istore_n (lv' := [(2, .int 0), (1, .int 0), (0, .int p1)]) S.1 S.2.1 dX3_flip_3 rfl hl (by decide) rfl (fun ls hl => ?_)
  obtain ⟨kk_26_1, ekk_26_1, hf⟩ := jn_s hf
  have hJ_kk_26_1 : ∀ (v1_1 : Int32) (H : Heap) (locs : List Loc) (ls : Array Slot), Wo E A s [] H locs → lv_has ls 3 [(1, .int v1_1)] → kk_26_1 v1_1 = some ro → W p l e (Rm 0) s m (([.int p1] : List Value).toArray) below meth c H locs 0 0 Q (F0 m 26 ls []) := by
    intro v1_1 H locs ls hw hl hf
    rw [ekk_26_1] at hf
    refine lv_iload_n S.1 S.2.1 dX3_flip_26 rfl (lv_at hl 0 rfl) ?_
    cases hf
    exact hE _ _ _ _ hw dX3_flip_27
  have hL_4_6 : ∀ (n : Nat) (v1_3 : Int32) (v2_4 : Int32) (H : Heap) (locs : List Loc) (ls : Array Slot), Wo E A s [] H locs → lv_has ls 3 [(0, .int p1), (1, .int v1_3), (2, .int v2_4)] → f_X3_flip_L4 p1 kk_26_1 n v1_3 v2_4 = some ro → W p l e (Rm 0) s m (([.int p1] : List Value).toArray) below meth c H locs 0 0 Q (F0 m 4 ls []) := by
    intro n
    induction n with
    | zero => intro v1_3 v2_4 H locs ls hw hl hf; unfold f_X3_flip_L4 at hf; cases hf
    | succ n ih =>
      intro v1_3 v2_4 H locs ls hw hl hf
      unfold f_X3_flip_L4 at hf
      refine lv_iload_n S.1 S.2.1 dX3_flip_4 rfl (lv_at hl 2 rfl) ?_
      refine lv_bipush (v := 16) S.1 S.2.1 dX3_flip_5 (by decide) ?_
      refine lv_icmp_ge (tgt := 26) S.1 S.2.1 dX3_flip_7 (by decide) (fun h_5 => ?_) (fun h_5 => ?_)
      · replace hf := if_t h_5 hf
        exact hJ_kk_26_1 v1_3 _ _ _ hw (lv_sub hl [1] rfl) hf
      · replace hf := if_f h_5 hf
        refine lv_iload_n S.1 S.2.1 dX3_flip_10 rfl (lv_at hl 1 rfl) ?_
        refine lv_iconst (v := 1) S.1 S.2.1 dX3_flip_11 (by decide) ?_
        refine lv_ishl S.1 S.2.1 dX3_flip_12 ?_
        refine lv_iload_n S.1 S.2.1 dX3_flip_13 rfl (lv_at hl 0 rfl) ?_
        refine lv_iload_n S.1 S.2.1 dX3_flip_14 rfl (lv_at hl 2 rfl) ?_
        refine lv_ishr S.1 S.2.1 dX3_flip_15 ?_
        refine lv_iconst (v := 1) S.1 S.2.1 dX3_flip_16 (by decide) ?_
        refine lv_iand S.1 S.2.1 dX3_flip_17 ?_
        refine lv_ior S.1 S.2.1 dX3_flip_18 ?_
        obtain ⟨x_6, he_6, hf⟩ := ltt_s hf
        rw [← he_6]
        refine lv_istore_n (lv' := [(1, .int x_6), (0, .int p1), (2, .int v2_4)]) S.1 S.2.1 dX3_flip_19 rfl hl (by decide) rfl (fun ls hl => ?_)
        refine lv_iinc (v := (v2_4 + 1)) (lv' := [(2, .int (v2_4 + 1)), (1, .int x_6), (0, .int p1)]) S.1 S.2.1 dX3_flip_20 hl (k := 2) rfl rfl (by decide) rfl (fun ls hl => ?_)
        refine lv_goto (tgt := 4) S.1 S.2.1 dX3_flip_23 (by decide) ?_
        exact ih x_6 (v2_4 + 1) _ _ _ hw (lv_sub hl [2, 1, 0] rfl) hf
  exact hL_4_6 F 0 0 _ _ _ hw (lv_sub hl [2, 1, 0] rfl) hf
def f_X3_busiestOf_L7 (h_flipped : Nat → Int32) (p1 : Int32) (kk_59_1 : Int32 → Option (Int32)) : Nat → Int32 → Int32 → Int32 → Option (Int32)
  | 0, _, _, _ => none
  | n + 1, v2_3, v3_4, v4_5 => (if 16 ≤ v4_5 then (kk_59_1 v2_3) else (jn (fun (z_9 : Int32) => (if z_9 ≤ v3_4 then (f_X3_busiestOf_L7 h_flipped p1 kk_59_1 n v2_3 v3_4 (v4_5 + 1)) else (f_X3_busiestOf_L7 h_flipped p1 kk_59_1 n v4_5 z_9 (v4_5 + 1)))) (fun jj_39_9 => (if (f_X11_has p1 v4_5) = 0 then (jj_39_9 0) else rd 16 h_flipped v4_5 (fun y_13 => (jj_39_9 (f_J6_bitCount_0f7a4 (y_13 &&& p1))))))))
def f_X3_busiestOf (F : Nat) (p1 : Int32) (h_flipped : Nat → Int32) : Option (Int32) :=
  (jn (fun (v2_1 : Int32) => some v2_1) (fun kk_59_1 => (f_X3_busiestOf_L7 h_flipped p1 kk_59_1 F (-1) 0 0)))
set_option maxHeartbeats 4000000 in
set_option maxRecDepth 100000 in
theorem c_X3_busiestOf (l : Launch) (E : Ev) (F : Nat) (a_g : Nat) (h_flipped : Nat → Int32) (a_h_flipped : Nat) (h_chosen : Int32) (h_age : Int32) (a_h : Nat) (p1 : Int32) (ro : Int32) (hf : f_X3_busiestOf F p1 h_flipped = some ro) :
    CtI l yX3_busiestOf wsX3_busiestOf (Rm 1) E [.ref a_h, .int p1] [oC a_h 3 [.ref a_g, .ref a_h_flipped, .int h_chosen, .int h_age], aI E a_h_flipped 16 h_flipped] ro [oC a_h 3 [.ref a_g, .ref a_h_flipped, .int h_chosen, .int h_age], aI E a_h_flipped 16 h_flipped] := by
  refine ofI (cc := cX3_busiestOf) (maxL := 6) (own := RX3) rfl rfl (by decide) rfl rfl ?_
  intro p e s m below meth c A ls Q S hnm hN hw hA hl0 hE
  have hl : lv_has ls 6 [(0, .ref a_h), (1, .int p1)] := hl0 _ (lv_entry [.ref a_h, .int p1] (n := 6) (Nat.le_of_ble_eq_true rfl))
  have iX3 : ∀ w ∈ wsX30, w ∈ wsX3_busiestOf := by decide +kernel
  have k9 := S.2.2.2.2 (.fieldLink RX3 9 "PairMatching$Holds" "flipped" "[I") (by decide +kernel)
  have kIX11 := S.2.2.2.2 (.initialized RX11) (by decide +kernel)
  have kSX11_has := S.2.2.2.2 (.static yX11_has) (by decide +kernel)
  have w61 : Cond.methodLinkNest RX3 61 yX11_has "PairMatching" ∈ nestW := List.mem_of_getElem? (i := 83) rfl
  unfold f_X3_busiestOf at hf
  refine lv_iconst (v := (-1)) S.1 S.2.1 dX3_busiestOf_0 (by decide) ?_
  refine lv_istore_n (lv' := [(2, .int (-1)), (0, .ref a_h), (1, .int p1)]) S.1 S.2.1 dX3_busiestOf_1 rfl hl (by decide) rfl (fun ls hl => ?_)
  refine lv_iconst (v := 0) S.1 S.2.1 dX3_busiestOf_2 (by decide) ?_
  refine lv_istore_n (lv' := [(3, .int 0), (2, .int (-1)), (0, .ref a_h), (1, .int p1)]) S.1 S.2.1 dX3_busiestOf_3 rfl hl (by decide) rfl (fun ls hl => ?_)
  refine lv_iconst (v := 0) S.1 S.2.1 dX3_busiestOf_4 (by decide) ?_
  refine lv_istore (lv' := [(4, .int 0), (3, .int 0), (2, .int (-1)), (0, .ref a_h), (1, .int p1)]) S.1 S.2.1 dX3_busiestOf_5 hl (by decide) rfl (fun ls hl => ?_)
  obtain ⟨kk_59_1, ekk_59_1, hf⟩ := jn_s hf
  have hJ_kk_59_1 : ∀ (v2_1 : Int32) (H : Heap) (locs : List Loc) (ls : Array Slot), Wo E A s [oC a_h 3 [.ref a_g, .ref a_h_flipped, .int h_chosen, .int h_age], aI E a_h_flipped 16 h_flipped] H locs → lv_has ls 6 [(2, .int v2_1)] → kk_59_1 v2_1 = some ro → W p l e (Rm 1) s m (([.ref a_h, .int p1] : List Value).toArray) below meth c H locs 0 0 Q (F0 m 59 ls []) := by
    intro v2_1 H locs ls hw hl hf
    rw [ekk_59_1] at hf
    refine lv_iload_n S.1 S.2.1 dX3_busiestOf_59 rfl (lv_at hl 0 rfl) ?_
    cases hf
    exact hE _ _ _ _ hw dX3_busiestOf_60
  have hL_7_15 : ∀ (n : Nat) (v2_3 : Int32) (v3_4 : Int32) (v4_5 : Int32) (H : Heap) (locs : List Loc) (ls : Array Slot), Wo E A s [oC a_h 3 [.ref a_g, .ref a_h_flipped, .int h_chosen, .int h_age], aI E a_h_flipped 16 h_flipped] H locs → lv_has ls 6 [(0, .ref a_h), (1, .int p1), (2, .int v2_3), (3, .int v3_4), (4, .int v4_5)] → f_X3_busiestOf_L7 h_flipped p1 kk_59_1 n v2_3 v3_4 v4_5 = some ro → W p l e (Rm 1) s m (([.ref a_h, .int p1] : List Value).toArray) below meth c H locs 0 0 Q (F0 m 7 ls []) := by
    intro n
    induction n with
    | zero => intro v2_3 v3_4 v4_5 H locs ls hw hl hf; unfold f_X3_busiestOf_L7 at hf; cases hf
    | succ n ih =>
      intro v2_3 v3_4 v4_5 H locs ls hw hl hf
      unfold f_X3_busiestOf_L7 at hf
      refine lv_iload S.1 S.2.1 dX3_busiestOf_7 (lv_at hl 4 rfl) ?_
      refine lv_bipush (v := 16) S.1 S.2.1 dX3_busiestOf_9 (by decide) ?_
      refine lv_icmp_ge (tgt := 59) S.1 S.2.1 dX3_busiestOf_11 (by decide) (fun h_6 => ?_) (fun h_6 => ?_)
      · replace hf := if_t h_6 hf
        exact hJ_kk_59_1 v2_3 _ _ _ hw (lv_sub hl [2] rfl) hf
      · replace hf := if_f h_6 hf
        refine lv_iload_n S.1 S.2.1 dX3_busiestOf_14 rfl (lv_at hl 1 rfl) ?_
        refine lv_iload S.1 S.2.1 dX3_busiestOf_15 (lv_at hl 4 rfl) ?_
        refine g_calli (r := (f_X11_has p1 v4_5)) (wc := []) (wr := [oC a_h 3 [.ref a_g, .ref a_h_flipped, .int h_chosen, .int h_age], aI E a_h_flipped 16 h_flipped]) (w1 := []) (va_runSN (As := [.int p1, .int v4_5]) (rest := []) S (c_X11_has l E p1 v4_5 (f_X11_has p1 v4_5) rfl _) ⟨(va_cnB 2 S.2.2.2.2 gX3_busiestOf_X11_has_n61 rfl rfl rfl (hN.2 _ w61) kIX11 (by decide +kernel) (rm_le (by omega) (by decide))), kSX11_has, trivial⟩ (preS hN hw [] rfl rfl) rfl rfl hl.1 rfl (lv_room (Nat.le_of_ble_eq_true rfl)) dX3_busiestOf_17 ⟨Nat.le_refl _, Nat.le_refl _⟩) hw hA [] [0, 1] rfl rfl rfl (by decide) (fun H locs hw => ?_)
        have hw : Wo E A s [oC a_h 3 [.ref a_g, .ref a_h_flipped, .int h_chosen, .int h_age], aI E a_h_flipped 16 h_flipped] H _ := hw
        obtain ⟨jj_39_9, ejj_39_9, hf⟩ := jn_s hf
        have hJ_jj_39_9 : ∀ (z_9 : Int32) (H : Heap) (locs : List Loc) (ls : Array Slot), Wo E A s [oC a_h 3 [.ref a_g, .ref a_h_flipped, .int h_chosen, .int h_age], aI E a_h_flipped 16 h_flipped] H locs → lv_has ls 6 [(0, .ref a_h), (1, .int p1), (2, .int v2_3), (3, .int v3_4), (4, .int v4_5)] → jj_39_9 z_9 = some ro → W p l e (Rm 1) s m (([.ref a_h, .int p1] : List Value).toArray) below meth c H locs 0 0 Q (F0 m 39 ls [.int z_9]) := by
          intro z_9 H locs ls hw hl hf
          rw [ejj_39_9] at hf
          refine lv_istore (lv' := [(5, .int z_9), (0, .ref a_h), (1, .int p1), (2, .int v2_3), (3, .int v3_4), (4, .int v4_5)]) S.1 S.2.1 dX3_busiestOf_39 hl (by decide) rfl (fun ls hl => ?_)
          refine lv_iload S.1 S.2.1 dX3_busiestOf_41 (lv_at hl 0 rfl) ?_
          refine lv_iload_n S.1 S.2.1 dX3_busiestOf_43 rfl (lv_at hl 4 rfl) ?_
          refine lv_icmp_le (tgt := 53) S.1 S.2.1 dX3_busiestOf_44 (by decide) (fun h_11 => ?_) (fun h_11 => ?_)
          · replace hf := if_t h_11 hf
            refine lv_iinc (v := (v4_5 + 1)) (lv' := [(4, .int (v4_5 + 1)), (5, .int z_9), (0, .ref a_h), (1, .int p1), (2, .int v2_3), (3, .int v3_4)]) S.1 S.2.1 dX3_busiestOf_53 hl (k := 5) rfl rfl (by decide) rfl (fun ls hl => ?_)
            refine lv_goto (tgt := 7) S.1 S.2.1 dX3_busiestOf_56 (by decide) ?_
            exact ih v2_3 v3_4 (v4_5 + 1) _ _ _ hw (lv_sub hl [2, 3, 4, 5, 0] rfl) hf
          · replace hf := if_f h_11 hf
            refine lv_iload S.1 S.2.1 dX3_busiestOf_47 (lv_at hl 0 rfl) ?_
            refine lv_istore_n (lv' := [(3, .int z_9), (5, .int z_9), (0, .ref a_h), (1, .int p1), (2, .int v2_3), (4, .int v4_5)]) S.1 S.2.1 dX3_busiestOf_49 rfl hl (by decide) rfl (fun ls hl => ?_)
            refine lv_iload S.1 S.2.1 dX3_busiestOf_50 (lv_at hl 5 rfl) ?_
            refine lv_istore_n (lv' := [(2, .int v4_5), (3, .int z_9), (5, .int z_9), (0, .ref a_h), (1, .int p1), (4, .int v4_5)]) S.1 S.2.1 dX3_busiestOf_52 rfl hl (by decide) rfl (fun ls hl => ?_)
            refine lv_iinc (v := (v4_5 + 1)) (lv' := [(4, .int (v4_5 + 1)), (2, .int v4_5), (3, .int z_9), (5, .int z_9), (0, .ref a_h), (1, .int p1)]) S.1 S.2.1 dX3_busiestOf_53 hl (k := 5) rfl rfl (by decide) rfl (fun ls hl => ?_)
            refine lv_goto (tgt := 7) S.1 S.2.1 dX3_busiestOf_56 (by decide) ?_
            exact ih v4_5 z_9 (v4_5 + 1) _ _ _ hw (lv_sub hl [4, 5, 1, 2, 0] rfl) hf
        refine lv_if_eq (tgt := 38) S.1 S.2.1 dX3_busiestOf_20 (by decide) (fun h_12 => ?_) (fun h_12 => ?_)
        · replace hf := if_t h_12 hf
          refine lv_iconst (v := 0) S.1 S.2.1 dX3_busiestOf_38 (by decide) ?_
          exact hJ_jj_39_9 0 _ _ _ hw hl hf
        · replace hf := if_f h_12 hf
          refine lv_aload_n S.1 S.2.1 dX3_busiestOf_23 rfl (lv_at hl 0 rfl) ?_
          refine g_get S hN hw (C := RX3) (T := TX3) (N := 4) (ci := 3) (v := .ref a_h_flipped) 0 1 iX3 k9 dX3_busiestOf_24 rfl rfl (by decide) rfl ?_
          refine lv_iload S.1 S.2.1 dX3_busiestOf_27 (lv_at hl 4 rfl) ?_
          obtain ⟨hi_12, hf⟩ := rd_s hf
          refine g_iald (n := 16) (f := h_flipped) S hN hw 1 hi_12 dX3_busiestOf_29 rfl ?_
          generalize h_flipped (v4_5 : Int32).toNatClampNeg = y_13 at hf ⊢
          refine lv_iload_n S.1 S.2.1 dX3_busiestOf_30 rfl (lv_at hl 1 rfl) ?_
          refine lv_iand S.1 S.2.1 dX3_busiestOf_31 ?_
          refine g_calli (r := (f_J6_bitCount_0f7a4 (y_13 &&& p1))) (wc := []) (wr := [oC a_h 3 [.ref a_g, .ref a_h_flipped, .int h_chosen, .int h_age], aI E a_h_flipped 16 h_flipped]) (w1 := []) (va_runS (As := [.int (y_13 &&& p1)]) (rest := []) S (c_J6_bitCount_0f7a4 l E (y_13 &&& p1) (f_J6_bitCount_0f7a4 (y_13 &&& p1)) rfl _) (va_cwS 1 S.2.2.2.2 gX3_busiestOf_J6_bitCount_0f7a4 rfl rfl rfl (by decide +kernel) (rm_le (by omega) (by decide))) (preS hN hw [] rfl rfl) rfl rfl hl.1 rfl (lv_room (Nat.le_of_ble_eq_true rfl)) dX3_busiestOf_32 ⟨Nat.le_refl _, Nat.le_refl _⟩) hw hA [] [0, 1] rfl rfl rfl (by decide) (fun H locs hw => ?_)
          have hw : Wo E A s [oC a_h 3 [.ref a_g, .ref a_h_flipped, .int h_chosen, .int h_age], aI E a_h_flipped 16 h_flipped] H _ := hw
          refine lv_goto (tgt := 39) S.1 S.2.1 dX3_busiestOf_35 (by decide) ?_
          exact hJ_jj_39_9 (f_J6_bitCount_0f7a4 (y_13 &&& p1)) _ _ _ hw hl hf
  exact hL_7_15 F (-1) 0 0 _ _ _ hw (lv_sub hl [3, 4, 2, 1, 0] rfl) hf
def f_X3_priceOf (p1 : Int32) : Int32 :=
  (((f_J6_bitCount_0f7a4 p1) * 65536) - p1)
set_option maxHeartbeats 4000000 in
set_option maxRecDepth 100000 in
theorem c_X3_priceOf (l : Launch) (E : Ev) (p1 : Int32) (ro : Int32) (hf : f_X3_priceOf p1 = ro) :
    CtI l yX3_priceOf wsX3_priceOf (Rm 1) E [.int p1] [] ro [] := by
  refine ofI (cc := cX3_priceOf) (maxL := 1) (own := RX3) rfl rfl (by decide) rfl rfl ?_
  intro p e s m below meth c A ls Q S hnm hN hw hA hl0 hE
  have hl : lv_has ls 1 [(0, .int p1)] := hl0 _ (lv_entry [.int p1] (n := 1) (Nat.le_of_ble_eq_true rfl))
  have k49 := S.2.2.2.2 (.constant RX3 49 65536) (by decide +kernel)
  unfold f_X3_priceOf at hf
  refine lv_iload_n S.1 S.2.1 dX3_priceOf_0 rfl (lv_at hl 0 rfl) ?_
  refine g_calli (r := (f_J6_bitCount_0f7a4 p1)) (wc := []) (wr := []) (w1 := []) (va_runS (As := [.int p1]) (rest := []) S (c_J6_bitCount_0f7a4 l E p1 (f_J6_bitCount_0f7a4 p1) rfl _) (va_cwS 1 S.2.2.2.2 gX3_priceOf_J6_bitCount_0f7a4 rfl rfl rfl (by decide +kernel) (rm_le (by omega) (by decide))) (preS hN hw [] rfl rfl) rfl rfl hl.1 rfl (lv_room (Nat.le_of_ble_eq_true rfl)) dX3_priceOf_1 ⟨Nat.le_refl _, Nat.le_refl _⟩) hw hA [] [] rfl rfl rfl (by decide) (fun H locs hw => ?_)
  have hw : Wo E A s [] H _ := hw
  refine lv_ldc (v := 65536) S.1 S.2.1 S.2.2.2.1 k49 dX3_priceOf_4 ?_
  refine lv_imul S.1 S.2.1 dX3_priceOf_6 ?_
  refine lv_iload_n S.1 S.2.1 dX3_priceOf_7 rfl (lv_at hl 0 rfl) ?_
  refine lv_isub S.1 S.2.1 dX3_priceOf_8 ?_
  cases hf
  exact hE _ _ _ _ hw dX3_priceOf_9
def f_X3_leastPrice (F : Nat) (h_flipped : Nat → Int32) : Nat → Int32 → Int32 → Option (Int32)
  | 0, _, _ => none
  | n + 1, p1, p2 => (f_X3_busiestOf F p1 h_flipped).bind (fun r_1 => (if 16 < p2 then some 0 else (if r_1 = (-1) then some 0 else rd 16 h_flipped r_1 (fun y_5 => ((f_X3_leastPrice F h_flipped n) (p1 &&& (((1 : Int32) <<< (r_1 &&& 31)) ^^^ (-1))) (p2 + 1)).bind (fun r_8 => ((f_X3_leastPrice F h_flipped n) ((p1 &&& (((1 : Int32) <<< (r_1 &&& 31)) ^^^ (-1))) &&& ((y_5 &&& p1) ^^^ (-1))) (p2 + 1)).bind (fun r_12 => some (if ((f_X3_priceOf (y_5 &&& p1)) + r_12) < ((f_X3_priceOf ((1 : Int32) <<< (r_1 &&& 31))) + r_8) then ((f_X3_priceOf (y_5 &&& p1)) + r_12) else ((f_X3_priceOf ((1 : Int32) <<< (r_1 &&& 31))) + r_8))))))))
set_option maxHeartbeats 4000000 in
set_option maxRecDepth 100000 in
theorem c_X3_leastPrice (l : Launch) (E : Ev) (F : Nat) (a_g : Nat) (h_flipped : Nat → Int32) (a_h_flipped : Nat) (h_chosen : Int32) (h_age : Int32) (a_h : Nat) : ∀ (d : Nat) (p1 : Int32) (p2 : Int32) (ro : Int32) (hf : f_X3_leastPrice F h_flipped d p1 p2 = some ro),
    CtI l yX3_leastPrice wsX3_leastPrice (Rm (2 + d)) E [.ref a_h, .int p1, .int p2] [oC a_h 3 [.ref a_g, .ref a_h_flipped, .int h_chosen, .int h_age], aI E a_h_flipped 16 h_flipped] ro [oC a_h 3 [.ref a_g, .ref a_h_flipped, .int h_chosen, .int h_age], aI E a_h_flipped 16 h_flipped] := by
  intro d
  induction d with
  | zero => intro p1 p2 ro hf; unfold f_X3_leastPrice at hf; cases hf
  | succ d ihd =>
    intro p1 p2 ro hf
    refine ofI (cc := cX3_leastPrice) (maxL := 8) (own := RX3) rfl rfl (by decide) rfl rfl ?_
    intro p e s m below meth c A ls Q S hnm hN hw hA hl0 hE
    have hl : lv_has ls 8 [(0, .ref a_h), (1, .int p1), (2, .int p2)] := hl0 _ (lv_entry [.ref a_h, .int p1, .int p2] (n := 8) (Nat.le_of_ble_eq_true rfl))
    have iX3 : ∀ w ∈ wsX30, w ∈ wsX3_leastPrice := by decide +kernel
    have k56 := S.2.2.2.2 (.methodLink RX3 56 Lib.Math.min.name) (by decide +kernel)
    have k9 := S.2.2.2.2 (.fieldLink RX3 9 "PairMatching$Holds" "flipped" "[I") (by decide +kernel)
    have kmn1 := S.2.2.2.2 (.static Lib.Math.min.name) (by decide +kernel)
    have kmn2 := S.2.2.2.2 (.initialized "java/lang/Math") (by decide +kernel)
    have kmn3 := S.2.2.2.2 (.code Lib.Math.min.name Lib.Math.min.code 2 (some .int)) (by decide +kernel)
    unfold f_X3_leastPrice at hf
    refine lv_aload_n S.1 S.2.1 dX3_leastPrice_0 rfl (lv_at hl 0 rfl) ?_
    refine lv_iload_n S.1 S.2.1 dX3_leastPrice_1 rfl (lv_at hl 1 rfl) ?_
    obtain ⟨r_1, hc_1, hf⟩ := bd_s hf
    refine g_calli (r := r_1) (wc := [oC a_h 3 [.ref a_g, .ref a_h_flipped, .int h_chosen, .int h_age], aI E a_h_flipped 16 h_flipped]) (wr := []) (w1 := [oC a_h 3 [.ref a_g, .ref a_h_flipped, .int h_chosen, .int h_age], aI E a_h_flipped 16 h_flipped]) (va_runV (As := [.int p1]) (rest := []) S (c_X3_busiestOf l E F a_g h_flipped a_h_flipped h_chosen h_age a_h p1 r_1 hc_1 _) (cwV 1 S.2.2.2.2 gX3_leastPrice_X3_busiestOf rfl rfl rfl (by decide +kernel) (rm_le (by omega) (by decide))) (preV (q := (RX3, TX3, 4)) hN hw [0, 1] rfl rfl rfl rfl) rfl rfl hl.1 rfl (lv_room (Nat.le_of_ble_eq_true rfl)) dX3_leastPrice_2 ⟨Nat.le_refl _, Nat.le_refl _⟩) hw hA [0, 1] [] rfl rfl rfl (by decide) (fun H locs hw => ?_)
    have hw : Wo E A s [oC a_h 3 [.ref a_g, .ref a_h_flipped, .int h_chosen, .int h_age], aI E a_h_flipped 16 h_flipped] H _ := hw
    refine lv_istore_n (lv' := [(3, .int r_1), (0, .ref a_h), (1, .int p1), (2, .int p2)]) S.1 S.2.1 dX3_leastPrice_5 rfl hl (by decide) rfl (fun ls hl => ?_)
    refine lv_iload_n S.1 S.2.1 dX3_leastPrice_6 rfl (lv_at hl 3 rfl) ?_
    refine lv_bipush (v := 16) S.1 S.2.1 dX3_leastPrice_7 (by decide) ?_
    refine lv_icmp_gt (tgt := 17) S.1 S.2.1 dX3_leastPrice_9 (by decide) (fun h_3 => ?_) (fun h_3 => ?_)
    · replace hf := if_t h_3 hf
      refine lv_iconst (v := 0) S.1 S.2.1 dX3_leastPrice_17 (by decide) ?_
      cases hf
      exact hE _ _ _ _ hw dX3_leastPrice_18
    · replace hf := if_f h_3 hf
      refine lv_iload_n S.1 S.2.1 dX3_leastPrice_12 rfl (lv_at hl 0 rfl) ?_
      refine lv_iconst (v := (-1)) S.1 S.2.1 dX3_leastPrice_13 (by decide) ?_
      refine lv_icmp_ne (tgt := 19) S.1 S.2.1 dX3_leastPrice_14 (by decide) (fun h_4 => ?_) (fun h_4 => ?_)
      · replace hf := if_f h_4 hf
        refine lv_aload_n S.1 S.2.1 dX3_leastPrice_19 rfl (lv_at hl 1 rfl) ?_
        refine g_get S hN hw (C := RX3) (T := TX3) (N := 4) (ci := 3) (v := .ref a_h_flipped) 0 1 iX3 k9 dX3_leastPrice_20 rfl rfl (by decide) rfl ?_
        refine lv_iload_n S.1 S.2.1 dX3_leastPrice_23 rfl (lv_at hl 0 rfl) ?_
        obtain ⟨hi_4, hf⟩ := rd_s hf
        refine g_iald (n := 16) (f := h_flipped) S hN hw 1 hi_4 dX3_leastPrice_24 rfl ?_
        generalize h_flipped (r_1 : Int32).toNatClampNeg = y_5 at hf ⊢
        refine lv_iload_n S.1 S.2.1 dX3_leastPrice_25 rfl (lv_at hl 2 rfl) ?_
        refine lv_iand S.1 S.2.1 dX3_leastPrice_26 ?_
        refine lv_istore (lv' := [(4, .int (y_5 &&& p1)), (3, .int r_1), (0, .ref a_h), (1, .int p1), (2, .int p2)]) S.1 S.2.1 dX3_leastPrice_27 hl (by decide) rfl (fun ls hl => ?_)
        refine lv_iload_n S.1 S.2.1 dX3_leastPrice_29 rfl (lv_at hl 3 rfl) ?_
        refine lv_iconst (v := 1) S.1 S.2.1 dX3_leastPrice_30 (by decide) ?_
        refine lv_iload_n S.1 S.2.1 dX3_leastPrice_31 rfl (lv_at hl 1 rfl) ?_
        refine lv_ishl S.1 S.2.1 dX3_leastPrice_32 ?_
        refine lv_iconst (v := (-1)) S.1 S.2.1 dX3_leastPrice_33 (by decide) ?_
        refine lv_ixor S.1 S.2.1 dX3_leastPrice_34 ?_
        refine lv_iand S.1 S.2.1 dX3_leastPrice_35 ?_
        refine lv_istore (lv' := [(5, .int (p1 &&& (((1 : Int32) <<< (r_1 &&& 31)) ^^^ (-1)))), (4, .int (y_5 &&& p1)), (3, .int r_1), (0, .ref a_h), (1, .int p1), (2, .int p2)]) S.1 S.2.1 dX3_leastPrice_36 hl (by decide) rfl (fun ls hl => ?_)
        refine lv_iconst (v := 1) S.1 S.2.1 dX3_leastPrice_38 (by decide) ?_
        refine lv_iload_n S.1 S.2.1 dX3_leastPrice_39 rfl (lv_at hl 2 rfl) ?_
        refine lv_ishl S.1 S.2.1 dX3_leastPrice_40 ?_
        refine g_calli (r := (f_X3_priceOf ((1 : Int32) <<< (r_1 &&& 31)))) (wc := []) (wr := [oC a_h 3 [.ref a_g, .ref a_h_flipped, .int h_chosen, .int h_age], aI E a_h_flipped 16 h_flipped]) (w1 := []) (va_runS (As := [.int ((1 : Int32) <<< (r_1 &&& 31))]) (rest := []) S (c_X3_priceOf l E ((1 : Int32) <<< (r_1 &&& 31)) (f_X3_priceOf ((1 : Int32) <<< (r_1 &&& 31))) rfl _) (va_cwS 1 S.2.2.2.2 gX3_leastPrice_X3_priceOf rfl rfl rfl (by decide +kernel) (rm_le (by omega) (by decide))) (preS hN hw [] rfl rfl) rfl rfl hl.1 rfl (lv_room (Nat.le_of_ble_eq_true rfl)) dX3_leastPrice_41 ⟨Nat.le_refl _, Nat.le_refl _⟩) hw hA [] [0, 1] rfl rfl rfl (by decide) (fun H locs hw => ?_)
        have hw : Wo E A s [oC a_h 3 [.ref a_g, .ref a_h_flipped, .int h_chosen, .int h_age], aI E a_h_flipped 16 h_flipped] H _ := hw
        refine lv_aload_n S.1 S.2.1 dX3_leastPrice_44 rfl (lv_at hl 3 rfl) ?_
        refine lv_iload S.1 S.2.1 dX3_leastPrice_45 (lv_at hl 0 rfl) ?_
        refine lv_iload_n S.1 S.2.1 dX3_leastPrice_47 rfl (lv_at hl 5 rfl) ?_
        refine lv_iconst (v := 1) S.1 S.2.1 dX3_leastPrice_48 (by decide) ?_
        refine lv_iadd S.1 S.2.1 dX3_leastPrice_49 ?_
        obtain ⟨r_8, hc_8, hf⟩ := bd_s hf
        refine g_calli (r := r_8) (wc := [oC a_h 3 [.ref a_g, .ref a_h_flipped, .int h_chosen, .int h_age], aI E a_h_flipped 16 h_flipped]) (wr := []) (w1 := [oC a_h 3 [.ref a_g, .ref a_h_flipped, .int h_chosen, .int h_age], aI E a_h_flipped 16 h_flipped]) (va_runV (As := [.int (p1 &&& (((1 : Int32) <<< (r_1 &&& 31)) ^^^ (-1))), .int (p2 + 1)]) (rest := [.int (f_X3_priceOf ((1 : Int32) <<< (r_1 &&& 31)))]) S (ihd (p1 &&& (((1 : Int32) <<< (r_1 &&& 31)) ^^^ (-1))) (p2 + 1) r_8 hc_8 _) (cwV 2 S.2.2.2.2 gX3_leastPrice_X3_leastPrice rfl rfl rfl (by decide +kernel) (rm_le (by omega) (by decide))) (preV (q := (RX3, TX3, 4)) hN hw [0, 1] rfl rfl rfl rfl) rfl rfl hl.1 rfl (lv_room (Nat.le_of_ble_eq_true rfl)) dX3_leastPrice_50 ⟨Nat.le_refl _, Nat.le_refl _⟩) hw hA [0, 1] [] rfl rfl rfl (by decide) (fun H locs hw => ?_)
        have hw : Wo E A s [oC a_h 3 [.ref a_g, .ref a_h_flipped, .int h_chosen, .int h_age], aI E a_h_flipped 16 h_flipped] H _ := hw
        refine lv_iadd S.1 S.2.1 dX3_leastPrice_53 ?_
        refine lv_istore (lv' := [(6, .int ((f_X3_priceOf ((1 : Int32) <<< (r_1 &&& 31))) + r_8)), (5, .int (p1 &&& (((1 : Int32) <<< (r_1 &&& 31)) ^^^ (-1)))), (4, .int (y_5 &&& p1)), (3, .int r_1), (0, .ref a_h), (1, .int p1), (2, .int p2)]) S.1 S.2.1 dX3_leastPrice_54 hl (by decide) rfl (fun ls hl => ?_)
        refine lv_iload S.1 S.2.1 dX3_leastPrice_56 (lv_at hl 2 rfl) ?_
        refine g_calli (r := (f_X3_priceOf (y_5 &&& p1))) (wc := []) (wr := [oC a_h 3 [.ref a_g, .ref a_h_flipped, .int h_chosen, .int h_age], aI E a_h_flipped 16 h_flipped]) (w1 := []) (va_runS (As := [.int (y_5 &&& p1)]) (rest := []) S (c_X3_priceOf l E (y_5 &&& p1) (f_X3_priceOf (y_5 &&& p1)) rfl _) (va_cwS 1 S.2.2.2.2 gX3_leastPrice_X3_priceOf rfl rfl rfl (by decide +kernel) (rm_le (by omega) (by decide))) (preS hN hw [] rfl rfl) rfl rfl hl.1 rfl (lv_room (Nat.le_of_ble_eq_true rfl)) dX3_leastPrice_58 ⟨Nat.le_refl _, Nat.le_refl _⟩) hw hA [] [0, 1] rfl rfl rfl (by decide) (fun H locs hw => ?_)
        have hw : Wo E A s [oC a_h 3 [.ref a_g, .ref a_h_flipped, .int h_chosen, .int h_age], aI E a_h_flipped 16 h_flipped] H _ := hw
        refine lv_aload_n S.1 S.2.1 dX3_leastPrice_61 rfl (lv_at hl 4 rfl) ?_
        refine lv_iload S.1 S.2.1 dX3_leastPrice_62 (lv_at hl 1 rfl) ?_
        refine lv_iload S.1 S.2.1 dX3_leastPrice_64 (lv_at hl 2 rfl) ?_
        refine lv_iconst (v := (-1)) S.1 S.2.1 dX3_leastPrice_66 (by decide) ?_
        refine lv_ixor S.1 S.2.1 dX3_leastPrice_67 ?_
        refine lv_iand S.1 S.2.1 dX3_leastPrice_68 ?_
        refine lv_iload_n S.1 S.2.1 dX3_leastPrice_69 rfl (lv_at hl 6 rfl) ?_
        refine lv_iconst (v := 1) S.1 S.2.1 dX3_leastPrice_70 (by decide) ?_
        refine lv_iadd S.1 S.2.1 dX3_leastPrice_71 ?_
        obtain ⟨r_12, hc_12, hf⟩ := bd_s hf
        refine g_calli (r := r_12) (wc := [oC a_h 3 [.ref a_g, .ref a_h_flipped, .int h_chosen, .int h_age], aI E a_h_flipped 16 h_flipped]) (wr := []) (w1 := [oC a_h 3 [.ref a_g, .ref a_h_flipped, .int h_chosen, .int h_age], aI E a_h_flipped 16 h_flipped]) (va_runV (As := [.int ((p1 &&& (((1 : Int32) <<< (r_1 &&& 31)) ^^^ (-1))) &&& ((y_5 &&& p1) ^^^ (-1))), .int (p2 + 1)]) (rest := [.int (f_X3_priceOf (y_5 &&& p1))]) S (ihd ((p1 &&& (((1 : Int32) <<< (r_1 &&& 31)) ^^^ (-1))) &&& ((y_5 &&& p1) ^^^ (-1))) (p2 + 1) r_12 hc_12 _) (cwV 2 S.2.2.2.2 gX3_leastPrice_X3_leastPrice rfl rfl rfl (by decide +kernel) (rm_le (by omega) (by decide))) (preV (q := (RX3, TX3, 4)) hN hw [0, 1] rfl rfl rfl rfl) rfl rfl hl.1 rfl (lv_room (Nat.le_of_ble_eq_true rfl)) dX3_leastPrice_72 ⟨Nat.le_refl _, Nat.le_refl _⟩) hw hA [0, 1] [] rfl rfl rfl (by decide) (fun H locs hw => ?_)
        have hw : Wo E A s [oC a_h 3 [.ref a_g, .ref a_h_flipped, .int h_chosen, .int h_age], aI E a_h_flipped 16 h_flipped] H _ := hw
        refine lv_iadd S.1 S.2.1 dX3_leastPrice_75 ?_
        refine lv_istore (lv' := [(7, .int ((f_X3_priceOf (y_5 &&& p1)) + r_12)), (6, .int ((f_X3_priceOf ((1 : Int32) <<< (r_1 &&& 31))) + r_8)), (5, .int (p1 &&& (((1 : Int32) <<< (r_1 &&& 31)) ^^^ (-1)))), (4, .int (y_5 &&& p1)), (3, .int r_1), (0, .ref a_h), (1, .int p1), (2, .int p2)]) S.1 S.2.1 dX3_leastPrice_76 hl (by decide) rfl (fun ls hl => ?_)
        refine lv_iload S.1 S.2.1 dX3_leastPrice_78 (lv_at hl 1 rfl) ?_
        refine lv_iload S.1 S.2.1 dX3_leastPrice_80 (lv_at hl 0 rfl) ?_
        refine va_mmin S.1 S.2.1 (S.2.2.1.trans hl.1.symm) S.2.2.2.1 k56 kmn1 kmn2 kmn3 (rm_f (by omega)) (rm_l (Nat.le_trans (Nat.le_of_ble_eq_true rfl : _ ≤ 40) (by omega))) (Nat.le_refl _) (Nat.le_refl _) dX3_leastPrice_82 ?_
        cases hf
        exact hE _ _ _ _ hw dX3_leastPrice_85
      · replace hf := if_t h_4 hf
        refine lv_iconst (v := 0) S.1 S.2.1 dX3_leastPrice_17 (by decide) ?_
        cases hf
        exact hE _ _ _ _ hw dX3_leastPrice_18
def f_X3_nodesOf (p1 : Int32) : Int32 :=
  ((-p1) &&& 65535)
set_option maxHeartbeats 4000000 in
set_option maxRecDepth 100000 in
theorem c_X3_nodesOf (l : Launch) (E : Ev) (p1 : Int32) (ro : Int32) (hf : f_X3_nodesOf p1 = ro) :
    CtI l yX3_nodesOf wsX3_nodesOf (Rm 0) E [.int p1] [] ro [] := by
  refine ofI (cc := cX3_nodesOf) (maxL := 1) (own := RX3) rfl rfl (by decide) rfl rfl ?_
  intro p e s m below meth c A ls Q S hnm hN hw hA hl0 hE
  have hl : lv_has ls 1 [(0, .int p1)] := hl0 _ (lv_entry [.int p1] (n := 1) (Nat.le_of_ble_eq_true rfl))
  have k33 := S.2.2.2.2 (.constant RX3 33 65535) (by decide +kernel)
  unfold f_X3_nodesOf at hf
  refine lv_iload_n S.1 S.2.1 dX3_nodesOf_0 rfl (lv_at hl 0 rfl) ?_
  refine lv_ineg S.1 S.2.1 dX3_nodesOf_1 ?_
  refine lv_ldc (v := 65535) S.1 S.2.1 S.2.2.2.1 k33 dX3_nodesOf_2 ?_
  refine lv_iand S.1 S.2.1 dX3_nodesOf_4 ?_
  cases hf
  exact hE _ _ _ _ hw dX3_nodesOf_5
def f_X3_refresh_L27 (F : Nat) (g_joined : Nat → Int32) (kk_60_8 : (Nat → Int32) → Option (Int32 × Int32 × (Nat → Int32))) : Nat → Int32 → (Nat → Int32) → Option (Int32 × Int32 × (Nat → Int32))
  | 0, _, _ => none
  | n + 1, v1_10, h_flipped_11 => (if 16 ≤ v1_10 then (kk_60_8 h_flipped_11) else rd 16 g_joined v1_10 (fun y_13 => (f_X3_flip F y_13).bind (fun r_14 => wr 16 h_flipped_11 (15 - v1_10) r_14 (fun h_flipped_16 => (f_X3_refresh_L27 F g_joined kk_60_8 n (v1_10 + 1) h_flipped_16)))))
def f_X3_refresh (F : Nat) (g_age : Int32) (g_joined : Nat → Int32) (h_flipped : Nat → Int32) (h_chosen : Int32) (h_age : Int32) : Option (Int32 × Int32 × (Nat → Int32)) :=
  (if h_age = g_age then some (h_chosen, h_age, h_flipped) else (jn (fun (h_flipped_2 : Nat → Int32) => (f_X3_leastPrice F h_flipped_2 18 65535 0).bind (fun r_3 => (f_X3_flip F (f_X3_nodesOf r_3)).bind (fun r_7 => some (r_7, g_age, h_flipped_2)))) (fun kk_60_8 => (f_X3_refresh_L27 F g_joined kk_60_8 F 0 h_flipped))))
set_option maxHeartbeats 4000000 in
set_option maxRecDepth 100000 in
theorem c_X3_refresh (l : Launch) (E : Ev) (F : Nat) (g_nodes : Int32) (g_made : Int32) (g_living : Int32) (g_age : Int32) (a_g_oneEnd : Nat) (a_g_otherEnd : Nat) (a_g_weights : Nat) (a_g_alive : Nat) (g_joined : Nat → Int32) (a_g_joined : Nat) (a_g : Nat) (h_flipped : Nat → Int32) (a_h_flipped : Nat) (h_chosen : Int32) (h_age : Int32) (a_h : Nat) (u_h_chosen : Int32) (u_h_age : Int32) (u_h_flipped : Nat → Int32) (hf : f_X3_refresh F g_age g_joined h_flipped h_chosen h_age = some (u_h_chosen, u_h_age, u_h_flipped)) :
    CtV l yX3_refresh wsX3_refresh (Rm 21) E [.ref a_h] [oC a_h 3 [.ref a_g, .ref a_h_flipped, .int h_chosen, .int h_age], oC a_g 2 [.int g_nodes, .int g_made, .int g_living, .int g_age, .ref a_g_oneEnd, .ref a_g_otherEnd, .ref a_g_weights, .ref a_g_alive, .ref a_g_joined], aI E a_g_joined 16 g_joined, aI E a_h_flipped 16 h_flipped] [oC a_h 3 [.ref a_g, .ref a_h_flipped, .int u_h_chosen, .int u_h_age], oC a_g 2 [.int g_nodes, .int g_made, .int g_living, .int g_age, .ref a_g_oneEnd, .ref a_g_otherEnd, .ref a_g_weights, .ref a_g_alive, .ref a_g_joined], aI E a_g_joined 16 g_joined, aI E a_h_flipped 16 u_h_flipped] := by
  refine ofV (cc := cX3_refresh) (maxL := 2) (own := RX3) rfl rfl (by decide) rfl rfl ?_
  intro p e s m below meth c A ls Q S hnm hN hw hA hl0 hE
  have hl : lv_has ls 2 [(0, .ref a_h)] := hl0 _ (lv_entry [.ref a_h] (n := 2) (Nat.le_of_ble_eq_true rfl))
  have iX2 : ∀ w ∈ wsX20, w ∈ wsX3_refresh := by decide +kernel
  have iX3 : ∀ w ∈ wsX30, w ∈ wsX3_refresh := by decide +kernel
  have k15 := S.2.2.2.2 (.fieldLink RX3 15 "PairMatching$Holds" "age" "I") (by decide +kernel)
  have k19 := S.2.2.2.2 (.fieldLink RX3 19 "PairMatching$Holds" "graph" "LPairMatching$Graph;") (by decide +kernel)
  have k33 := S.2.2.2.2 (.constant RX3 33 65535) (by decide +kernel)
  have k41 := S.2.2.2.2 (.fieldLink RX3 41 "PairMatching$Holds" "chosen" "I") (by decide +kernel)
  have k9 := S.2.2.2.2 (.fieldLink RX3 9 "PairMatching$Holds" "flipped" "[I") (by decide +kernel)
  have w23 : Cond.fieldLinkNest RX3 23 "PairMatching$Graph" "age" "I" "PairMatching" ∈ nestW := List.mem_of_getElem? (i := 15) rfl
  have w26 : Cond.fieldLinkNest RX3 26 "PairMatching$Graph" "joined" "[I" "PairMatching" ∈ nestW := List.mem_of_getElem? (i := 33) rfl
  unfold f_X3_refresh at hf
  refine lv_aload_n S.1 S.2.1 dX3_refresh_0 rfl (lv_at hl 0 rfl) ?_
  refine g_get S hN hw (C := RX3) (T := TX3) (N := 4) (ci := 3) (v := .int h_age) 0 3 iX3 k15 dX3_refresh_1 rfl rfl (by decide) rfl ?_
  refine lv_aload_n S.1 S.2.1 dX3_refresh_4 rfl (lv_at hl 0 rfl) ?_
  refine g_get S hN hw (C := RX3) (T := TX3) (N := 4) (ci := 3) (v := .ref a_g) 0 0 iX3 k19 dX3_refresh_5 rfl rfl (by decide) rfl ?_
  refine g_getN S hN hw (C := RX2) (T := TX2) (N := 9) (ci := 2) (v := .int g_age) 1 3 iX2 w23 dX3_refresh_8 rfl rfl (by decide) rfl ?_
  refine lv_icmp_eq (tgt := 77) S.1 S.2.1 dX3_refresh_11 (by decide) (fun h_1 => ?_) (fun h_1 => ?_)
  · replace hf := if_t h_1 hf
    cases hf
    exact hE _ _ _ _ hw dX3_refresh_77
  · replace hf := if_f h_1 hf
    refine lv_aload_n S.1 S.2.1 dX3_refresh_14 rfl (lv_at hl 0 rfl) ?_
    refine lv_aload_n S.1 S.2.1 dX3_refresh_15 rfl (lv_at hl 0 rfl) ?_
    refine g_get S hN hw (C := RX3) (T := TX3) (N := 4) (ci := 3) (v := .ref a_g) 0 0 iX3 k19 dX3_refresh_16 rfl rfl (by decide) rfl ?_
    refine g_getN S hN hw (C := RX2) (T := TX2) (N := 9) (ci := 2) (v := .int g_age) 1 3 iX2 w23 dX3_refresh_19 rfl rfl (by decide) rfl ?_
    refine g_put S hN hw (C := RX3) (T := TX3) (N := 4) (ci := 3) (ty := .int) (w1 := [oC a_h 3 [.ref a_g, .ref a_h_flipped, .int h_chosen, .int g_age], oC a_g 2 [.int g_nodes, .int g_made, .int g_living, .int g_age, .ref a_g_oneEnd, .ref a_g_otherEnd, .ref a_g_weights, .ref a_g_alive, .ref a_g_joined], aI E a_g_joined 16 g_joined, aI E a_h_flipped 16 h_flipped]) 0 3 iX3 k15 tyX3 tyX3_ok nmX3 dX3_refresh_22 rfl rfl (by decide) rfl (by decide +kernel) rfl rfl (Nat.le_of_ble_eq_true rfl) rfl (fun H locs hw => ?_)
    refine lv_iconst (v := 0) S.1 S.2.1 dX3_refresh_25 (by decide) ?_
    refine lv_istore_n (lv' := [(1, .int 0), (0, .ref a_h)]) S.1 S.2.1 dX3_refresh_26 rfl hl (by decide) rfl (fun ls hl => ?_)
    obtain ⟨kk_60_8, ekk_60_8, hf⟩ := jn_s hf
    have hJ_kk_60_8 : ∀ (h_flipped_2 : Nat → Int32) (H : Heap) (locs : List Loc) (ls : Array Slot), Wo E A s [oC a_h 3 [.ref a_g, .ref a_h_flipped, .int h_chosen, .int g_age], oC a_g 2 [.int g_nodes, .int g_made, .int g_living, .int g_age, .ref a_g_oneEnd, .ref a_g_otherEnd, .ref a_g_weights, .ref a_g_alive, .ref a_g_joined], aI E a_g_joined 16 g_joined, aI E a_h_flipped 16 h_flipped_2] H locs → lv_has ls 2 [(0, .ref a_h)] → kk_60_8 h_flipped_2 = some (u_h_chosen, u_h_age, u_h_flipped) → W p l e (Rm 21) s m (([.ref a_h] : List Value).toArray) below meth c H locs 0 0 Q (F0 m 60 ls []) := by
      intro h_flipped_2 H locs ls hw hl hf
      rw [ekk_60_8] at hf
      refine lv_aload_n S.1 S.2.1 dX3_refresh_60 rfl (lv_at hl 0 rfl) ?_
      refine lv_aload_n S.1 S.2.1 dX3_refresh_61 rfl (lv_at hl 0 rfl) ?_
      refine lv_ldc (v := 65535) S.1 S.2.1 S.2.2.2.1 k33 dX3_refresh_62 ?_
      refine lv_iconst (v := 0) S.1 S.2.1 dX3_refresh_64 (by decide) ?_
      obtain ⟨r_3, hc_3, hf⟩ := bd_s hf
      refine g_calli (r := r_3) (wc := [oC a_h 3 [.ref a_g, .ref a_h_flipped, .int h_chosen, .int g_age], aI E a_h_flipped 16 h_flipped_2]) (wr := [oC a_g 2 [.int g_nodes, .int g_made, .int g_living, .int g_age, .ref a_g_oneEnd, .ref a_g_otherEnd, .ref a_g_weights, .ref a_g_alive, .ref a_g_joined], aI E a_g_joined 16 g_joined]) (w1 := [oC a_h 3 [.ref a_g, .ref a_h_flipped, .int h_chosen, .int g_age], aI E a_h_flipped 16 h_flipped_2]) (va_runV (As := [.int 65535, .int 0]) (rest := [.ref a_h]) S (c_X3_leastPrice l E F a_g h_flipped_2 a_h_flipped h_chosen g_age a_h 18 65535 0 r_3 hc_3 _) (cwV 2 S.2.2.2.2 gX3_refresh_X3_leastPrice rfl rfl rfl (by decide +kernel) (rm_le (by omega) (by decide))) (preV (q := (RX3, TX3, 4)) hN hw [0, 3] rfl rfl rfl rfl) rfl rfl hl.1 rfl (lv_room (Nat.le_of_ble_eq_true rfl)) dX3_refresh_65 ⟨Nat.le_refl _, Nat.le_refl _⟩) hw hA [0, 3] [1, 2] rfl rfl rfl (by decide) (fun H locs hw => ?_)
      have hw : Wo E A s [oC a_g 2 [.int g_nodes, .int g_made, .int g_living, .int g_age, .ref a_g_oneEnd, .ref a_g_otherEnd, .ref a_g_weights, .ref a_g_alive, .ref a_g_joined], aI E a_g_joined 16 g_joined, oC a_h 3 [.ref a_g, .ref a_h_flipped, .int h_chosen, .int g_age], aI E a_h_flipped 16 h_flipped_2] H _ := hw
      refine g_calli (r := (f_X3_nodesOf r_3)) (wc := []) (wr := [oC a_g 2 [.int g_nodes, .int g_made, .int g_living, .int g_age, .ref a_g_oneEnd, .ref a_g_otherEnd, .ref a_g_weights, .ref a_g_alive, .ref a_g_joined], aI E a_g_joined 16 g_joined, oC a_h 3 [.ref a_g, .ref a_h_flipped, .int h_chosen, .int g_age], aI E a_h_flipped 16 h_flipped_2]) (w1 := []) (va_runS (As := [.int r_3]) (rest := [.ref a_h]) S (c_X3_nodesOf l E r_3 (f_X3_nodesOf r_3) rfl _) (va_cwS 1 S.2.2.2.2 gX3_refresh_X3_nodesOf rfl rfl rfl (by decide +kernel) (rm_le (by omega) (by decide))) (preS hN hw [] rfl rfl) rfl rfl hl.1 rfl (lv_room (Nat.le_of_ble_eq_true rfl)) dX3_refresh_68 ⟨Nat.le_refl _, Nat.le_refl _⟩) hw hA [] [0, 1, 2, 3] rfl rfl rfl (by decide) (fun H locs hw => ?_)
      have hw : Wo E A s [oC a_g 2 [.int g_nodes, .int g_made, .int g_living, .int g_age, .ref a_g_oneEnd, .ref a_g_otherEnd, .ref a_g_weights, .ref a_g_alive, .ref a_g_joined], aI E a_g_joined 16 g_joined, oC a_h 3 [.ref a_g, .ref a_h_flipped, .int h_chosen, .int g_age], aI E a_h_flipped 16 h_flipped_2] H _ := hw
      obtain ⟨r_7, hc_7, hf⟩ := bd_s hf
      refine g_calli (r := r_7) (wc := []) (wr := [oC a_g 2 [.int g_nodes, .int g_made, .int g_living, .int g_age, .ref a_g_oneEnd, .ref a_g_otherEnd, .ref a_g_weights, .ref a_g_alive, .ref a_g_joined], aI E a_g_joined 16 g_joined, oC a_h 3 [.ref a_g, .ref a_h_flipped, .int h_chosen, .int g_age], aI E a_h_flipped 16 h_flipped_2]) (w1 := []) (va_runS (As := [.int (f_X3_nodesOf r_3)]) (rest := [.ref a_h]) S (c_X3_flip l E F (f_X3_nodesOf r_3) r_7 hc_7 _) (va_cwS 1 S.2.2.2.2 gX3_refresh_X3_flip rfl rfl rfl (by decide +kernel) (rm_le (by omega) (by decide))) (preS hN hw [] rfl rfl) rfl rfl hl.1 rfl (lv_room (Nat.le_of_ble_eq_true rfl)) dX3_refresh_71 ⟨Nat.le_refl _, Nat.le_refl _⟩) hw hA [] [0, 1, 2, 3] rfl rfl rfl (by decide) (fun H locs hw => ?_)
      have hw : Wo E A s [oC a_g 2 [.int g_nodes, .int g_made, .int g_living, .int g_age, .ref a_g_oneEnd, .ref a_g_otherEnd, .ref a_g_weights, .ref a_g_alive, .ref a_g_joined], aI E a_g_joined 16 g_joined, oC a_h 3 [.ref a_g, .ref a_h_flipped, .int h_chosen, .int g_age], aI E a_h_flipped 16 h_flipped_2] H _ := hw
      refine g_put S hN hw (C := RX3) (T := TX3) (N := 4) (ci := 3) (ty := .int) (w1 := [oC a_g 2 [.int g_nodes, .int g_made, .int g_living, .int g_age, .ref a_g_oneEnd, .ref a_g_otherEnd, .ref a_g_weights, .ref a_g_alive, .ref a_g_joined], aI E a_g_joined 16 g_joined, oC a_h 3 [.ref a_g, .ref a_h_flipped, .int r_7, .int g_age], aI E a_h_flipped 16 h_flipped_2]) 2 2 iX3 k41 tyX3 tyX3_ok nmX3 dX3_refresh_74 rfl rfl (by decide) rfl (by decide +kernel) rfl rfl (Nat.le_of_ble_eq_true rfl) rfl (fun H locs hw => ?_)
      cases hf
      exact hE _ _ _ _ (hw.sub [2, 0, 1, 3] rfl rfl) dX3_refresh_77
    have hL_27_16 : ∀ (n : Nat) (v1_10 : Int32) (h_flipped_11 : Nat → Int32) (H : Heap) (locs : List Loc) (ls : Array Slot), Wo E A s [oC a_h 3 [.ref a_g, .ref a_h_flipped, .int h_chosen, .int g_age], oC a_g 2 [.int g_nodes, .int g_made, .int g_living, .int g_age, .ref a_g_oneEnd, .ref a_g_otherEnd, .ref a_g_weights, .ref a_g_alive, .ref a_g_joined], aI E a_g_joined 16 g_joined, aI E a_h_flipped 16 h_flipped_11] H locs → lv_has ls 2 [(0, .ref a_h), (1, .int v1_10)] → f_X3_refresh_L27 F g_joined kk_60_8 n v1_10 h_flipped_11 = some (u_h_chosen, u_h_age, u_h_flipped) → W p l e (Rm 21) s m (([.ref a_h] : List Value).toArray) below meth c H locs 0 0 Q (F0 m 27 ls []) := by
      intro n
      induction n with
      | zero => intro v1_10 h_flipped_11 H locs ls hw hl hf; unfold f_X3_refresh_L27 at hf; cases hf
      | succ n ih =>
        intro v1_10 h_flipped_11 H locs ls hw hl hf
        unfold f_X3_refresh_L27 at hf
        refine lv_iload_n S.1 S.2.1 dX3_refresh_27 rfl (lv_at hl 1 rfl) ?_
        refine lv_bipush (v := 16) S.1 S.2.1 dX3_refresh_28 (by decide) ?_
        refine lv_icmp_ge (tgt := 60) S.1 S.2.1 dX3_refresh_30 (by decide) (fun h_12 => ?_) (fun h_12 => ?_)
        · replace hf := if_t h_12 hf
          exact hJ_kk_60_8 h_flipped_11 _ _ _ hw (lv_sub hl [0] rfl) hf
        · replace hf := if_f h_12 hf
          refine lv_aload_n S.1 S.2.1 dX3_refresh_33 rfl (lv_at hl 0 rfl) ?_
          refine g_get S hN hw (C := RX3) (T := TX3) (N := 4) (ci := 3) (v := .ref a_h_flipped) 0 1 iX3 k9 dX3_refresh_34 rfl rfl (by decide) rfl ?_
          refine lv_bipush (v := 15) S.1 S.2.1 dX3_refresh_37 (by decide) ?_
          refine lv_iload_n S.1 S.2.1 dX3_refresh_39 rfl (lv_at hl 1 rfl) ?_
          refine lv_isub S.1 S.2.1 dX3_refresh_40 ?_
          refine lv_aload_n S.1 S.2.1 dX3_refresh_41 rfl (lv_at hl 0 rfl) ?_
          refine g_get S hN hw (C := RX3) (T := TX3) (N := 4) (ci := 3) (v := .ref a_g) 0 0 iX3 k19 dX3_refresh_42 rfl rfl (by decide) rfl ?_
          refine g_getN S hN hw (C := RX2) (T := TX2) (N := 9) (ci := 2) (v := .ref a_g_joined) 1 8 iX2 w26 dX3_refresh_45 rfl rfl (by decide) rfl ?_
          refine lv_iload_n S.1 S.2.1 dX3_refresh_48 rfl (lv_at hl 1 rfl) ?_
          obtain ⟨hi_12, hf⟩ := rd_s hf
          refine g_iald (n := 16) (f := g_joined) S hN hw 2 hi_12 dX3_refresh_49 rfl ?_
          generalize g_joined (v1_10 : Int32).toNatClampNeg = y_13 at hf ⊢
          obtain ⟨r_14, hc_14, hf⟩ := bd_s hf
          refine g_calli (r := r_14) (wc := []) (wr := [oC a_h 3 [.ref a_g, .ref a_h_flipped, .int h_chosen, .int g_age], oC a_g 2 [.int g_nodes, .int g_made, .int g_living, .int g_age, .ref a_g_oneEnd, .ref a_g_otherEnd, .ref a_g_weights, .ref a_g_alive, .ref a_g_joined], aI E a_g_joined 16 g_joined, aI E a_h_flipped 16 h_flipped_11]) (w1 := []) (va_runS (As := [.int y_13]) (rest := [.int (15 - v1_10), .ref a_h_flipped]) S (c_X3_flip l E F y_13 r_14 hc_14 _) (va_cwS 1 S.2.2.2.2 gX3_refresh_X3_flip rfl rfl rfl (by decide +kernel) (rm_le (by omega) (by decide))) (preS hN hw [] rfl rfl) rfl rfl hl.1 rfl (lv_room (Nat.le_of_ble_eq_true rfl)) dX3_refresh_50 ⟨Nat.le_refl _, Nat.le_refl _⟩) hw hA [] [0, 1, 2, 3] rfl rfl rfl (by decide) (fun H locs hw => ?_)
          have hw : Wo E A s [oC a_h 3 [.ref a_g, .ref a_h_flipped, .int h_chosen, .int g_age], oC a_g 2 [.int g_nodes, .int g_made, .int g_living, .int g_age, .ref a_g_oneEnd, .ref a_g_otherEnd, .ref a_g_weights, .ref a_g_alive, .ref a_g_joined], aI E a_g_joined 16 g_joined, aI E a_h_flipped 16 h_flipped_11] H _ := hw
          obtain ⟨hi_15, hf⟩ := wr_s hf
          refine g_iast (n := 16) (f := h_flipped_11) (w1 := [oC a_h 3 [.ref a_g, .ref a_h_flipped, .int h_chosen, .int g_age], oC a_g 2 [.int g_nodes, .int g_made, .int g_living, .int g_age, .ref a_g_oneEnd, .ref a_g_otherEnd, .ref a_g_weights, .ref a_g_alive, .ref a_g_joined], aI E a_g_joined 16 g_joined, aI E a_h_flipped 16 (va_up h_flipped_11 ((15 - v1_10) : Int32).toNatClampNeg r_14)]) S hN hw 3 hi_15 dX3_refresh_53 rfl rfl (fun H locs hw => ?_)
          generalize va_up h_flipped_11 ((15 - v1_10) : Int32).toNatClampNeg r_14 = h_flipped_16 at hf hw
          refine lv_iinc (v := (v1_10 + 1)) (lv' := [(1, .int (v1_10 + 1)), (0, .ref a_h)]) S.1 S.2.1 dX3_refresh_54 hl (k := 1) rfl rfl (by decide) rfl (fun ls hl => ?_)
          refine lv_goto (tgt := 27) S.1 S.2.1 dX3_refresh_57 (by decide) ?_
          exact ih (v1_10 + 1) h_flipped_16 _ _ _ hw (lv_sub hl [1, 0] rfl) hf
    exact hL_27_16 F 0 h_flipped _ _ _ hw (lv_sub hl [1, 0] rfl) hf
def f_X4_refresh (g_age : Int32) (j_isTold : Int32) (j_pathsKnown : Int32) (j_age : Int32) : Option (Int32 × Int32 × Int32) :=
  (if j_age = g_age then some (j_isTold, j_pathsKnown, j_age) else some (0, 0, g_age))
set_option maxHeartbeats 4000000 in
set_option maxRecDepth 100000 in
theorem c_X4_refresh (l : Launch) (E : Ev) (g_nodes : Int32) (g_made : Int32) (g_living : Int32) (g_age : Int32) (a_g_oneEnd : Nat) (a_g_otherEnd : Nat) (a_g_weights : Nat) (a_g_alive : Nat) (a_g_joined : Nat) (a_g : Nat) (a_c : Nat) (a_j_reached : Nat) (j_told : Int64) (j_isTold : Int32) (j_pathsKnown : Int32) (j_age : Int32) (a_j : Nat) (u_j_isTold : Int32) (u_j_pathsKnown : Int32) (u_j_age : Int32) (hf : f_X4_refresh g_age j_isTold j_pathsKnown j_age = some (u_j_isTold, u_j_pathsKnown, u_j_age)) :
    CtV l yX4_refresh wsX4_refresh (Rm 0) E [.ref a_j] [oC a_j 4 [.ref a_g, .ref a_c, .ref a_j_reached, .long j_told, .int j_isTold, .int j_pathsKnown, .int j_age], oC a_g 2 [.int g_nodes, .int g_made, .int g_living, .int g_age, .ref a_g_oneEnd, .ref a_g_otherEnd, .ref a_g_weights, .ref a_g_alive, .ref a_g_joined]] [oC a_j 4 [.ref a_g, .ref a_c, .ref a_j_reached, .long j_told, .int u_j_isTold, .int u_j_pathsKnown, .int u_j_age], oC a_g 2 [.int g_nodes, .int g_made, .int g_living, .int g_age, .ref a_g_oneEnd, .ref a_g_otherEnd, .ref a_g_weights, .ref a_g_alive, .ref a_g_joined]] := by
  refine ofV (cc := cX4_refresh) (maxL := 1) (own := RX4) rfl rfl (by decide) rfl rfl ?_
  intro p e s m below meth c A ls Q S hnm hN hw hA hl0 hE
  have hl : lv_has ls 1 [(0, .ref a_j)] := hl0 _ (lv_entry [.ref a_j] (n := 1) (Nat.le_of_ble_eq_true rfl))
  have iX2 : ∀ w ∈ wsX20, w ∈ wsX4_refresh := by decide +kernel
  have iX4 : ∀ w ∈ wsX40, w ∈ wsX4_refresh := by decide +kernel
  have k22 := S.2.2.2.2 (.fieldLink RX4 22 "PairMatching$Joins" "age" "I") (by decide +kernel)
  have k26 := S.2.2.2.2 (.fieldLink RX4 26 "PairMatching$Joins" "graph" "LPairMatching$Graph;") (by decide +kernel)
  have k33 := S.2.2.2.2 (.fieldLink RX4 33 "PairMatching$Joins" "isTold" "Z") (by decide +kernel)
  have k37 := S.2.2.2.2 (.fieldLink RX4 37 "PairMatching$Joins" "pathsKnown" "Z") (by decide +kernel)
  have w30 : Cond.fieldLinkNest RX4 30 "PairMatching$Graph" "age" "I" "PairMatching" ∈ nestW := List.mem_of_getElem? (i := 16) rfl
  unfold f_X4_refresh at hf
  refine lv_aload_n S.1 S.2.1 dX4_refresh_0 rfl (lv_at hl 0 rfl) ?_
  refine g_get S hN hw (C := RX4) (T := TX4) (N := 7) (ci := 4) (v := .int j_age) 0 6 iX4 k22 dX4_refresh_1 rfl rfl (by decide) rfl ?_
  refine lv_aload_n S.1 S.2.1 dX4_refresh_4 rfl (lv_at hl 0 rfl) ?_
  refine g_get S hN hw (C := RX4) (T := TX4) (N := 7) (ci := 4) (v := .ref a_g) 0 0 iX4 k26 dX4_refresh_5 rfl rfl (by decide) rfl ?_
  refine g_getN S hN hw (C := RX2) (T := TX2) (N := 9) (ci := 2) (v := .int g_age) 1 3 iX2 w30 dX4_refresh_8 rfl rfl (by decide) rfl ?_
  refine lv_icmp_eq (tgt := 35) S.1 S.2.1 dX4_refresh_11 (by decide) (fun h_1 => ?_) (fun h_1 => ?_)
  · replace hf := if_t h_1 hf
    cases hf
    exact hE _ _ _ _ hw dX4_refresh_35
  · replace hf := if_f h_1 hf
    refine lv_aload_n S.1 S.2.1 dX4_refresh_14 rfl (lv_at hl 0 rfl) ?_
    refine lv_aload_n S.1 S.2.1 dX4_refresh_15 rfl (lv_at hl 0 rfl) ?_
    refine g_get S hN hw (C := RX4) (T := TX4) (N := 7) (ci := 4) (v := .ref a_g) 0 0 iX4 k26 dX4_refresh_16 rfl rfl (by decide) rfl ?_
    refine g_getN S hN hw (C := RX2) (T := TX2) (N := 9) (ci := 2) (v := .int g_age) 1 3 iX2 w30 dX4_refresh_19 rfl rfl (by decide) rfl ?_
    refine g_put S hN hw (C := RX4) (T := TX4) (N := 7) (ci := 4) (ty := .int) (w1 := [oC a_j 4 [.ref a_g, .ref a_c, .ref a_j_reached, .long j_told, .int j_isTold, .int j_pathsKnown, .int g_age], oC a_g 2 [.int g_nodes, .int g_made, .int g_living, .int g_age, .ref a_g_oneEnd, .ref a_g_otherEnd, .ref a_g_weights, .ref a_g_alive, .ref a_g_joined]]) 0 6 iX4 k22 tyX4 tyX4_ok nmX4 dX4_refresh_22 rfl rfl (by decide) rfl (by decide +kernel) rfl rfl (Nat.le_of_ble_eq_true rfl) rfl (fun H locs hw => ?_)
    refine lv_aload_n S.1 S.2.1 dX4_refresh_25 rfl (lv_at hl 0 rfl) ?_
    refine lv_iconst (v := 0) S.1 S.2.1 dX4_refresh_26 (by decide) ?_
    refine g_put S hN hw (C := RX4) (T := TX4) (N := 7) (ci := 4) (ty := .boolean) (w1 := [oC a_j 4 [.ref a_g, .ref a_c, .ref a_j_reached, .long j_told, .int 0, .int j_pathsKnown, .int g_age], oC a_g 2 [.int g_nodes, .int g_made, .int g_living, .int g_age, .ref a_g_oneEnd, .ref a_g_otherEnd, .ref a_g_weights, .ref a_g_alive, .ref a_g_joined]]) 0 4 iX4 k33 tyX4 tyX4_ok nmX4 dX4_refresh_27 rfl rfl (by decide) rfl (by decide +kernel) rfl rfl (Nat.le_of_ble_eq_true rfl) rfl (fun H locs hw => ?_)
    refine lv_aload_n S.1 S.2.1 dX4_refresh_30 rfl (lv_at hl 0 rfl) ?_
    refine lv_iconst (v := 0) S.1 S.2.1 dX4_refresh_31 (by decide) ?_
    refine g_put S hN hw (C := RX4) (T := TX4) (N := 7) (ci := 4) (ty := .boolean) (w1 := [oC a_j 4 [.ref a_g, .ref a_c, .ref a_j_reached, .long j_told, .int 0, .int 0, .int g_age], oC a_g 2 [.int g_nodes, .int g_made, .int g_living, .int g_age, .ref a_g_oneEnd, .ref a_g_otherEnd, .ref a_g_weights, .ref a_g_alive, .ref a_g_joined]]) 0 5 iX4 k37 tyX4 tyX4_ok nmX4 dX4_refresh_32 rfl rfl (by decide) rfl (by decide +kernel) rfl rfl (Nat.le_of_ble_eq_true rfl) rfl (fun H locs hw => ?_)
    cases hf
    exact hE _ _ _ _ hw dX4_refresh_35
def f_X4_improve (p1 : Int32) (p2 : Int32) (p3 : Int64) (c_gain : Nat → Int32) (c_mark : Nat → Int64) : Option ((Nat → Int32) × (Nat → Int64)) :=
  rd 256 c_gain p1 (fun y_1 => (jn (wr 256 c_gain p1 p2 (fun c_gain_3 => wr 256 c_mark p1 p3 (fun c_mark_4 => some (c_gain_3, c_mark_4)))) (fun jj_40_1 => (if y_1 < p2 then (jj_40_1) else rd 256 c_gain p1 (fun y_6 => (if p2 = y_6 then rd 256 c_mark p1 (fun y_8 => (if (lg_cmp p3 y_8) ≤ 0 then some (c_gain, c_mark) else (jj_40_1))) else some (c_gain, c_mark)))))))
set_option maxHeartbeats 4000000 in
set_option maxRecDepth 100000 in
theorem c_X4_improve (l : Launch) (E : Ev) (a_g : Nat) (a_r : Nat) (c_gain : Nat → Int32) (a_c_gain : Nat) (c_mark : Nat → Int64) (a_c_mark : Nat) (a_c_bestGain : Nat) (a_c_bestMark : Nat) (a_c : Nat) (a_j_reached : Nat) (j_told : Int64) (j_isTold : Int32) (j_pathsKnown : Int32) (j_age : Int32) (a_j : Nat) (p1 : Int32) (p2 : Int32) (p3 : Int64) (u_c_gain : Nat → Int32) (u_c_mark : Nat → Int64) (hf : f_X4_improve p1 p2 p3 c_gain c_mark = some (u_c_gain, u_c_mark)) :
    CtV l yX4_improve wsX4_improve (Rm 0) E [.ref a_j, .int p1, .int p2, .long p3] [oC a_j 4 [.ref a_g, .ref a_c, .ref a_j_reached, .long j_told, .int j_isTold, .int j_pathsKnown, .int j_age], oC a_c 0 [.ref a_r, .ref a_c_gain, .ref a_c_mark, .ref a_c_bestGain, .ref a_c_bestMark], aI E a_c_gain 256 c_gain, aJ E a_c_mark 256 c_mark] [oC a_j 4 [.ref a_g, .ref a_c, .ref a_j_reached, .long j_told, .int j_isTold, .int j_pathsKnown, .int j_age], oC a_c 0 [.ref a_r, .ref a_c_gain, .ref a_c_mark, .ref a_c_bestGain, .ref a_c_bestMark], aI E a_c_gain 256 u_c_gain, aJ E a_c_mark 256 u_c_mark] := by
  refine ofV (cc := cX4_improve) (maxL := 5) (own := RX4) rfl rfl (by decide) rfl rfl ?_
  intro p e s m below meth c A ls Q S hnm hN hw hA hl0 hE
  have hl : lv_has ls 5 [(0, .ref a_j), (1, .int p1), (2, .int p2), (3, .long p3)] := hl0 _ (lv_entry [.ref a_j, .int p1, .int p2, .long p3] (n := 5) (Nat.le_of_ble_eq_true rfl))
  have iX0 : ∀ w ∈ wsX00, w ∈ wsX4_improve := by decide +kernel
  have iX4 : ∀ w ∈ wsX40, w ∈ wsX4_improve := by decide +kernel
  have k12 := S.2.2.2.2 (.fieldLink RX4 12 "PairMatching$Joins" "chooser" "LPairMatching$Chooser;") (by decide +kernel)
  have w114 : Cond.fieldLinkNest RX4 114 "PairMatching$Chooser" "mark" "[J" "PairMatching" ∈ nestW := List.mem_of_getElem? (i := 57) rfl
  have w99 : Cond.fieldLinkNest RX4 99 "PairMatching$Chooser" "gain" "[I" "PairMatching" ∈ nestW := List.mem_of_getElem? (i := 56) rfl
  unfold f_X4_improve at hf
  refine lv_iload_n S.1 S.2.1 dX4_improve_0 rfl (lv_at hl 2 rfl) ?_
  refine lv_aload_n S.1 S.2.1 dX4_improve_1 rfl (lv_at hl 0 rfl) ?_
  refine g_get S hN hw (C := RX4) (T := TX4) (N := 7) (ci := 4) (v := .ref a_c) 0 1 iX4 k12 dX4_improve_2 rfl rfl (by decide) rfl ?_
  refine g_getN S hN hw (C := RX0) (T := TX0) (N := 5) (ci := 0) (v := .ref a_c_gain) 1 1 iX0 w99 dX4_improve_5 rfl rfl (by decide) rfl ?_
  refine lv_iload_n S.1 S.2.1 dX4_improve_8 rfl (lv_at hl 1 rfl) ?_
  obtain ⟨hi_0, hf⟩ := rd_s hf
  refine g_iald (n := 256) (f := c_gain) S hN hw 2 hi_0 dX4_improve_9 rfl ?_
  generalize c_gain (p1 : Int32).toNatClampNeg = y_1 at hf ⊢
  obtain ⟨jj_40_1, ejj_40_1, hf⟩ := jn_s hf
  have hJ_jj_40_1 : ∀  (H : Heap) (locs : List Loc) (ls : Array Slot), Wo E A s [oC a_j 4 [.ref a_g, .ref a_c, .ref a_j_reached, .long j_told, .int j_isTold, .int j_pathsKnown, .int j_age], oC a_c 0 [.ref a_r, .ref a_c_gain, .ref a_c_mark, .ref a_c_bestGain, .ref a_c_bestMark], aI E a_c_gain 256 c_gain, aJ E a_c_mark 256 c_mark] H locs → lv_has ls 5 [(0, .ref a_j), (1, .int p1), (2, .int p2), (3, .long p3)] → jj_40_1 = some (u_c_gain, u_c_mark) → W p l e (Rm 0) s m (([.ref a_j, .int p1, .int p2, .long p3] : List Value).toArray) below meth c H locs 0 0 Q (F0 m 40 ls []) := by
    intro H locs ls hw hl hf
    rw [ejj_40_1] at hf
    refine lv_aload_n S.1 S.2.1 dX4_improve_40 rfl (lv_at hl 0 rfl) ?_
    refine g_get S hN hw (C := RX4) (T := TX4) (N := 7) (ci := 4) (v := .ref a_c) 0 1 iX4 k12 dX4_improve_41 rfl rfl (by decide) rfl ?_
    refine g_getN S hN hw (C := RX0) (T := TX0) (N := 5) (ci := 0) (v := .ref a_c_gain) 1 1 iX0 w99 dX4_improve_44 rfl rfl (by decide) rfl ?_
    refine lv_iload_n S.1 S.2.1 dX4_improve_47 rfl (lv_at hl 1 rfl) ?_
    refine lv_iload_n S.1 S.2.1 dX4_improve_48 rfl (lv_at hl 2 rfl) ?_
    obtain ⟨hi_2, hf⟩ := wr_s hf
    refine g_iast (n := 256) (f := c_gain) (w1 := [oC a_j 4 [.ref a_g, .ref a_c, .ref a_j_reached, .long j_told, .int j_isTold, .int j_pathsKnown, .int j_age], oC a_c 0 [.ref a_r, .ref a_c_gain, .ref a_c_mark, .ref a_c_bestGain, .ref a_c_bestMark], aI E a_c_gain 256 (va_up c_gain (p1 : Int32).toNatClampNeg p2), aJ E a_c_mark 256 c_mark]) S hN hw 2 hi_2 dX4_improve_49 rfl rfl (fun H locs hw => ?_)
    generalize va_up c_gain (p1 : Int32).toNatClampNeg p2 = c_gain_3 at hf hw
    refine lv_aload_n S.1 S.2.1 dX4_improve_50 rfl (lv_at hl 0 rfl) ?_
    refine g_get S hN hw (C := RX4) (T := TX4) (N := 7) (ci := 4) (v := .ref a_c) 0 1 iX4 k12 dX4_improve_51 rfl rfl (by decide) rfl ?_
    refine g_getN S hN hw (C := RX0) (T := TX0) (N := 5) (ci := 0) (v := .ref a_c_mark) 1 2 iX0 w114 dX4_improve_54 rfl rfl (by decide) rfl ?_
    refine lv_iload_n S.1 S.2.1 dX4_improve_57 rfl (lv_at hl 1 rfl) ?_
    refine lv_lload_n S.1 S.2.1 dX4_improve_58 rfl (lv_at hl 3 rfl) ?_
    obtain ⟨hi_3, hf⟩ := wr_s hf
    refine g_last (n := 256) (f := c_mark) (w1 := [oC a_j 4 [.ref a_g, .ref a_c, .ref a_j_reached, .long j_told, .int j_isTold, .int j_pathsKnown, .int j_age], oC a_c 0 [.ref a_r, .ref a_c_gain, .ref a_c_mark, .ref a_c_bestGain, .ref a_c_bestMark], aI E a_c_gain 256 c_gain_3, aJ E a_c_mark 256 (va_up c_mark (p1 : Int32).toNatClampNeg p3)]) S hN hw 3 hi_3 dX4_improve_59 rfl rfl (fun H locs hw => ?_)
    generalize va_up c_mark (p1 : Int32).toNatClampNeg p3 = c_mark_4 at hf hw
    cases hf
    exact hE _ _ _ _ hw dX4_improve_60
  refine lv_icmp_gt (tgt := 40) S.1 S.2.1 dX4_improve_10 (by decide) (fun h_5 => ?_) (fun h_5 => ?_)
  · replace hf := if_t h_5 hf
    exact hJ_jj_40_1 _ _ _ hw hl hf
  · replace hf := if_f h_5 hf
    refine lv_iload_n S.1 S.2.1 dX4_improve_13 rfl (lv_at hl 2 rfl) ?_
    refine lv_aload_n S.1 S.2.1 dX4_improve_14 rfl (lv_at hl 0 rfl) ?_
    refine g_get S hN hw (C := RX4) (T := TX4) (N := 7) (ci := 4) (v := .ref a_c) 0 1 iX4 k12 dX4_improve_15 rfl rfl (by decide) rfl ?_
    refine g_getN S hN hw (C := RX0) (T := TX0) (N := 5) (ci := 0) (v := .ref a_c_gain) 1 1 iX0 w99 dX4_improve_18 rfl rfl (by decide) rfl ?_
    refine lv_iload_n S.1 S.2.1 dX4_improve_21 rfl (lv_at hl 1 rfl) ?_
    obtain ⟨hi_5, hf⟩ := rd_s hf
    refine g_iald (n := 256) (f := c_gain) S hN hw 2 hi_5 dX4_improve_22 rfl ?_
    generalize c_gain (p1 : Int32).toNatClampNeg = y_6 at hf ⊢
    refine lv_icmp_ne (tgt := 60) S.1 S.2.1 dX4_improve_23 (by decide) (fun h_7 => ?_) (fun h_7 => ?_)
    · replace hf := if_f h_7 hf
      cases hf
      exact hE _ _ _ _ hw dX4_improve_60
    · replace hf := if_t h_7 hf
      refine lv_lload_n S.1 S.2.1 dX4_improve_26 rfl (lv_at hl 3 rfl) ?_
      refine lv_aload_n S.1 S.2.1 dX4_improve_27 rfl (lv_at hl 0 rfl) ?_
      refine g_get S hN hw (C := RX4) (T := TX4) (N := 7) (ci := 4) (v := .ref a_c) 0 1 iX4 k12 dX4_improve_28 rfl rfl (by decide) rfl ?_
      refine g_getN S hN hw (C := RX0) (T := TX0) (N := 5) (ci := 0) (v := .ref a_c_mark) 1 2 iX0 w114 dX4_improve_31 rfl rfl (by decide) rfl ?_
      refine lv_iload_n S.1 S.2.1 dX4_improve_34 rfl (lv_at hl 1 rfl) ?_
      obtain ⟨hi_7, hf⟩ := rd_s hf
      refine g_lald (n := 256) (f := c_mark) S hN hw 3 hi_7 dX4_improve_35 rfl ?_
      generalize c_mark (p1 : Int32).toNatClampNeg = y_8 at hf ⊢
      refine W.lcmp S.1 S.2.1 dX4_improve_36 ?_
      refine lv_if_le (tgt := 60) S.1 S.2.1 dX4_improve_37 (by decide) (fun h_9 => ?_) (fun h_9 => ?_)
      · replace hf := if_t h_9 hf
        cases hf
        exact hE _ _ _ _ hw dX4_improve_60
      · replace hf := if_f h_9 hf
        exact hJ_jj_40_1 _ _ _ hw hl hf
def f_X4_lengthen_L32 (g_nodes : Int32) (p1 : Int32) (p2 : Int32) (y_3 : Int32) (y_6 : Int64) (kk_114_8 : (Nat → Int32) → (Nat → Int64) → Option ((Nat → Int32) × (Nat → Int64))) : Nat → Int32 → (Nat → Int32) → (Nat → Int64) → Option ((Nat → Int32) × (Nat → Int64))
  | 0, _, _, _ => none
  | n + 1, v6_10, c_gain_11, c_mark_12 => (if g_nodes ≤ v6_10 then (kk_114_8 c_gain_11 c_mark_12) else (if v6_10 = p1 then (f_X4_lengthen_L32 g_nodes p1 p2 y_3 y_6 kk_114_8 n (v6_10 + 1) c_gain_11 c_mark_12) else rd 256 c_gain_11 (f_X11_cell p2 v6_10) (fun y_17 => (if y_17 = (-1000000000) then (f_X4_lengthen_L32 g_nodes p1 p2 y_3 y_6 kk_114_8 n (v6_10 + 1) c_gain_11 c_mark_12) else rd 256 c_gain_11 (f_X11_cell p2 v6_10) (fun y_21 => rd 256 c_mark_12 (f_X11_cell p2 v6_10) (fun y_22 => bd2 (f_X4_improve (f_X11_cell p1 v6_10) (y_3 + y_21) (y_6 + y_22) c_gain_11 c_mark_12) (fun c_gain_23 c_mark_24 => (f_X4_lengthen_L32 g_nodes p1 p2 y_3 y_6 kk_114_8 n (v6_10 + 1) c_gain_23 c_mark_24))))))))
def f_X4_lengthen (F : Nat) (p1 : Int32) (p2 : Int32) (g_nodes : Int32) (c_gain : Nat → Int32) (c_mark : Nat → Int64) : Option ((Nat → Int32) × (Nat → Int64)) :=
  rd 256 c_gain (f_X11_cell p1 p2) (fun y_3 => rd 256 c_mark (f_X11_cell p1 p2) (fun y_6 => (jn (fun (c_gain_7 : Nat → Int32) (c_mark_8 : Nat → Int64) => some (c_gain_7, c_mark_8)) (fun kk_114_8 => (f_X4_lengthen_L32 g_nodes p1 p2 y_3 y_6 kk_114_8 F 0 c_gain c_mark)))))
set_option maxHeartbeats 4000000 in
set_option maxRecDepth 100000 in
theorem c_X4_lengthen (l : Launch) (E : Ev) (F : Nat) (g_nodes : Int32) (g_made : Int32) (g_living : Int32) (g_age : Int32) (a_g_oneEnd : Nat) (a_g_otherEnd : Nat) (a_g_weights : Nat) (a_g_alive : Nat) (a_g_joined : Nat) (a_g : Nat) (a_r : Nat) (c_gain : Nat → Int32) (a_c_gain : Nat) (c_mark : Nat → Int64) (a_c_mark : Nat) (a_c_bestGain : Nat) (a_c_bestMark : Nat) (a_c : Nat) (a_j_reached : Nat) (j_told : Int64) (j_isTold : Int32) (j_pathsKnown : Int32) (j_age : Int32) (a_j : Nat) (p1 : Int32) (p2 : Int32) (u_c_gain : Nat → Int32) (u_c_mark : Nat → Int64) (hf : f_X4_lengthen F p1 p2 g_nodes c_gain c_mark = some (u_c_gain, u_c_mark)) :
    CtV l yX4_lengthen wsX4_lengthen (Rm 1) E [.ref a_j, .int p1, .int p2] [oC a_j 4 [.ref a_g, .ref a_c, .ref a_j_reached, .long j_told, .int j_isTold, .int j_pathsKnown, .int j_age], oC a_g 2 [.int g_nodes, .int g_made, .int g_living, .int g_age, .ref a_g_oneEnd, .ref a_g_otherEnd, .ref a_g_weights, .ref a_g_alive, .ref a_g_joined], oC a_c 0 [.ref a_r, .ref a_c_gain, .ref a_c_mark, .ref a_c_bestGain, .ref a_c_bestMark], aI E a_c_gain 256 c_gain, aJ E a_c_mark 256 c_mark] [oC a_j 4 [.ref a_g, .ref a_c, .ref a_j_reached, .long j_told, .int j_isTold, .int j_pathsKnown, .int j_age], oC a_g 2 [.int g_nodes, .int g_made, .int g_living, .int g_age, .ref a_g_oneEnd, .ref a_g_otherEnd, .ref a_g_weights, .ref a_g_alive, .ref a_g_joined], oC a_c 0 [.ref a_r, .ref a_c_gain, .ref a_c_mark, .ref a_c_bestGain, .ref a_c_bestMark], aI E a_c_gain 256 u_c_gain, aJ E a_c_mark 256 u_c_mark] := by
  refine ofV (cc := cX4_lengthen) (maxL := 8) (own := RX4) rfl rfl (by decide) rfl rfl ?_
  intro p e s m below meth c A ls Q S hnm hN hw hA hl0 hE
  have hl : lv_has ls 8 [(0, .ref a_j), (1, .int p1), (2, .int p2)] := hl0 _ (lv_entry [.ref a_j, .int p1, .int p2] (n := 8) (Nat.le_of_ble_eq_true rfl))
  have iX0 : ∀ w ∈ wsX00, w ∈ wsX4_lengthen := by decide +kernel
  have iX2 : ∀ w ∈ wsX20, w ∈ wsX4_lengthen := by decide +kernel
  have iX4 : ∀ w ∈ wsX40, w ∈ wsX4_lengthen := by decide +kernel
  have k106 := S.2.2.2.2 (.constant RX4 106 (-1000000000)) (by decide +kernel)
  have k12 := S.2.2.2.2 (.fieldLink RX4 12 "PairMatching$Joins" "chooser" "LPairMatching$Chooser;") (by decide +kernel)
  have k26 := S.2.2.2.2 (.fieldLink RX4 26 "PairMatching$Joins" "graph" "LPairMatching$Graph;") (by decide +kernel)
  have kIX11 := S.2.2.2.2 (.initialized RX11) (by decide +kernel)
  have kSX11_cell := S.2.2.2.2 (.static yX11_cell) (by decide +kernel)
  have w102 : Cond.methodLinkNest RX4 102 yX11_cell "PairMatching" ∈ nestW := List.mem_of_getElem? (i := 88) rfl
  have w114 : Cond.fieldLinkNest RX4 114 "PairMatching$Chooser" "mark" "[J" "PairMatching" ∈ nestW := List.mem_of_getElem? (i := 57) rfl
  have w96 : Cond.fieldLinkNest RX4 96 "PairMatching$Graph" "nodes" "I" "PairMatching" ∈ nestW := List.mem_of_getElem? (i := 5) rfl
  have w99 : Cond.fieldLinkNest RX4 99 "PairMatching$Chooser" "gain" "[I" "PairMatching" ∈ nestW := List.mem_of_getElem? (i := 56) rfl
  unfold f_X4_lengthen at hf
  refine lv_aload_n S.1 S.2.1 dX4_lengthen_0 rfl (lv_at hl 0 rfl) ?_
  refine g_get S hN hw (C := RX4) (T := TX4) (N := 7) (ci := 4) (v := .ref a_c) 0 1 iX4 k12 dX4_lengthen_1 rfl rfl (by decide) rfl ?_
  refine g_getN S hN hw (C := RX0) (T := TX0) (N := 5) (ci := 0) (v := .ref a_c_gain) 2 1 iX0 w99 dX4_lengthen_4 rfl rfl (by decide) rfl ?_
  refine lv_iload_n S.1 S.2.1 dX4_lengthen_7 rfl (lv_at hl 1 rfl) ?_
  refine lv_iload_n S.1 S.2.1 dX4_lengthen_8 rfl (lv_at hl 2 rfl) ?_
  refine g_calli (r := (f_X11_cell p1 p2)) (wc := []) (wr := [oC a_j 4 [.ref a_g, .ref a_c, .ref a_j_reached, .long j_told, .int j_isTold, .int j_pathsKnown, .int j_age], oC a_g 2 [.int g_nodes, .int g_made, .int g_living, .int g_age, .ref a_g_oneEnd, .ref a_g_otherEnd, .ref a_g_weights, .ref a_g_alive, .ref a_g_joined], oC a_c 0 [.ref a_r, .ref a_c_gain, .ref a_c_mark, .ref a_c_bestGain, .ref a_c_bestMark], aI E a_c_gain 256 c_gain, aJ E a_c_mark 256 c_mark]) (w1 := []) (va_runSN (As := [.int p1, .int p2]) (rest := [.ref a_c_gain]) S (c_X11_cell l E p1 p2 (f_X11_cell p1 p2) rfl _) ⟨(va_cnB 2 S.2.2.2.2 gX4_lengthen_X11_cell_n102 rfl rfl rfl (hN.2 _ w102) kIX11 (by decide +kernel) (rm_le (by omega) (by decide))), kSX11_cell, trivial⟩ (preS hN hw [] rfl rfl) rfl rfl hl.1 rfl (lv_room (Nat.le_of_ble_eq_true rfl)) dX4_lengthen_9 ⟨Nat.le_refl _, Nat.le_refl _⟩) hw hA [] [0, 1, 2, 3, 4] rfl rfl rfl (by decide) (fun H locs hw => ?_)
  have hw : Wo E A s [oC a_j 4 [.ref a_g, .ref a_c, .ref a_j_reached, .long j_told, .int j_isTold, .int j_pathsKnown, .int j_age], oC a_g 2 [.int g_nodes, .int g_made, .int g_living, .int g_age, .ref a_g_oneEnd, .ref a_g_otherEnd, .ref a_g_weights, .ref a_g_alive, .ref a_g_joined], oC a_c 0 [.ref a_r, .ref a_c_gain, .ref a_c_mark, .ref a_c_bestGain, .ref a_c_bestMark], aI E a_c_gain 256 c_gain, aJ E a_c_mark 256 c_mark] H _ := hw
  obtain ⟨hi_2, hf⟩ := rd_s hf
  refine g_iald (n := 256) (f := c_gain) S hN hw 3 hi_2 dX4_lengthen_12 rfl ?_
  generalize c_gain ((f_X11_cell p1 p2) : Int32).toNatClampNeg = y_3 at hf ⊢
  refine lv_istore_n (lv' := [(3, .int y_3), (0, .ref a_j), (1, .int p1), (2, .int p2)]) S.1 S.2.1 dX4_lengthen_13 rfl hl (by decide) rfl (fun ls hl => ?_)
  refine lv_aload_n S.1 S.2.1 dX4_lengthen_14 rfl (lv_at hl 1 rfl) ?_
  refine g_get S hN hw (C := RX4) (T := TX4) (N := 7) (ci := 4) (v := .ref a_c) 0 1 iX4 k12 dX4_lengthen_15 rfl rfl (by decide) rfl ?_
  refine g_getN S hN hw (C := RX0) (T := TX0) (N := 5) (ci := 0) (v := .ref a_c_mark) 2 2 iX0 w114 dX4_lengthen_18 rfl rfl (by decide) rfl ?_
  refine lv_iload_n S.1 S.2.1 dX4_lengthen_21 rfl (lv_at hl 2 rfl) ?_
  refine lv_iload_n S.1 S.2.1 dX4_lengthen_22 rfl (lv_at hl 3 rfl) ?_
  refine g_calli (r := (f_X11_cell p1 p2)) (wc := []) (wr := [oC a_j 4 [.ref a_g, .ref a_c, .ref a_j_reached, .long j_told, .int j_isTold, .int j_pathsKnown, .int j_age], oC a_g 2 [.int g_nodes, .int g_made, .int g_living, .int g_age, .ref a_g_oneEnd, .ref a_g_otherEnd, .ref a_g_weights, .ref a_g_alive, .ref a_g_joined], oC a_c 0 [.ref a_r, .ref a_c_gain, .ref a_c_mark, .ref a_c_bestGain, .ref a_c_bestMark], aI E a_c_gain 256 c_gain, aJ E a_c_mark 256 c_mark]) (w1 := []) (va_runSN (As := [.int p1, .int p2]) (rest := [.ref a_c_mark]) S (c_X11_cell l E p1 p2 (f_X11_cell p1 p2) rfl _) ⟨(va_cnB 2 S.2.2.2.2 gX4_lengthen_X11_cell_n102 rfl rfl rfl (hN.2 _ w102) kIX11 (by decide +kernel) (rm_le (by omega) (by decide))), kSX11_cell, trivial⟩ (preS hN hw [] rfl rfl) rfl rfl hl.1 rfl (lv_room (Nat.le_of_ble_eq_true rfl)) dX4_lengthen_23 ⟨Nat.le_refl _, Nat.le_refl _⟩) hw hA [] [0, 1, 2, 3, 4] rfl rfl rfl (by decide) (fun H locs hw => ?_)
  have hw : Wo E A s [oC a_j 4 [.ref a_g, .ref a_c, .ref a_j_reached, .long j_told, .int j_isTold, .int j_pathsKnown, .int j_age], oC a_g 2 [.int g_nodes, .int g_made, .int g_living, .int g_age, .ref a_g_oneEnd, .ref a_g_otherEnd, .ref a_g_weights, .ref a_g_alive, .ref a_g_joined], oC a_c 0 [.ref a_r, .ref a_c_gain, .ref a_c_mark, .ref a_c_bestGain, .ref a_c_bestMark], aI E a_c_gain 256 c_gain, aJ E a_c_mark 256 c_mark] H _ := hw
  obtain ⟨hi_5, hf⟩ := rd_s hf
  refine g_lald (n := 256) (f := c_mark) S hN hw 4 hi_5 dX4_lengthen_26 rfl ?_
  generalize c_mark ((f_X11_cell p1 p2) : Int32).toNatClampNeg = y_6 at hf ⊢
  refine lv_lstore (lv' := [(4, .long y_6), (3, .int y_3), (0, .ref a_j), (1, .int p1), (2, .int p2)]) S.1 S.2.1 dX4_lengthen_27 hl (by decide) rfl (fun ls hl => ?_)
  refine lv_iconst (v := 0) S.1 S.2.1 dX4_lengthen_29 (by decide) ?_
  refine lv_istore (lv' := [(6, .int 0), (4, .long y_6), (3, .int y_3), (0, .ref a_j), (1, .int p1), (2, .int p2)]) S.1 S.2.1 dX4_lengthen_30 hl (by decide) rfl (fun ls hl => ?_)
  obtain ⟨kk_114_8, ekk_114_8, hf⟩ := jn_s hf
  have hJ_kk_114_8 : ∀ (c_gain_7 : Nat → Int32) (c_mark_8 : Nat → Int64) (H : Heap) (locs : List Loc) (ls : Array Slot), Wo E A s [oC a_j 4 [.ref a_g, .ref a_c, .ref a_j_reached, .long j_told, .int j_isTold, .int j_pathsKnown, .int j_age], oC a_g 2 [.int g_nodes, .int g_made, .int g_living, .int g_age, .ref a_g_oneEnd, .ref a_g_otherEnd, .ref a_g_weights, .ref a_g_alive, .ref a_g_joined], oC a_c 0 [.ref a_r, .ref a_c_gain, .ref a_c_mark, .ref a_c_bestGain, .ref a_c_bestMark], aI E a_c_gain 256 c_gain_7, aJ E a_c_mark 256 c_mark_8] H locs → lv_has ls 8 [] → kk_114_8 c_gain_7 c_mark_8 = some (u_c_gain, u_c_mark) → W p l e (Rm 1) s m (([.ref a_j, .int p1, .int p2] : List Value).toArray) below meth c H locs 0 0 Q (F0 m 114 ls []) := by
    intro c_gain_7 c_mark_8 H locs ls hw hl hf
    rw [ekk_114_8] at hf
    cases hf
    exact hE _ _ _ _ hw dX4_lengthen_114
  have hL_32_25 : ∀ (n : Nat) (v6_10 : Int32) (c_gain_11 : Nat → Int32) (c_mark_12 : Nat → Int64) (H : Heap) (locs : List Loc) (ls : Array Slot), Wo E A s [oC a_j 4 [.ref a_g, .ref a_c, .ref a_j_reached, .long j_told, .int j_isTold, .int j_pathsKnown, .int j_age], oC a_g 2 [.int g_nodes, .int g_made, .int g_living, .int g_age, .ref a_g_oneEnd, .ref a_g_otherEnd, .ref a_g_weights, .ref a_g_alive, .ref a_g_joined], oC a_c 0 [.ref a_r, .ref a_c_gain, .ref a_c_mark, .ref a_c_bestGain, .ref a_c_bestMark], aI E a_c_gain 256 c_gain_11, aJ E a_c_mark 256 c_mark_12] H locs → lv_has ls 8 [(0, .ref a_j), (1, .int p1), (2, .int p2), (3, .int y_3), (4, .long y_6), (6, .int v6_10)] → f_X4_lengthen_L32 g_nodes p1 p2 y_3 y_6 kk_114_8 n v6_10 c_gain_11 c_mark_12 = some (u_c_gain, u_c_mark) → W p l e (Rm 1) s m (([.ref a_j, .int p1, .int p2] : List Value).toArray) below meth c H locs 0 0 Q (F0 m 32 ls []) := by
    intro n
    induction n with
    | zero => intro v6_10 c_gain_11 c_mark_12 H locs ls hw hl hf; unfold f_X4_lengthen_L32 at hf; cases hf
    | succ n ih =>
      intro v6_10 c_gain_11 c_mark_12 H locs ls hw hl hf
      unfold f_X4_lengthen_L32 at hf
      refine lv_iload S.1 S.2.1 dX4_lengthen_32 (lv_at hl 5 rfl) ?_
      refine lv_aload_n S.1 S.2.1 dX4_lengthen_34 rfl (lv_at hl 0 rfl) ?_
      refine g_get S hN hw (C := RX4) (T := TX4) (N := 7) (ci := 4) (v := .ref a_g) 0 0 iX4 k26 dX4_lengthen_35 rfl rfl (by decide) rfl ?_
      refine g_getN S hN hw (C := RX2) (T := TX2) (N := 9) (ci := 2) (v := .int g_nodes) 1 0 iX2 w96 dX4_lengthen_38 rfl rfl (by decide) rfl ?_
      refine lv_icmp_ge (tgt := 114) S.1 S.2.1 dX4_lengthen_41 (by decide) (fun h_13 => ?_) (fun h_13 => ?_)
      · replace hf := if_t h_13 hf
        exact hJ_kk_114_8 c_gain_11 c_mark_12 _ _ _ hw (lv_sub hl [] rfl) hf
      · replace hf := if_f h_13 hf
        refine lv_iload_n S.1 S.2.1 dX4_lengthen_44 rfl (lv_at hl 2 rfl) ?_
        refine lv_iload S.1 S.2.1 dX4_lengthen_45 (lv_at hl 5 rfl) ?_
        refine g_calli (r := (f_X11_cell p2 v6_10)) (wc := []) (wr := [oC a_j 4 [.ref a_g, .ref a_c, .ref a_j_reached, .long j_told, .int j_isTold, .int j_pathsKnown, .int j_age], oC a_g 2 [.int g_nodes, .int g_made, .int g_living, .int g_age, .ref a_g_oneEnd, .ref a_g_otherEnd, .ref a_g_weights, .ref a_g_alive, .ref a_g_joined], oC a_c 0 [.ref a_r, .ref a_c_gain, .ref a_c_mark, .ref a_c_bestGain, .ref a_c_bestMark], aI E a_c_gain 256 c_gain_11, aJ E a_c_mark 256 c_mark_12]) (w1 := []) (va_runSN (As := [.int p2, .int v6_10]) (rest := []) S (c_X11_cell l E p2 v6_10 (f_X11_cell p2 v6_10) rfl _) ⟨(va_cnB 2 S.2.2.2.2 gX4_lengthen_X11_cell_n102 rfl rfl rfl (hN.2 _ w102) kIX11 (by decide +kernel) (rm_le (by omega) (by decide))), kSX11_cell, trivial⟩ (preS hN hw [] rfl rfl) rfl rfl hl.1 rfl (lv_room (Nat.le_of_ble_eq_true rfl)) dX4_lengthen_47 ⟨Nat.le_refl _, Nat.le_refl _⟩) hw hA [] [0, 1, 2, 3, 4] rfl rfl rfl (by decide) (fun H locs hw => ?_)
        have hw : Wo E A s [oC a_j 4 [.ref a_g, .ref a_c, .ref a_j_reached, .long j_told, .int j_isTold, .int j_pathsKnown, .int j_age], oC a_g 2 [.int g_nodes, .int g_made, .int g_living, .int g_age, .ref a_g_oneEnd, .ref a_g_otherEnd, .ref a_g_weights, .ref a_g_alive, .ref a_g_joined], oC a_c 0 [.ref a_r, .ref a_c_gain, .ref a_c_mark, .ref a_c_bestGain, .ref a_c_bestMark], aI E a_c_gain 256 c_gain_11, aJ E a_c_mark 256 c_mark_12] H _ := hw
        refine lv_istore (lv' := [(7, .int (f_X11_cell p2 v6_10)), (0, .ref a_j), (1, .int p1), (2, .int p2), (3, .int y_3), (4, .long y_6), (6, .int v6_10)]) S.1 S.2.1 dX4_lengthen_50 hl (by decide) rfl (fun ls hl => ?_)
        refine lv_iload S.1 S.2.1 dX4_lengthen_52 (lv_at hl 6 rfl) ?_
        refine lv_iload_n S.1 S.2.1 dX4_lengthen_54 rfl (lv_at hl 2 rfl) ?_
        refine lv_icmp_eq (tgt := 108) S.1 S.2.1 dX4_lengthen_55 (by decide) (fun h_16 => ?_) (fun h_16 => ?_)
        · replace hf := if_t h_16 hf
          refine lv_iinc (v := (v6_10 + 1)) (lv' := [(6, .int (v6_10 + 1)), (7, .int (f_X11_cell p2 v6_10)), (0, .ref a_j), (1, .int p1), (2, .int p2), (3, .int y_3), (4, .long y_6)]) S.1 S.2.1 dX4_lengthen_108 hl (k := 6) rfl rfl (by decide) rfl (fun ls hl => ?_)
          refine lv_goto (tgt := 32) S.1 S.2.1 dX4_lengthen_111 (by decide) ?_
          exact ih (v6_10 + 1) c_gain_11 c_mark_12 _ _ _ hw (lv_sub hl [2, 3, 4, 5, 6, 0] rfl) hf
        · replace hf := if_f h_16 hf
          refine lv_aload_n S.1 S.2.1 dX4_lengthen_58 rfl (lv_at hl 1 rfl) ?_
          refine g_get S hN hw (C := RX4) (T := TX4) (N := 7) (ci := 4) (v := .ref a_c) 0 1 iX4 k12 dX4_lengthen_59 rfl rfl (by decide) rfl ?_
          refine g_getN S hN hw (C := RX0) (T := TX0) (N := 5) (ci := 0) (v := .ref a_c_gain) 2 1 iX0 w99 dX4_lengthen_62 rfl rfl (by decide) rfl ?_
          refine lv_iload S.1 S.2.1 dX4_lengthen_65 (lv_at hl 0 rfl) ?_
          obtain ⟨hi_16, hf⟩ := rd_s hf
          refine g_iald (n := 256) (f := c_gain_11) S hN hw 3 hi_16 dX4_lengthen_67 rfl ?_
          generalize c_gain_11 ((f_X11_cell p2 v6_10) : Int32).toNatClampNeg = y_17 at hf ⊢
          refine lv_ldc (v := (-1000000000)) S.1 S.2.1 S.2.2.2.1 k106 dX4_lengthen_68 ?_
          refine lv_icmp_eq (tgt := 108) S.1 S.2.1 dX4_lengthen_70 (by decide) (fun h_18 => ?_) (fun h_18 => ?_)
          · replace hf := if_t h_18 hf
            refine lv_iinc (v := (v6_10 + 1)) (lv' := [(6, .int (v6_10 + 1)), (7, .int (f_X11_cell p2 v6_10)), (0, .ref a_j), (1, .int p1), (2, .int p2), (3, .int y_3), (4, .long y_6)]) S.1 S.2.1 dX4_lengthen_108 hl (k := 6) rfl rfl (by decide) rfl (fun ls hl => ?_)
            refine lv_goto (tgt := 32) S.1 S.2.1 dX4_lengthen_111 (by decide) ?_
            exact ih (v6_10 + 1) c_gain_11 c_mark_12 _ _ _ hw (lv_sub hl [2, 3, 4, 5, 6, 0] rfl) hf
          · replace hf := if_f h_18 hf
            refine lv_aload_n S.1 S.2.1 dX4_lengthen_73 rfl (lv_at hl 1 rfl) ?_
            refine lv_iload_n S.1 S.2.1 dX4_lengthen_74 rfl (lv_at hl 2 rfl) ?_
            refine lv_iload S.1 S.2.1 dX4_lengthen_75 (lv_at hl 6 rfl) ?_
            refine g_calli (r := (f_X11_cell p1 v6_10)) (wc := []) (wr := [oC a_j 4 [.ref a_g, .ref a_c, .ref a_j_reached, .long j_told, .int j_isTold, .int j_pathsKnown, .int j_age], oC a_g 2 [.int g_nodes, .int g_made, .int g_living, .int g_age, .ref a_g_oneEnd, .ref a_g_otherEnd, .ref a_g_weights, .ref a_g_alive, .ref a_g_joined], oC a_c 0 [.ref a_r, .ref a_c_gain, .ref a_c_mark, .ref a_c_bestGain, .ref a_c_bestMark], aI E a_c_gain 256 c_gain_11, aJ E a_c_mark 256 c_mark_12]) (w1 := []) (va_runSN (As := [.int p1, .int v6_10]) (rest := [.ref a_j]) S (c_X11_cell l E p1 v6_10 (f_X11_cell p1 v6_10) rfl _) ⟨(va_cnB 2 S.2.2.2.2 gX4_lengthen_X11_cell_n102 rfl rfl rfl (hN.2 _ w102) kIX11 (by decide +kernel) (rm_le (by omega) (by decide))), kSX11_cell, trivial⟩ (preS hN hw [] rfl rfl) rfl rfl hl.1 rfl (lv_room (Nat.le_of_ble_eq_true rfl)) dX4_lengthen_77 ⟨Nat.le_refl _, Nat.le_refl _⟩) hw hA [] [0, 1, 2, 3, 4] rfl rfl rfl (by decide) (fun H locs hw => ?_)
            have hw : Wo E A s [oC a_j 4 [.ref a_g, .ref a_c, .ref a_j_reached, .long j_told, .int j_isTold, .int j_pathsKnown, .int j_age], oC a_g 2 [.int g_nodes, .int g_made, .int g_living, .int g_age, .ref a_g_oneEnd, .ref a_g_otherEnd, .ref a_g_weights, .ref a_g_alive, .ref a_g_joined], oC a_c 0 [.ref a_r, .ref a_c_gain, .ref a_c_mark, .ref a_c_bestGain, .ref a_c_bestMark], aI E a_c_gain 256 c_gain_11, aJ E a_c_mark 256 c_mark_12] H _ := hw
            refine lv_iload_n S.1 S.2.1 dX4_lengthen_80 rfl (lv_at hl 4 rfl) ?_
            refine lv_aload_n S.1 S.2.1 dX4_lengthen_81 rfl (lv_at hl 1 rfl) ?_
            refine g_get S hN hw (C := RX4) (T := TX4) (N := 7) (ci := 4) (v := .ref a_c) 0 1 iX4 k12 dX4_lengthen_82 rfl rfl (by decide) rfl ?_
            refine g_getN S hN hw (C := RX0) (T := TX0) (N := 5) (ci := 0) (v := .ref a_c_gain) 2 1 iX0 w99 dX4_lengthen_85 rfl rfl (by decide) rfl ?_
            refine lv_iload S.1 S.2.1 dX4_lengthen_88 (lv_at hl 0 rfl) ?_
            obtain ⟨hi_20, hf⟩ := rd_s hf
            refine g_iald (n := 256) (f := c_gain_11) S hN hw 3 hi_20 dX4_lengthen_90 rfl ?_
            generalize c_gain_11 ((f_X11_cell p2 v6_10) : Int32).toNatClampNeg = y_21 at hf ⊢
            refine lv_iadd S.1 S.2.1 dX4_lengthen_91 ?_
            refine lv_lload S.1 S.2.1 dX4_lengthen_92 (lv_at hl 5 rfl) ?_
            refine lv_aload_n S.1 S.2.1 dX4_lengthen_94 rfl (lv_at hl 1 rfl) ?_
            refine g_get S hN hw (C := RX4) (T := TX4) (N := 7) (ci := 4) (v := .ref a_c) 0 1 iX4 k12 dX4_lengthen_95 rfl rfl (by decide) rfl ?_
            refine g_getN S hN hw (C := RX0) (T := TX0) (N := 5) (ci := 0) (v := .ref a_c_mark) 2 2 iX0 w114 dX4_lengthen_98 rfl rfl (by decide) rfl ?_
            refine lv_iload S.1 S.2.1 dX4_lengthen_101 (lv_at hl 0 rfl) ?_
            obtain ⟨hi_21, hf⟩ := rd_s hf
            refine g_lald (n := 256) (f := c_mark_12) S hN hw 4 hi_21 dX4_lengthen_103 rfl ?_
            generalize c_mark_12 ((f_X11_cell p2 v6_10) : Int32).toNatClampNeg = y_22 at hf ⊢
            refine lv_ladd S.1 S.2.1 dX4_lengthen_104 ?_
            obtain ⟨c_gain_23, c_mark_24, hc_24, hf⟩ := bd2_s hf
            refine g_callv (wc := [oC a_j 4 [.ref a_g, .ref a_c, .ref a_j_reached, .long j_told, .int j_isTold, .int j_pathsKnown, .int j_age], oC a_c 0 [.ref a_r, .ref a_c_gain, .ref a_c_mark, .ref a_c_bestGain, .ref a_c_bestMark], aI E a_c_gain 256 c_gain_11, aJ E a_c_mark 256 c_mark_12]) (wr := [oC a_g 2 [.int g_nodes, .int g_made, .int g_living, .int g_age, .ref a_g_oneEnd, .ref a_g_otherEnd, .ref a_g_weights, .ref a_g_alive, .ref a_g_joined]]) (w1 := [oC a_j 4 [.ref a_g, .ref a_c, .ref a_j_reached, .long j_told, .int j_isTold, .int j_pathsKnown, .int j_age], oC a_c 0 [.ref a_r, .ref a_c_gain, .ref a_c_mark, .ref a_c_bestGain, .ref a_c_bestMark], aI E a_c_gain 256 c_gain_23, aJ E a_c_mark 256 c_mark_24]) (va_runV (As := [.int (f_X11_cell p1 v6_10), .int (y_3 + y_21), .long (y_6 + y_22)]) (rest := []) S (c_X4_improve l E a_g a_r c_gain_11 a_c_gain c_mark_12 a_c_mark a_c_bestGain a_c_bestMark a_c a_j_reached j_told j_isTold j_pathsKnown j_age a_j (f_X11_cell p1 v6_10) (y_3 + y_21) (y_6 + y_22) c_gain_23 c_mark_24 hc_24 _) (cwV 3 S.2.2.2.2 gX4_lengthen_X4_improve rfl rfl rfl (by decide +kernel) (rm_le (by omega) (by decide))) (preV (q := (RX4, TX4, 7)) hN hw [0, 2, 3, 4] rfl rfl rfl rfl) rfl rfl hl.1 rfl (lv_room (Nat.le_of_ble_eq_true rfl)) dX4_lengthen_105 ⟨Nat.le_refl _, Nat.le_refl _⟩) hw hA [0, 2, 3, 4] [1] rfl rfl rfl (by decide) (fun H locs hw => ?_)
            have hw : Wo E A s [oC a_g 2 [.int g_nodes, .int g_made, .int g_living, .int g_age, .ref a_g_oneEnd, .ref a_g_otherEnd, .ref a_g_weights, .ref a_g_alive, .ref a_g_joined], oC a_j 4 [.ref a_g, .ref a_c, .ref a_j_reached, .long j_told, .int j_isTold, .int j_pathsKnown, .int j_age], oC a_c 0 [.ref a_r, .ref a_c_gain, .ref a_c_mark, .ref a_c_bestGain, .ref a_c_bestMark], aI E a_c_gain 256 c_gain_23, aJ E a_c_mark 256 c_mark_24] H _ := hw
            refine lv_iinc (v := (v6_10 + 1)) (lv' := [(6, .int (v6_10 + 1)), (7, .int (f_X11_cell p2 v6_10)), (0, .ref a_j), (1, .int p1), (2, .int p2), (3, .int y_3), (4, .long y_6)]) S.1 S.2.1 dX4_lengthen_108 hl (k := 6) rfl rfl (by decide) rfl (fun ls hl => ?_)
            refine lv_goto (tgt := 32) S.1 S.2.1 dX4_lengthen_111 (by decide) ?_
            exact ih (v6_10 + 1) c_gain_23 c_mark_24 _ _ _ (hw.sub [1, 0, 2, 3, 4] rfl rfl) (lv_sub hl [2, 3, 4, 5, 6, 0] rfl) hf
  exact hL_32_25 F 0 c_gain c_mark _ _ _ hw (lv_sub hl [3, 4, 5, 2, 1, 0] rfl) hf
