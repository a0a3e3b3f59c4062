def f_J7_fill_53178_L5 (n1 : Nat) (p2 : Int32) (kk_20_1 : (Nat → Int32) → Option ((Nat → Int32))) : Nat → Int32 → (Nat → Int32) → Option ((Nat → Int32))
  | 0, _, _ => none
  | n + 1, v2_3, p1_4 => (if (Int32.ofNat n1) ≤ v2_3 then (kk_20_1 p1_4) else wr n1 p1_4 v2_3 p2 (fun p1_6 => (f_J7_fill_53178_L5 n1 p2 kk_20_1 n (v2_3 + 1) p1_6)))
def f_J7_fill_53178 (F : Nat) (p2 : Int32) (p1 : Nat → Int32) (n1 : Nat) : Option ((Nat → Int32)) :=
  (jn (fun (p1_1 : Nat → Int32) => some p1_1) (fun kk_20_1 => (f_J7_fill_53178_L5 n1 p2 kk_20_1 F 0 p1)))
set_option maxHeartbeats 4000000 in
set_option maxRecDepth 100000 in
theorem c_J7_fill_53178 (l : Launch) (E : Ev) (F : Nat) (a_p1 : Nat) (p1 : Nat → Int32) (n1 : Nat) (p2 : Int32) (u_p1 : Nat → Int32) (hf : f_J7_fill_53178 F p2 p1 n1 = some u_p1) :
    CtV l yJ7_fill_53178 wsJ7_fill_53178 (Rm 0) E [.ref a_p1, .int p2] [aI E a_p1 n1 p1] [aI E a_p1 n1 u_p1] := by
  refine ofV (cc := cJ7_fill_53178) (maxL := 4) (own := RJ7) rfl rfl (by decide) rfl rfl ?_
  intro p e s m below meth c A ls Q S hnm hN hw hA hl0 hE
  have hl : lv_has ls 4 [(0, .ref a_p1), (1, .int p2)] := hl0 _ (lv_entry [.ref a_p1, .int p2] (n := 4) (Nat.le_of_ble_eq_true rfl))
  unfold f_J7_fill_53178 at hf
  refine lv_iconst (v := 0) S.1 S.2.1 dJ7_fill_53178_0 (by decide) ?_
  refine lv_istore_n (lv' := [(2, .int 0), (0, .ref a_p1), (1, .int p2)]) S.1 S.2.1 dJ7_fill_53178_1 rfl hl (by decide) rfl (fun ls hl => ?_)
  refine lv_aload_n S.1 S.2.1 dJ7_fill_53178_2 rfl (lv_at hl 1 rfl) ?_
  refine va_alen S.1 S.2.1 hN.1 hw.1 0 0 rfl rfl (v := Int32.ofNat n1) rfl dJ7_fill_53178_3 ?_
  refine lv_istore_n (lv' := [(3, .int (Int32.ofNat n1)), (2, .int 0), (0, .ref a_p1), (1, .int p2)]) S.1 S.2.1 dJ7_fill_53178_4 rfl hl (by decide) rfl (fun ls hl => ?_)
  obtain ⟨kk_20_1, ekk_20_1, hf⟩ := jn_s hf
  have hJ_kk_20_1 : ∀ (p1_1 : Nat → Int32) (H : Heap) (locs : List Loc) (ls : Array Slot), Wo E A s [aI E a_p1 n1 p1_1] H locs → lv_has ls 4 [] → kk_20_1 p1_1 = some u_p1 → W p l e (Rm 0) s m (([.ref a_p1, .int p2] : List Value).toArray) below meth c H locs 0 0 Q (F0 m 20 ls []) := by
    intro p1_1 H locs ls hw hl hf
    rw [ekk_20_1] at hf
    cases hf
    exact hE _ _ _ _ hw dJ7_fill_53178_20
  have hL_5_6 : ∀ (n : Nat) (v2_3 : Int32) (p1_4 : Nat → Int32) (H : Heap) (locs : List Loc) (ls : Array Slot), Wo E A s [aI E a_p1 n1 p1_4] H locs → lv_has ls 4 [(0, .ref a_p1), (1, .int p2), (2, .int v2_3), (3, .int (Int32.ofNat n1))] → f_J7_fill_53178_L5 n1 p2 kk_20_1 n v2_3 p1_4 = some u_p1 → W p l e (Rm 0) s m (([.ref a_p1, .int p2] : List Value).toArray) below meth c H locs 0 0 Q (F0 m 5 ls []) := by
    intro n
    induction n with
    | zero => intro v2_3 p1_4 H locs ls hw hl hf; unfold f_J7_fill_53178_L5 at hf; cases hf
    | succ n ih =>
      intro v2_3 p1_4 H locs ls hw hl hf
      unfold f_J7_fill_53178_L5 at hf
      refine lv_iload_n S.1 S.2.1 dJ7_fill_53178_5 rfl (lv_at hl 2 rfl) ?_
      refine lv_iload_n S.1 S.2.1 dJ7_fill_53178_6 rfl (lv_at hl 3 rfl) ?_
      refine lv_icmp_ge (tgt := 20) S.1 S.2.1 dJ7_fill_53178_7 (by decide) (fun h_5 => ?_) (fun h_5 => ?_)
      · replace hf := if_t h_5 hf
        exact hJ_kk_20_1 p1_4 _ _ _ hw (lv_sub hl [] rfl) hf
      · replace hf := if_f h_5 hf
        refine lv_aload_n S.1 S.2.1 dJ7_fill_53178_10 rfl (lv_at hl 0 rfl) ?_
        refine lv_iload_n S.1 S.2.1 dJ7_fill_53178_11 rfl (lv_at hl 2 rfl) ?_
        refine lv_iload_n S.1 S.2.1 dJ7_fill_53178_12 rfl (lv_at hl 1 rfl) ?_
        obtain ⟨hi_5, hf⟩ := wr_s hf
        refine g_iast (n := n1) (f := p1_4) (w1 := [aI E a_p1 n1 (va_up p1_4 (v2_3 : Int32).toNatClampNeg p2)]) S hN hw 0 hi_5 dJ7_fill_53178_13 rfl rfl (fun H locs hw => ?_)
        generalize va_up p1_4 (v2_3 : Int32).toNatClampNeg p2 = p1_6 at hf hw
        refine lv_iinc (v := (v2_3 + 1)) (lv' := [(2, .int (v2_3 + 1)), (0, .ref a_p1), (1, .int p2), (3, .int (Int32.ofNat n1))]) S.1 S.2.1 dJ7_fill_53178_14 hl (k := 2) rfl rfl (by decide) rfl (fun ls hl => ?_)
        refine lv_goto (tgt := 5) S.1 S.2.1 dJ7_fill_53178_17 (by decide) ?_
        exact ih (v2_3 + 1) p1_6 _ _ _ hw (lv_sub hl [1, 2, 0, 3] rfl) hf
  exact hL_5_6 F 0 p1 _ _ _ hw (lv_sub hl [2, 3, 1, 0] rfl) hf
def f_J7_fill_d0a16_L6 (n1 : Nat) (p2 : Int64) (kk_22_1 : (Nat → Int64) → Option ((Nat → Int64))) : Nat → Int32 → (Nat → Int64) → Option ((Nat → Int64))
  | 0, _, _ => none
  | n + 1, v3_3, p1_4 => (if (Int32.ofNat n1) ≤ v3_3 then (kk_22_1 p1_4) else wr n1 p1_4 v3_3 p2 (fun p1_6 => (f_J7_fill_d0a16_L6 n1 p2 kk_22_1 n (v3_3 + 1) p1_6)))
def f_J7_fill_d0a16 (F : Nat) (p2 : Int64) (p1 : Nat → Int64) (n1 : Nat) : Option ((Nat → Int64)) :=
  (jn (fun (p1_1 : Nat → Int64) => some p1_1) (fun kk_22_1 => (f_J7_fill_d0a16_L6 n1 p2 kk_22_1 F 0 p1)))
set_option maxHeartbeats 4000000 in
set_option maxRecDepth 100000 in
theorem c_J7_fill_d0a16 (l : Launch) (E : Ev) (F : Nat) (a_p1 : Nat) (p1 : Nat → Int64) (n1 : Nat) (p2 : Int64) (u_p1 : Nat → Int64) (hf : f_J7_fill_d0a16 F p2 p1 n1 = some u_p1) :
    CtV l yJ7_fill_d0a16 wsJ7_fill_d0a16 (Rm 0) E [.ref a_p1, .long p2] [aJ E a_p1 n1 p1] [aJ E a_p1 n1 u_p1] := by
  refine ofV (cc := cJ7_fill_d0a16) (maxL := 5) (own := RJ7) rfl rfl (by decide) rfl rfl ?_
  intro p e s m below meth c A ls Q S hnm hN hw hA hl0 hE
  have hl : lv_has ls 5 [(0, .ref a_p1), (1, .long p2)] := hl0 _ (lv_entry [.ref a_p1, .long p2] (n := 5) (Nat.le_of_ble_eq_true rfl))
  unfold f_J7_fill_d0a16 at hf
  refine lv_iconst (v := 0) S.1 S.2.1 dJ7_fill_d0a16_0 (by decide) ?_
  refine lv_istore_n (lv' := [(3, .int 0), (0, .ref a_p1), (1, .long p2)]) S.1 S.2.1 dJ7_fill_d0a16_1 rfl hl (by decide) rfl (fun ls hl => ?_)
  refine lv_aload_n S.1 S.2.1 dJ7_fill_d0a16_2 rfl (lv_at hl 1 rfl) ?_
  refine va_alen S.1 S.2.1 hN.1 hw.1 0 1 rfl rfl (v := Int32.ofNat n1) rfl dJ7_fill_d0a16_3 ?_
  refine lv_istore (lv' := [(4, .int (Int32.ofNat n1)), (3, .int 0), (0, .ref a_p1), (1, .long p2)]) S.1 S.2.1 dJ7_fill_d0a16_4 hl (by decide) rfl (fun ls hl => ?_)
  obtain ⟨kk_22_1, ekk_22_1, hf⟩ := jn_s hf
  have hJ_kk_22_1 : ∀ (p1_1 : Nat → Int64) (H : Heap) (locs : List Loc) (ls : Array Slot), Wo E A s [aJ E a_p1 n1 p1_1] H locs → lv_has ls 5 [] → kk_22_1 p1_1 = some u_p1 → W p l e (Rm 0) s m (([.ref a_p1, .long p2] : List Value).toArray) below meth c H locs 0 0 Q (F0 m 22 ls []) := by
    intro p1_1 H locs ls hw hl hf
    rw [ekk_22_1] at hf
    cases hf
    exact hE _ _ _ _ hw dJ7_fill_d0a16_22
  have hL_6_6 : ∀ (n : Nat) (v3_3 : Int32) (p1_4 : Nat → Int64) (H : Heap) (locs : List Loc) (ls : Array Slot), Wo E A s [aJ E a_p1 n1 p1_4] H locs → lv_has ls 5 [(0, .ref a_p1), (1, .long p2), (3, .int v3_3), (4, .int (Int32.ofNat n1))] → f_J7_fill_d0a16_L6 n1 p2 kk_22_1 n v3_3 p1_4 = some u_p1 → W p l e (Rm 0) s m (([.ref a_p1, .long p2] : List Value).toArray) below meth c H locs 0 0 Q (F0 m 6 ls []) := by
    intro n
    induction n with
    | zero => intro v3_3 p1_4 H locs ls hw hl hf; unfold f_J7_fill_d0a16_L6 at hf; cases hf
    | succ n ih =>
      intro v3_3 p1_4 H locs ls hw hl hf
      unfold f_J7_fill_d0a16_L6 at hf
      refine lv_iload_n S.1 S.2.1 dJ7_fill_d0a16_6 rfl (lv_at hl 2 rfl) ?_
      refine lv_iload S.1 S.2.1 dJ7_fill_d0a16_7 (lv_at hl 3 rfl) ?_
      refine lv_icmp_ge (tgt := 22) S.1 S.2.1 dJ7_fill_d0a16_9 (by decide) (fun h_5 => ?_) (fun h_5 => ?_)
      · replace hf := if_t h_5 hf
        exact hJ_kk_22_1 p1_4 _ _ _ hw (lv_sub hl [] rfl) hf
      · replace hf := if_f h_5 hf
        refine lv_aload_n S.1 S.2.1 dJ7_fill_d0a16_12 rfl (lv_at hl 0 rfl) ?_
        refine lv_iload_n S.1 S.2.1 dJ7_fill_d0a16_13 rfl (lv_at hl 2 rfl) ?_
        refine lv_lload_n S.1 S.2.1 dJ7_fill_d0a16_14 rfl (lv_at hl 1 rfl) ?_
        obtain ⟨hi_5, hf⟩ := wr_s hf
        refine g_last (n := n1) (f := p1_4) (w1 := [aJ E a_p1 n1 (va_up p1_4 (v3_3 : Int32).toNatClampNeg p2)]) S hN hw 0 hi_5 dJ7_fill_d0a16_15 rfl rfl (fun H locs hw => ?_)
        generalize va_up p1_4 (v3_3 : Int32).toNatClampNeg p2 = p1_6 at hf hw
        refine lv_iinc (v := (v3_3 + 1)) (lv' := [(3, .int (v3_3 + 1)), (0, .ref a_p1), (1, .long p2), (4, .int (Int32.ofNat n1))]) S.1 S.2.1 dJ7_fill_d0a16_16 hl (k := 2) rfl rfl (by decide) rfl (fun ls hl => ?_)
        refine lv_goto (tgt := 6) S.1 S.2.1 dJ7_fill_d0a16_19 (by decide) ?_
        exact ih (v3_3 + 1) p1_6 _ _ _ hw (lv_sub hl [1, 2, 0, 3] rfl) hf
  exact hL_6_6 F 0 p1 _ _ _ hw (lv_sub hl [2, 3, 1, 0] rfl) hf
def f_X0_forgetOffers (F : Nat) (c_gain : Nat → Int32) (c_mark : Nat → Int64) : Option ((Nat → Int32) × (Nat → Int64)) :=
  (f_J7_fill_53178 F (-1000000000) c_gain 256).bind (fun p1_1 => (f_J7_fill_d0a16 F (0 : Int64) c_mark 256).bind (fun p1_3 => some (p1_1, p1_3)))
set_option maxHeartbeats 4000000 in
set_option maxRecDepth 100000 in
theorem c_X0_forgetOffers (l : Launch) (E : Ev) (F : Nat) (a_r : Nat) (c_gain : Nat → Int32) (a_c_gain : Nat) (c_mark : Nat → Int64) (a_c_mark : Nat) (a_c_bestGain : Nat) (a_c_bestMark : Nat) (a_c : Nat) (u_c_gain : Nat → Int32) (u_c_mark : Nat → Int64) (hf : f_X0_forgetOffers F c_gain c_mark = some (u_c_gain, u_c_mark)) :
    CtV l yX0_forgetOffers wsX0_forgetOffers (Rm 1) E [.ref a_c] [oC a_c 0 [.ref a_r, .ref a_c_gain, .ref a_c_mark, .ref a_c_bestGain, .ref a_c_bestMark], aI E a_c_gain 256 c_gain, aJ E a_c_mark 256 c_mark] [oC a_c 0 [.ref a_r, .ref a_c_gain, .ref a_c_mark, .ref a_c_bestGain, .ref a_c_bestMark], aI E a_c_gain 256 u_c_gain, aJ E a_c_mark 256 u_c_mark] := by
  refine ofV (cc := cX0_forgetOffers) (maxL := 1) (own := RX0) rfl rfl (by decide) rfl rfl ?_
  intro p e s m below meth c A ls Q S hnm hN hw hA hl0 hE
  have hl : lv_has ls 1 [(0, .ref a_c)] := hl0 _ (lv_entry [.ref a_c] (n := 1) (Nat.le_of_ble_eq_true rfl))
  have iX0 : ∀ w ∈ wsX00, w ∈ wsX0_forgetOffers := by decide +kernel
  have k18 := S.2.2.2.2 (.fieldLink RX0 18 "PairMatching$Chooser" "gain" "[I") (by decide +kernel)
  have k22 := S.2.2.2.2 (.fieldLink RX0 22 "PairMatching$Chooser" "mark" "[J") (by decide +kernel)
  have k32 := S.2.2.2.2 (.constant RX0 32 (-1000000000)) (by decide +kernel)
  unfold f_X0_forgetOffers at hf
  refine lv_aload_n S.1 S.2.1 dX0_forgetOffers_0 rfl (lv_at hl 0 rfl) ?_
  refine g_get S hN hw (C := RX0) (T := TX0) (N := 5) (ci := 0) (v := .ref a_c_gain) 0 1 iX0 k18 dX0_forgetOffers_1 rfl rfl (by decide) rfl ?_
  refine lv_ldc (v := (-1000000000)) S.1 S.2.1 S.2.2.2.1 k32 dX0_forgetOffers_4 ?_
  obtain ⟨p1_1, hc_1, hf⟩ := bd_s hf
  refine g_callv (wc := [aI E a_c_gain 256 c_gain]) (wr := [oC a_c 0 [.ref a_r, .ref a_c_gain, .ref a_c_mark, .ref a_c_bestGain, .ref a_c_bestMark], aJ E a_c_mark 256 c_mark]) (w1 := [aI E a_c_gain 256 p1_1]) (va_runS (As := [.ref a_c_gain, .int (-1000000000)]) (rest := []) S (c_J7_fill_53178 l E F a_c_gain c_gain 256 (-1000000000) p1_1 hc_1 _) (va_cwS 2 S.2.2.2.2 gX0_forgetOffers_J7_fill_53178 rfl rfl rfl (by decide +kernel) (rm_le (by omega) (by decide))) (preS hN hw [1] rfl rfl) rfl rfl hl.1 rfl (lv_room (Nat.le_of_ble_eq_true rfl)) dX0_forgetOffers_6 ⟨Nat.le_refl _, Nat.le_refl _⟩) hw hA [1] [0, 2] rfl rfl rfl (by decide) (fun H locs hw => ?_)
  have hw : Wo E A s [oC a_c 0 [.ref a_r, .ref a_c_gain, .ref a_c_mark, .ref a_c_bestGain, .ref a_c_bestMark], aJ E a_c_mark 256 c_mark, aI E a_c_gain 256 p1_1] H _ := hw
  refine lv_aload_n S.1 S.2.1 dX0_forgetOffers_9 rfl (lv_at hl 0 rfl) ?_
  refine g_get S hN hw (C := RX0) (T := TX0) (N := 5) (ci := 0) (v := .ref a_c_mark) 0 2 iX0 k22 dX0_forgetOffers_10 rfl rfl (by decide) rfl ?_
  refine lv_lconst (v := 0) S.1 S.2.1 dX0_forgetOffers_13 (by decide) ?_
  obtain ⟨p1_3, hc_3, hf⟩ := bd_s hf
  refine g_callv (wc := [aJ E a_c_mark 256 c_mark]) (wr := [oC a_c 0 [.ref a_r, .ref a_c_gain, .ref a_c_mark, .ref a_c_bestGain, .ref a_c_bestMark], aI E a_c_gain 256 p1_1]) (w1 := [aJ E a_c_mark 256 p1_3]) (va_runS (As := [.ref a_c_mark, .long (0 : Int64)]) (rest := []) S (c_J7_fill_d0a16 l E F a_c_mark c_mark 256 (0 : Int64) p1_3 hc_3 _) (va_cwS 2 S.2.2.2.2 gX0_forgetOffers_J7_fill_d0a16 rfl rfl rfl (by decide +kernel) (rm_le (by omega) (by decide))) (preS hN hw [1] rfl rfl) rfl rfl hl.1 rfl (lv_room (Nat.le_of_ble_eq_true rfl)) dX0_forgetOffers_14 ⟨Nat.le_refl _, Nat.le_refl _⟩) hw hA [1] [0, 2] rfl rfl rfl (by decide) (fun H locs hw => ?_)
  have hw : Wo E A s [oC a_c 0 [.ref a_r, .ref a_c_gain, .ref a_c_mark, .ref a_c_bestGain, .ref a_c_bestMark], aI E a_c_gain 256 p1_1, aJ E a_c_mark 256 p1_3] H _ := hw
  cases hf
  exact hE _ _ _ _ hw dX0_forgetOffers_17
def f_X11_cell (p1 : Int32) (p2 : Int32) : Int32 :=
  ((p1 * 16) + p2)
set_option maxHeartbeats 4000000 in
set_option maxRecDepth 100000 in
theorem c_X11_cell (l : Launch) (E : Ev) (p1 : Int32) (p2 : Int32) (ro : Int32) (hf : f_X11_cell p1 p2 = ro) :
    CtI l yX11_cell wsX11_cell (Rm 0) E [.int p1, .int p2] [] ro [] := by
  refine ofI (cc := cX11_cell) (maxL := 2) (own := RX11) rfl rfl (by decide) rfl rfl ?_
  intro p e s m below meth c A ls Q S hnm hN hw hA hl0 hE
  have hl : lv_has ls 2 [(0, .int p1), (1, .int p2)] := hl0 _ (lv_entry [.int p1, .int p2] (n := 2) (Nat.le_of_ble_eq_true rfl))
  unfold f_X11_cell at hf
  refine lv_iload_n S.1 S.2.1 dX11_cell_0 rfl (lv_at hl 0 rfl) ?_
  refine lv_bipush (v := 16) S.1 S.2.1 dX11_cell_1 (by decide) ?_
  refine lv_imul S.1 S.2.1 dX11_cell_3 ?_
  refine lv_iload_n S.1 S.2.1 dX11_cell_4 rfl (lv_at hl 1 rfl) ?_
  refine lv_iadd S.1 S.2.1 dX11_cell_5 ?_
  cases hf
  exact hE _ _ _ _ hw dX11_cell_6
def f_X0_offer (p1 : Int32) (p2 : Int32) (p3 : Int32) (p4 : Int64) (c_gain : Nat → Int32) (c_mark : Nat → Int64) : Option ((Nat → Int32) × (Nat → Int64)) :=
  rd 256 c_gain (f_X11_cell p1 p2) (fun y_3 => (if p3 ≤ y_3 then some (c_gain, c_mark) else wr 256 c_gain (f_X11_cell p1 p2) p3 (fun c_gain_7 => wr 256 c_gain_7 (f_X11_cell p2 p1) p3 (fun c_gain_10 => wr 256 c_mark (f_X11_cell p1 p2) p4 (fun c_mark_13 => wr 256 c_mark_13 (f_X11_cell p2 p1) p4 (fun c_mark_16 => some (c_gain_10, c_mark_16)))))))
set_option maxHeartbeats 4000000 in
set_option maxRecDepth 100000 in
theorem c_X0_offer (l : Launch) (E : Ev) (a_r : Nat) (c_gain : Nat → Int32) (a_c_gain : Nat) (c_mark : Nat → Int64) (a_c_mark : Nat) (a_c_bestGain : Nat) (a_c_bestMark : Nat) (a_c : Nat) (p1 : Int32) (p2 : Int32) (p3 : Int32) (p4 : Int64) (u_c_gain : Nat → Int32) (u_c_mark : Nat → Int64) (hf : f_X0_offer p1 p2 p3 p4 c_gain c_mark = some (u_c_gain, u_c_mark)) :
    CtV l yX0_offer wsX0_offer (Rm 1) E [.ref a_c, .int p1, .int p2, .int p3, .long p4] [oC a_c 0 [.ref a_r, .ref a_c_gain, .ref a_c_mark, .ref a_c_bestGain, .ref a_c_bestMark], aI E a_c_gain 256 c_gain, aJ E a_c_mark 256 c_mark] [oC a_c 0 [.ref a_r, .ref a_c_gain, .ref a_c_mark, .ref a_c_bestGain, .ref a_c_bestMark], aI E a_c_gain 256 u_c_gain, aJ E a_c_mark 256 u_c_mark] := by
  refine ofV (cc := cX0_offer) (maxL := 6) (own := RX0) rfl rfl (by decide) rfl rfl ?_
  intro p e s m below meth c A ls Q S hnm hN hw hA hl0 hE
  have hl : lv_has ls 6 [(0, .ref a_c), (1, .int p1), (2, .int p2), (3, .int p3), (4, .long p4)] := hl0 _ (lv_entry [.ref a_c, .int p1, .int p2, .int p3, .long p4] (n := 6) (Nat.le_of_ble_eq_true rfl))
  have iX0 : ∀ w ∈ wsX00, w ∈ wsX0_offer := by decide +kernel
  have k18 := S.2.2.2.2 (.fieldLink RX0 18 "PairMatching$Chooser" "gain" "[I") (by decide +kernel)
  have k22 := S.2.2.2.2 (.fieldLink RX0 22 "PairMatching$Chooser" "mark" "[J") (by decide +kernel)
  have kIX11 := S.2.2.2.2 (.initialized RX11) (by decide +kernel)
  have kSX11_cell := S.2.2.2.2 (.static yX11_cell) (by decide +kernel)
  have w42 : Cond.methodLinkNest RX0 42 yX11_cell "PairMatching" ∈ nestW := List.mem_of_getElem? (i := 63) rfl
  unfold f_X0_offer at hf
  refine lv_iload_n S.1 S.2.1 dX0_offer_0 rfl (lv_at hl 3 rfl) ?_
  refine lv_aload_n S.1 S.2.1 dX0_offer_1 rfl (lv_at hl 0 rfl) ?_
  refine g_get S hN hw (C := RX0) (T := TX0) (N := 5) (ci := 0) (v := .ref a_c_gain) 0 1 iX0 k18 dX0_offer_2 rfl rfl (by decide) rfl ?_
  refine lv_iload_n S.1 S.2.1 dX0_offer_5 rfl (lv_at hl 1 rfl) ?_
  refine lv_iload_n S.1 S.2.1 dX0_offer_6 rfl (lv_at hl 2 rfl) ?_
  refine g_calli (r := (f_X11_cell p1 p2)) (wc := []) (wr := [oC a_c 0 [.ref a_r, .ref a_c_gain, .ref a_c_mark, .ref a_c_bestGain, .ref a_c_bestMark], aI E a_c_gain 256 c_gain, aJ E a_c_mark 256 c_mark]) (w1 := []) (va_runSN (As := [.int p1, .int p2]) (rest := [.ref a_c_gain, .int p3]) S (c_X11_cell l E p1 p2 (f_X11_cell p1 p2) rfl _) ⟨(va_cnB 2 S.2.2.2.2 gX0_offer_X11_cell_n42 rfl rfl rfl (hN.2 _ w42) kIX11 (by decide +kernel) (rm_le (by omega) (by decide))), kSX11_cell, trivial⟩ (preS hN hw [] rfl rfl) rfl rfl hl.1 rfl (lv_room (Nat.le_of_ble_eq_true rfl)) dX0_offer_7 ⟨Nat.le_refl _, Nat.le_refl _⟩) hw hA [] [0, 1, 2] rfl rfl rfl (by decide) (fun H locs hw => ?_)
  have hw : Wo E A s [oC a_c 0 [.ref a_r, .ref a_c_gain, .ref a_c_mark, .ref a_c_bestGain, .ref a_c_bestMark], aI E a_c_gain 256 c_gain, aJ E a_c_mark 256 c_mark] H _ := hw
  obtain ⟨hi_2, hf⟩ := rd_s hf
  refine g_iald (n := 256) (f := c_gain) S hN hw 1 hi_2 dX0_offer_10 rfl ?_
  generalize c_gain ((f_X11_cell p1 p2) : Int32).toNatClampNeg = y_3 at hf ⊢
  refine lv_icmp_le (tgt := 60) S.1 S.2.1 dX0_offer_11 (by decide) (fun h_4 => ?_) (fun h_4 => ?_)
  · replace hf := if_t h_4 hf
    cases hf
    exact hE _ _ _ _ hw dX0_offer_60
  · replace hf := if_f h_4 hf
    refine lv_aload_n S.1 S.2.1 dX0_offer_14 rfl (lv_at hl 0 rfl) ?_
    refine g_get S hN hw (C := RX0) (T := TX0) (N := 5) (ci := 0) (v := .ref a_c_gain) 0 1 iX0 k18 dX0_offer_15 rfl rfl (by decide) rfl ?_
    refine lv_iload_n S.1 S.2.1 dX0_offer_18 rfl (lv_at hl 1 rfl) ?_
    refine lv_iload_n S.1 S.2.1 dX0_offer_19 rfl (lv_at hl 2 rfl) ?_
    refine g_calli (r := (f_X11_cell p1 p2)) (wc := []) (wr := [oC a_c 0 [.ref a_r, .ref a_c_gain, .ref a_c_mark, .ref a_c_bestGain, .ref a_c_bestMark], aI E a_c_gain 256 c_gain, aJ E a_c_mark 256 c_mark]) (w1 := []) (va_runSN (As := [.int p1, .int p2]) (rest := [.ref a_c_gain]) S (c_X11_cell l E p1 p2 (f_X11_cell p1 p2) rfl _) ⟨(va_cnB 2 S.2.2.2.2 gX0_offer_X11_cell_n42 rfl rfl rfl (hN.2 _ w42) kIX11 (by decide +kernel) (rm_le (by omega) (by decide))), kSX11_cell, trivial⟩ (preS hN hw [] rfl rfl) rfl rfl hl.1 rfl (lv_room (Nat.le_of_ble_eq_true rfl)) dX0_offer_20 ⟨Nat.le_refl _, Nat.le_refl _⟩) hw hA [] [0, 1, 2] rfl rfl rfl (by decide) (fun H locs hw => ?_)
    have hw : Wo E A s [oC a_c 0 [.ref a_r, .ref a_c_gain, .ref a_c_mark, .ref a_c_bestGain, .ref a_c_bestMark], aI E a_c_gain 256 c_gain, aJ E a_c_mark 256 c_mark] H _ := hw
    refine lv_iload_n S.1 S.2.1 dX0_offer_23 rfl (lv_at hl 3 rfl) ?_
    obtain ⟨hi_6, hf⟩ := wr_s hf
    refine g_iast (n := 256) (f := c_gain) (w1 := [oC a_c 0 [.ref a_r, .ref a_c_gain, .ref a_c_mark, .ref a_c_bestGain, .ref a_c_bestMark], aI E a_c_gain 256 (va_up c_gain ((f_X11_cell p1 p2) : Int32).toNatClampNeg p3), aJ E a_c_mark 256 c_mark]) S hN hw 1 hi_6 dX0_offer_24 rfl rfl (fun H locs hw => ?_)
    generalize va_up c_gain ((f_X11_cell p1 p2) : Int32).toNatClampNeg p3 = c_gain_7 at hf hw
    refine lv_aload_n S.1 S.2.1 dX0_offer_25 rfl (lv_at hl 0 rfl) ?_
    refine g_get S hN hw (C := RX0) (T := TX0) (N := 5) (ci := 0) (v := .ref a_c_gain) 0 1 iX0 k18 dX0_offer_26 rfl rfl (by decide) rfl ?_
    refine lv_iload_n S.1 S.2.1 dX0_offer_29 rfl (lv_at hl 2 rfl) ?_
    refine lv_iload_n S.1 S.2.1 dX0_offer_30 rfl (lv_at hl 1 rfl) ?_
    refine g_calli (r := (f_X11_cell p2 p1)) (wc := []) (wr := [oC a_c 0 [.ref a_r, .ref a_c_gain, .ref a_c_mark, .ref a_c_bestGain, .ref a_c_bestMark], aI E a_c_gain 256 c_gain_7, aJ E a_c_mark 256 c_mark]) (w1 := []) (va_runSN (As := [.int p2, .int p1]) (rest := [.ref a_c_gain]) S (c_X11_cell l E p2 p1 (f_X11_cell p2 p1) rfl _) ⟨(va_cnB 2 S.2.2.2.2 gX0_offer_X11_cell_n42 rfl rfl rfl (hN.2 _ w42) kIX11 (by decide +kernel) (rm_le (by omega) (by decide))), kSX11_cell, trivial⟩ (preS hN hw [] rfl rfl) rfl rfl hl.1 rfl (lv_room (Nat.le_of_ble_eq_true rfl)) dX0_offer_31 ⟨Nat.le_refl _, Nat.le_refl _⟩) hw hA [] [0, 1, 2] rfl rfl rfl (by decide) (fun H locs hw => ?_)
    have hw : Wo E A s [oC a_c 0 [.ref a_r, .ref a_c_gain, .ref a_c_mark, .ref a_c_bestGain, .ref a_c_bestMark], aI E a_c_gain 256 c_gain_7, aJ E a_c_mark 256 c_mark] H _ := hw
    refine lv_iload_n S.1 S.2.1 dX0_offer_34 rfl (lv_at hl 3 rfl) ?_
    obtain ⟨hi_9, hf⟩ := wr_s hf
    refine g_iast (n := 256) (f := c_gain_7) (w1 := [oC a_c 0 [.ref a_r, .ref a_c_gain, .ref a_c_mark, .ref a_c_bestGain, .ref a_c_bestMark], aI E a_c_gain 256 (va_up c_gain_7 ((f_X11_cell p2 p1) : Int32).toNatClampNeg p3), aJ E a_c_mark 256 c_mark]) S hN hw 1 hi_9 dX0_offer_35 rfl rfl (fun H locs hw => ?_)
    generalize va_up c_gain_7 ((f_X11_cell p2 p1) : Int32).toNatClampNeg p3 = c_gain_10 at hf hw
    refine lv_aload_n S.1 S.2.1 dX0_offer_36 rfl (lv_at hl 0 rfl) ?_
    refine g_get S hN hw (C := RX0) (T := TX0) (N := 5) (ci := 0) (v := .ref a_c_mark) 0 2 iX0 k22 dX0_offer_37 rfl rfl (by decide) rfl ?_
    refine lv_iload_n S.1 S.2.1 dX0_offer_40 rfl (lv_at hl 1 rfl) ?_
    refine lv_iload_n S.1 S.2.1 dX0_offer_41 rfl (lv_at hl 2 rfl) ?_
    refine g_calli (r := (f_X11_cell p1 p2)) (wc := []) (wr := [oC a_c 0 [.ref a_r, .ref a_c_gain, .ref a_c_mark, .ref a_c_bestGain, .ref a_c_bestMark], aI E a_c_gain 256 c_gain_10, aJ E a_c_mark 256 c_mark]) (w1 := []) (va_runSN (As := [.int p1, .int p2]) (rest := [.ref a_c_mark]) S (c_X11_cell l E p1 p2 (f_X11_cell p1 p2) rfl _) ⟨(va_cnB 2 S.2.2.2.2 gX0_offer_X11_cell_n42 rfl rfl rfl (hN.2 _ w42) kIX11 (by decide +kernel) (rm_le (by omega) (by decide))), kSX11_cell, trivial⟩ (preS hN hw [] rfl rfl) rfl rfl hl.1 rfl (lv_room (Nat.le_of_ble_eq_true rfl)) dX0_offer_42 ⟨Nat.le_refl _, Nat.le_refl _⟩) hw hA [] [0, 1, 2] rfl rfl rfl (by decide) (fun H locs hw => ?_)
    have hw : Wo E A s [oC a_c 0 [.ref a_r, .ref a_c_gain, .ref a_c_mark, .ref a_c_bestGain, .ref a_c_bestMark], aI E a_c_gain 256 c_gain_10, aJ E a_c_mark 256 c_mark] H _ := hw
    refine lv_lload S.1 S.2.1 dX0_offer_45 (lv_at hl 4 rfl) ?_
    obtain ⟨hi_12, hf⟩ := wr_s hf
    refine g_last (n := 256) (f := c_mark) (w1 := [oC a_c 0 [.ref a_r, .ref a_c_gain, .ref a_c_mark, .ref a_c_bestGain, .ref a_c_bestMark], aI E a_c_gain 256 c_gain_10, aJ E a_c_mark 256 (va_up c_mark ((f_X11_cell p1 p2) : Int32).toNatClampNeg p4)]) S hN hw 2 hi_12 dX0_offer_47 rfl rfl (fun H locs hw => ?_)
    generalize va_up c_mark ((f_X11_cell p1 p2) : Int32).toNatClampNeg p4 = c_mark_13 at hf hw
    refine lv_aload_n S.1 S.2.1 dX0_offer_48 rfl (lv_at hl 0 rfl) ?_
    refine g_get S hN hw (C := RX0) (T := TX0) (N := 5) (ci := 0) (v := .ref a_c_mark) 0 2 iX0 k22 dX0_offer_49 rfl rfl (by decide) rfl ?_
    refine lv_iload_n S.1 S.2.1 dX0_offer_52 rfl (lv_at hl 2 rfl) ?_
    refine lv_iload_n S.1 S.2.1 dX0_offer_53 rfl (lv_at hl 1 rfl) ?_
    refine g_calli (r := (f_X11_cell p2 p1)) (wc := []) (wr := [oC a_c 0 [.ref a_r, .ref a_c_gain, .ref a_c_mark, .ref a_c_bestGain, .ref a_c_bestMark], aI E a_c_gain 256 c_gain_10, aJ E a_c_mark 256 c_mark_13]) (w1 := []) (va_runSN (As := [.int p2, .int p1]) (rest := [.ref a_c_mark]) S (c_X11_cell l E p2 p1 (f_X11_cell p2 p1) rfl _) ⟨(va_cnB 2 S.2.2.2.2 gX0_offer_X11_cell_n42 rfl rfl rfl (hN.2 _ w42) kIX11 (by decide +kernel) (rm_le (by omega) (by decide))), kSX11_cell, trivial⟩ (preS hN hw [] rfl rfl) rfl rfl hl.1 rfl (lv_room (Nat.le_of_ble_eq_true rfl)) dX0_offer_54 ⟨Nat.le_refl _, Nat.le_refl _⟩) hw hA [] [0, 1, 2] rfl rfl rfl (by decide) (fun H locs hw => ?_)
    have hw : Wo E A s [oC a_c 0 [.ref a_r, .ref a_c_gain, .ref a_c_mark, .ref a_c_bestGain, .ref a_c_bestMark], aI E a_c_gain 256 c_gain_10, aJ E a_c_mark 256 c_mark_13] H _ := hw
    refine lv_lload S.1 S.2.1 dX0_offer_57 (lv_at hl 4 rfl) ?_
    obtain ⟨hi_15, hf⟩ := wr_s hf
    refine g_last (n := 256) (f := c_mark_13) (w1 := [oC a_c 0 [.ref a_r, .ref a_c_gain, .ref a_c_mark, .ref a_c_bestGain, .ref a_c_bestMark], aI E a_c_gain 256 c_gain_10, aJ E a_c_mark 256 (va_up c_mark_13 ((f_X11_cell p2 p1) : Int32).toNatClampNeg p4)]) S hN hw 2 hi_15 dX0_offer_59 rfl rfl (fun H locs hw => ?_)
    generalize va_up c_mark_13 ((f_X11_cell p2 p1) : Int32).toNatClampNeg p4 = c_mark_16 at hf hw
    cases hf
    exact hE _ _ _ _ hw dX0_offer_60
def f_J6_bitCount_0f7a4 (p1 : Int32) : Int32 :=
  ltt (p1 - (((p1 : Int32).toUInt32 >>> ((1 : Int32).toUInt32 &&& Int32.toUInt32 31)).toInt32 &&& 1431655765)) (fun x_1 => ltt ((x_1 &&& 858993459) + (((x_1 : Int32).toUInt32 >>> ((2 : Int32).toUInt32 &&& Int32.toUInt32 31)).toInt32 &&& 858993459)) (fun x_2 => ltt ((x_2 + ((x_2 : Int32).toUInt32 >>> ((4 : Int32).toUInt32 &&& Int32.toUInt32 31)).toInt32) &&& 252645135) (fun x_3 => ltt (x_3 + ((x_3 : Int32).toUInt32 >>> ((8 : Int32).toUInt32 &&& Int32.toUInt32 31)).toInt32) (fun x_4 => ltt (x_4 + ((x_4 : Int32).toUInt32 >>> ((16 : Int32).toUInt32 &&& Int32.toUInt32 31)).toInt32) (fun x_5 => (x_5 &&& 63))))))
set_option maxHeartbeats 4000000 in
set_option maxRecDepth 100000 in
theorem c_J6_bitCount_0f7a4 (l : Launch) (E : Ev) (p1 : Int32) (ro : Int32) (hf : f_J6_bitCount_0f7a4 p1 = ro) :
    CtI l yJ6_bitCount_0f7a4 wsJ6_bitCount_0f7a4 (Rm 0) E [.int p1] [] ro [] := by
  refine ofI (cc := cJ6_bitCount_0f7a4) (maxL := 1) (own := RJ6) rfl rfl (by decide) rfl rfl ?_
  intro p e s m below meth c A ls Q S hnm hN hw hA hl0 hE
  have hl : lv_has ls 1 [(0, .int p1)] := hl0 _ (lv_entry [.int p1] (n := 1) (Nat.le_of_ble_eq_true rfl))
  have k265 := S.2.2.2.2 (.constant RJ6 265 1431655765) (by decide +kernel)
  have k266 := S.2.2.2.2 (.constant RJ6 266 858993459) (by decide +kernel)
  have k267 := S.2.2.2.2 (.constant RJ6 267 252645135) (by decide +kernel)
  unfold f_J6_bitCount_0f7a4 at hf
  refine lv_iload_n S.1 S.2.1 dJ6_bitCount_0f7a4_0 rfl (lv_at hl 0 rfl) ?_
  refine lv_iload_n S.1 S.2.1 dJ6_bitCount_0f7a4_1 rfl (lv_at hl 0 rfl) ?_
  refine lv_iconst (v := 1) S.1 S.2.1 dJ6_bitCount_0f7a4_2 (by decide) ?_
  refine lv_iushr S.1 S.2.1 dJ6_bitCount_0f7a4_3 rfl ?_
  refine lv_ldcw (v := 1431655765) S.1 S.2.1 S.2.2.2.1 k265 dJ6_bitCount_0f7a4_4 ?_
  refine lv_iand S.1 S.2.1 dJ6_bitCount_0f7a4_7 ?_
  refine lv_isub S.1 S.2.1 dJ6_bitCount_0f7a4_8 ?_
  obtain ⟨x_1, he_1, hf⟩ := ltt_s hf
  rw [← he_1]
  refine lv_istore_n (lv' := [(0, .int x_1)]) S.1 S.2.1 dJ6_bitCount_0f7a4_9 rfl hl (by decide) rfl (fun ls hl => ?_)
  refine lv_iload_n S.1 S.2.1 dJ6_bitCount_0f7a4_10 rfl (lv_at hl 0 rfl) ?_
  refine lv_ldcw (v := 858993459) S.1 S.2.1 S.2.2.2.1 k266 dJ6_bitCount_0f7a4_11 ?_
  refine lv_iand S.1 S.2.1 dJ6_bitCount_0f7a4_14 ?_
  refine lv_iload_n S.1 S.2.1 dJ6_bitCount_0f7a4_15 rfl (lv_at hl 0 rfl) ?_
  refine lv_iconst (v := 2) S.1 S.2.1 dJ6_bitCount_0f7a4_16 (by decide) ?_
  refine lv_iushr S.1 S.2.1 dJ6_bitCount_0f7a4_17 rfl ?_
  refine lv_ldcw (v := 858993459) S.1 S.2.1 S.2.2.2.1 k266 dJ6_bitCount_0f7a4_18 ?_
  refine lv_iand S.1 S.2.1 dJ6_bitCount_0f7a4_21 ?_
  refine lv_iadd S.1 S.2.1 dJ6_bitCount_0f7a4_22 ?_
  obtain ⟨x_2, he_2, hf⟩ := ltt_s hf
  rw [← he_2]
  refine lv_istore_n (lv' := [(0, .int x_2)]) S.1 S.2.1 dJ6_bitCount_0f7a4_23 rfl hl (by decide) rfl (fun ls hl => ?_)
  refine lv_iload_n S.1 S.2.1 dJ6_bitCount_0f7a4_24 rfl (lv_at hl 0 rfl) ?_
  refine lv_iload_n S.1 S.2.1 dJ6_bitCount_0f7a4_25 rfl (lv_at hl 0 rfl) ?_
  refine lv_iconst (v := 4) S.1 S.2.1 dJ6_bitCount_0f7a4_26 (by decide) ?_
  refine lv_iushr S.1 S.2.1 dJ6_bitCount_0f7a4_27 rfl ?_
  refine lv_iadd S.1 S.2.1 dJ6_bitCount_0f7a4_28 ?_
  refine lv_ldcw (v := 252645135) S.1 S.2.1 S.2.2.2.1 k267 dJ6_bitCount_0f7a4_29 ?_
  refine lv_iand S.1 S.2.1 dJ6_bitCount_0f7a4_32 ?_
  obtain ⟨x_3, he_3, hf⟩ := ltt_s hf
  rw [← he_3]
  refine lv_istore_n (lv' := [(0, .int x_3)]) S.1 S.2.1 dJ6_bitCount_0f7a4_33 rfl hl (by decide) rfl (fun ls hl => ?_)
  refine lv_iload_n S.1 S.2.1 dJ6_bitCount_0f7a4_34 rfl (lv_at hl 0 rfl) ?_
  refine lv_iload_n S.1 S.2.1 dJ6_bitCount_0f7a4_35 rfl (lv_at hl 0 rfl) ?_
  refine lv_bipush (v := 8) S.1 S.2.1 dJ6_bitCount_0f7a4_36 (by decide) ?_
  refine lv_iushr S.1 S.2.1 dJ6_bitCount_0f7a4_38 rfl ?_
  refine lv_iadd S.1 S.2.1 dJ6_bitCount_0f7a4_39 ?_
  obtain ⟨x_4, he_4, hf⟩ := ltt_s hf
  rw [← he_4]
  refine lv_istore_n (lv' := [(0, .int x_4)]) S.1 S.2.1 dJ6_bitCount_0f7a4_40 rfl hl (by decide) rfl (fun ls hl => ?_)
  refine lv_iload_n S.1 S.2.1 dJ6_bitCount_0f7a4_41 rfl (lv_at hl 0 rfl) ?_
  refine lv_iload_n S.1 S.2.1 dJ6_bitCount_0f7a4_42 rfl (lv_at hl 0 rfl) ?_
  refine lv_bipush (v := 16) S.1 S.2.1 dJ6_bitCount_0f7a4_43 (by decide) ?_
  refine lv_iushr S.1 S.2.1 dJ6_bitCount_0f7a4_45 rfl ?_
  refine lv_iadd S.1 S.2.1 dJ6_bitCount_0f7a4_46 ?_
  obtain ⟨x_5, he_5, hf⟩ := ltt_s hf
  rw [← he_5]
  refine lv_istore_n (lv' := [(0, .int x_5)]) S.1 S.2.1 dJ6_bitCount_0f7a4_47 rfl hl (by decide) rfl (fun ls hl => ?_)
  refine lv_iload_n S.1 S.2.1 dJ6_bitCount_0f7a4_48 rfl (lv_at hl 0 rfl) ?_
  refine lv_bipush (v := 63) S.1 S.2.1 dJ6_bitCount_0f7a4_49 (by decide) ?_
  refine lv_iand S.1 S.2.1 dJ6_bitCount_0f7a4_51 ?_
  cases hf
  exact hE _ _ _ _ hw dJ6_bitCount_0f7a4_52
def f_X11_leastNode (p1 : Int32) : Int32 :=
  (f_J6_bitCount_0f7a4 ((p1 &&& (-p1)) - 1))
set_option maxHeartbeats 4000000 in
set_option maxRecDepth 100000 in
theorem c_X11_leastNode (l : Launch) (E : Ev) (p1 : Int32) (ro : Int32) (hf : f_X11_leastNode p1 = ro) :
    CtI l yX11_leastNode wsX11_leastNode (Rm 1) E [.int p1] [] ro [] := by
  refine ofI (cc := cX11_leastNode) (maxL := 1) (own := RX11) rfl rfl (by decide) rfl rfl ?_
  intro p e s m below meth c A ls Q S hnm hN hw hA hl0 hE
  have hl : lv_has ls 1 [(0, .int p1)] := hl0 _ (lv_entry [.int p1] (n := 1) (Nat.le_of_ble_eq_true rfl))
  unfold f_X11_leastNode at hf
  refine lv_iload_n S.1 S.2.1 dX11_leastNode_0 rfl (lv_at hl 0 rfl) ?_
  refine lv_iload_n S.1 S.2.1 dX11_leastNode_1 rfl (lv_at hl 0 rfl) ?_
  refine lv_ineg S.1 S.2.1 dX11_leastNode_2 ?_
  refine lv_iand S.1 S.2.1 dX11_leastNode_3 ?_
  refine lv_iconst (v := 1) S.1 S.2.1 dX11_leastNode_4 (by decide) ?_
  refine lv_isub S.1 S.2.1 dX11_leastNode_5 ?_
  refine g_calli (r := (f_J6_bitCount_0f7a4 ((p1 &&& (-p1)) - 1))) (wc := []) (wr := []) (w1 := []) (va_runS (As := [.int ((p1 &&& (-p1)) - 1)]) (rest := []) S (c_J6_bitCount_0f7a4 l E ((p1 &&& (-p1)) - 1) (f_J6_bitCount_0f7a4 ((p1 &&& (-p1)) - 1)) rfl _) (va_cwS 1 S.2.2.2.2 gX11_leastNode_J6_bitCount_0f7a4 rfl rfl rfl (by decide +kernel) (rm_le (by omega) (by decide))) (preS hN hw [] rfl rfl) rfl rfl hl.1 rfl (lv_room (Nat.le_of_ble_eq_true rfl)) dX11_leastNode_6 ⟨Nat.le_refl _, Nat.le_refl _⟩) hw hA [] [] rfl rfl rfl (by decide) (fun H locs hw => ?_)
  have hw : Wo E A s [] H _ := hw
  cases hf
  exact hE _ _ _ _ hw dX11_leastNode_9
def f_X7_placeOf_L10 (r_slots : Nat → Int32) (r_slotOf : Nat → Int32) (r_sets : Nat → Int32) (r_amount : Int32) (p1 : Int32) (kk_75_1 : Option (Int32)) : Nat → Int32 → Int32 → Option (Int32)
  | 0, _, _ => none
  | n + 1, v2_3, v3_4 => (if 4096 ≤ v3_4 then (kk_75_1) else rd 4096 r_slots v2_3 (fun y_6 => (if r_amount ≤ y_6 then some (-1) else rd 2584 r_slotOf y_6 (fun y_8 => (if y_8 = v2_3 then rd 2584 r_sets y_6 (fun y_10 => (if y_10 = p1 then some y_6 else (f_X7_placeOf_L10 r_slots r_slotOf r_sets r_amount p1 kk_75_1 n ((v2_3 + 1) &&& 4095) (v3_4 + 1)))) else some (-1))))))
def f_X7_placeOf (F : Nat) (p1 : Int32) (r_slots : Nat → Int32) (r_slotOf : Nat → Int32) (r_sets : Nat → Int32) (r_amount : Int32) : Option (Int32) :=
  ltt ((((p1 * (-1640531535)) : Int32).toUInt32 >>> ((20 : Int32).toUInt32 &&& Int32.toUInt32 31)).toInt32) (fun x_1 => (jn (some (-1)) (fun kk_75_1 => (f_X7_placeOf_L10 r_slots r_slotOf r_sets r_amount p1 kk_75_1 F x_1 0))))
set_option maxHeartbeats 4000000 in
set_option maxRecDepth 100000 in
theorem c_X7_placeOf (l : Launch) (E : Ev) (F : Nat) (r_slots : Nat → Int32) (a_r_slots : Nat) (r_slotOf : Nat → Int32) (a_r_slotOf : Nat) (r_sets : Nat → Int32) (a_r_sets : Nat) (a_r_later : Nat) (a_r_laters : Nat) (r_mayLeave : Int32) (r_amount : Int32) (a_r : Nat) (p1 : Int32) (ro : Int32) (hf : f_X7_placeOf F p1 r_slots r_slotOf r_sets r_amount = some ro) :
    CtI l yX7_placeOf wsX7_placeOf (Rm 0) E [.ref a_r, .int p1] [oC a_r 7 [.ref a_r_slots, .ref a_r_slotOf, .ref a_r_sets, .ref a_r_later, .ref a_r_laters, .int r_mayLeave, .int r_amount], aI E a_r_slots 4096 r_slots, aI E a_r_slotOf 2584 r_slotOf, aI E a_r_sets 2584 r_sets] ro [oC a_r 7 [.ref a_r_slots, .ref a_r_slotOf, .ref a_r_sets, .ref a_r_later, .ref a_r_laters, .int r_mayLeave, .int r_amount], aI E a_r_slots 4096 r_slots, aI E a_r_slotOf 2584 r_slotOf, aI E a_r_sets 2584 r_sets] := by
  refine ofI (cc := cX7_placeOf) (maxL := 5) (own := RX7) rfl rfl (by decide) rfl rfl ?_
  intro p e s m below meth c A ls Q S hnm hN hw hA hl0 hE
  have hl : lv_has ls 5 [(0, .ref a_r), (1, .int p1)] := hl0 _ (lv_entry [.ref a_r, .int p1] (n := 5) (Nat.le_of_ble_eq_true rfl))
  have iX7 : ∀ w ∈ wsX70, w ∈ wsX7_placeOf := by decide +kernel
  have k11 := S.2.2.2.2 (.fieldLink RX7 11 "PairMatching$Rests" "slots" "[I") (by decide +kernel)
  have k15 := S.2.2.2.2 (.fieldLink RX7 15 "PairMatching$Rests" "slotOf" "[I") (by decide +kernel)
  have k18 := S.2.2.2.2 (.fieldLink RX7 18 "PairMatching$Rests" "sets" "[I") (by decide +kernel)
  have k31 := S.2.2.2.2 (.fieldLink RX7 31 "PairMatching$Rests" "amount" "I") (by decide +kernel)
  have k42 := S.2.2.2.2 (.constant RX7 42 (-1640531535)) (by decide +kernel)
  unfold f_X7_placeOf at hf
  refine lv_iload_n S.1 S.2.1 dX7_placeOf_0 rfl (lv_at hl 1 rfl) ?_
  refine lv_ldc (v := (-1640531535)) S.1 S.2.1 S.2.2.2.1 k42 dX7_placeOf_1 ?_
  refine lv_imul S.1 S.2.1 dX7_placeOf_3 ?_
  refine lv_bipush (v := 20) S.1 S.2.1 dX7_placeOf_4 (by decide) ?_
  refine lv_iushr S.1 S.2.1 dX7_placeOf_6 rfl ?_
  obtain ⟨x_1, he_1, hf⟩ := ltt_s hf
  rw [← he_1]
  refine lv_istore_n (lv' := [(2, .int x_1), (0, .ref a_r), (1, .int p1)]) S.1 S.2.1 dX7_placeOf_7 rfl hl (by decide) rfl (fun ls hl => ?_)
  refine lv_iconst (v := 0) S.1 S.2.1 dX7_placeOf_8 (by decide) ?_
  refine lv_istore_n (lv' := [(3, .int 0), (2, .int x_1), (0, .ref a_r), (1, .int p1)]) S.1 S.2.1 dX7_placeOf_9 rfl hl (by decide) rfl (fun ls hl => ?_)
  obtain ⟨kk_75_1, ekk_75_1, hf⟩ := jn_s hf
  have hJ_kk_75_1 : ∀  (H : Heap) (locs : List Loc) (ls : Array Slot), Wo E A s [oC a_r 7 [.ref a_r_slots, .ref a_r_slotOf, .ref a_r_sets, .ref a_r_later, .ref a_r_laters, .int r_mayLeave, .int r_amount], aI E a_r_slots 4096 r_slots, aI E a_r_slotOf 2584 r_slotOf, aI E a_r_sets 2584 r_sets] H locs → lv_has ls 5 [] → kk_75_1 = some ro → W p l e (Rm 0) s m (([.ref a_r, .int p1] : List Value).toArray) below meth c H locs 0 0 Q (F0 m 75 ls []) := by
    intro H locs ls hw hl hf
    rw [ekk_75_1] at hf
    refine lv_iconst (v := (-1)) S.1 S.2.1 dX7_placeOf_75 (by decide) ?_
    cases hf
    exact hE _ _ _ _ hw dX7_placeOf_76
  have hL_10_11 : ∀ (n : Nat) (v2_3 : Int32) (v3_4 : Int32) (H : Heap) (locs : List Loc) (ls : Array Slot), Wo E A s [oC a_r 7 [.ref a_r_slots, .ref a_r_slotOf, .ref a_r_sets, .ref a_r_later, .ref a_r_laters, .int r_mayLeave, .int r_amount], aI E a_r_slots 4096 r_slots, aI E a_r_slotOf 2584 r_slotOf, aI E a_r_sets 2584 r_sets] H locs → lv_has ls 5 [(0, .ref a_r), (1, .int p1), (2, .int v2_3), (3, .int v3_4)] → f_X7_placeOf_L10 r_slots r_slotOf r_sets r_amount p1 kk_75_1 n v2_3 v3_4 = some ro → W p l e (Rm 0) s m (([.ref a_r, .int p1] : List Value).toArray) below meth c H locs 0 0 Q (F0 m 10 ls []) := by
    intro n
    induction n with
    | zero => intro v2_3 v3_4 H locs ls hw hl hf; unfold f_X7_placeOf_L10 at hf; cases hf
    | succ n ih =>
      intro v2_3 v3_4 H locs ls hw hl hf
      unfold f_X7_placeOf_L10 at hf
      refine lv_iload_n S.1 S.2.1 dX7_placeOf_10 rfl (lv_at hl 3 rfl) ?_
      refine lv_sipush (v := 4096) S.1 S.2.1 dX7_placeOf_11 (by decide) ?_
      refine lv_icmp_ge (tgt := 75) S.1 S.2.1 dX7_placeOf_14 (by decide) (fun h_5 => ?_) (fun h_5 => ?_)
      · replace hf := if_t h_5 hf
        exact hJ_kk_75_1 _ _ _ hw (lv_sub hl [] rfl) hf
      · replace hf := if_f h_5 hf
        refine lv_aload_n S.1 S.2.1 dX7_placeOf_17 rfl (lv_at hl 0 rfl) ?_
        refine g_get S hN hw (C := RX7) (T := TX7) (N := 7) (ci := 7) (v := .ref a_r_slots) 0 0 iX7 k11 dX7_placeOf_18 rfl rfl (by decide) rfl ?_
        refine lv_iload_n S.1 S.2.1 dX7_placeOf_21 rfl (lv_at hl 2 rfl) ?_
        obtain ⟨hi_5, hf⟩ := rd_s hf
        refine g_iald (n := 4096) (f := r_slots) S hN hw 1 hi_5 dX7_placeOf_22 rfl ?_
        generalize r_slots (v2_3 : Int32).toNatClampNeg = y_6 at hf ⊢
        refine lv_istore (lv' := [(4, .int y_6), (0, .ref a_r), (1, .int p1), (2, .int v2_3), (3, .int v3_4)]) S.1 S.2.1 dX7_placeOf_23 hl (by decide) rfl (fun ls hl => ?_)
        refine lv_iload S.1 S.2.1 dX7_placeOf_25 (lv_at hl 0 rfl) ?_
        refine lv_aload_n S.1 S.2.1 dX7_placeOf_27 rfl (lv_at hl 1 rfl) ?_
        refine g_get S hN hw (C := RX7) (T := TX7) (N := 7) (ci := 7) (v := .int r_amount) 0 6 iX7 k31 dX7_placeOf_28 rfl rfl (by decide) rfl ?_
        refine lv_icmp_ge (tgt := 45) S.1 S.2.1 dX7_placeOf_31 (by decide) (fun h_7 => ?_) (fun h_7 => ?_)
        · replace hf := if_t h_7 hf
          refine lv_iconst (v := (-1)) S.1 S.2.1 dX7_placeOf_45 (by decide) ?_
          cases hf
          exact hE _ _ _ _ hw dX7_placeOf_46
        · replace hf := if_f h_7 hf
          refine lv_aload_n S.1 S.2.1 dX7_placeOf_34 rfl (lv_at hl 1 rfl) ?_
          refine g_get S hN hw (C := RX7) (T := TX7) (N := 7) (ci := 7) (v := .ref a_r_slotOf) 0 1 iX7 k15 dX7_placeOf_35 rfl rfl (by decide) rfl ?_
          refine lv_iload S.1 S.2.1 dX7_placeOf_38 (lv_at hl 0 rfl) ?_
          obtain ⟨hi_7, hf⟩ := rd_s hf
          refine g_iald (n := 2584) (f := r_slotOf) S hN hw 2 hi_7 dX7_placeOf_40 rfl ?_
          generalize r_slotOf (y_6 : Int32).toNatClampNeg = y_8 at hf ⊢
          refine lv_iload_n S.1 S.2.1 dX7_placeOf_41 rfl (lv_at hl 3 rfl) ?_
          refine lv_icmp_eq (tgt := 47) S.1 S.2.1 dX7_placeOf_42 (by decide) (fun h_9 => ?_) (fun h_9 => ?_)
          · replace hf := if_t h_9 hf
            refine lv_aload_n S.1 S.2.1 dX7_placeOf_47 rfl (lv_at hl 1 rfl) ?_
            refine g_get S hN hw (C := RX7) (T := TX7) (N := 7) (ci := 7) (v := .ref a_r_sets) 0 2 iX7 k18 dX7_placeOf_48 rfl rfl (by decide) rfl ?_
            refine lv_iload S.1 S.2.1 dX7_placeOf_51 (lv_at hl 0 rfl) ?_
            obtain ⟨hi_9, hf⟩ := rd_s hf
            refine g_iald (n := 2584) (f := r_sets) S hN hw 3 hi_9 dX7_placeOf_53 rfl ?_
            generalize r_sets (y_6 : Int32).toNatClampNeg = y_10 at hf ⊢
            refine lv_iload_n S.1 S.2.1 dX7_placeOf_54 rfl (lv_at hl 2 rfl) ?_
            refine lv_icmp_ne (tgt := 61) S.1 S.2.1 dX7_placeOf_55 (by decide) (fun h_11 => ?_) (fun h_11 => ?_)
            · replace hf := if_f h_11 hf
              refine lv_iload_n S.1 S.2.1 dX7_placeOf_61 rfl (lv_at hl 3 rfl) ?_
              refine lv_iconst (v := 1) S.1 S.2.1 dX7_placeOf_62 (by decide) ?_
              refine lv_iadd S.1 S.2.1 dX7_placeOf_63 ?_
              refine lv_sipush (v := 4095) S.1 S.2.1 dX7_placeOf_64 (by decide) ?_
              refine lv_iand S.1 S.2.1 dX7_placeOf_67 ?_
              refine lv_istore_n (lv' := [(2, .int ((v2_3 + 1) &&& 4095)), (4, .int y_6), (0, .ref a_r), (1, .int p1), (3, .int v3_4)]) S.1 S.2.1 dX7_placeOf_68 rfl hl (by decide) rfl (fun ls hl => ?_)
              refine lv_iinc (v := (v3_4 + 1)) (lv' := [(3, .int (v3_4 + 1)), (2, .int ((v2_3 + 1) &&& 4095)), (4, .int y_6), (0, .ref a_r), (1, .int p1)]) S.1 S.2.1 dX7_placeOf_69 hl (k := 4) rfl rfl (by decide) rfl (fun ls hl => ?_)
              refine lv_goto (tgt := 10) S.1 S.2.1 dX7_placeOf_72 (by decide) ?_
              exact ih ((v2_3 + 1) &&& 4095) (v3_4 + 1) _ _ _ hw (lv_sub hl [3, 4, 1, 0] rfl) hf
            · replace hf := if_t h_11 hf
              refine lv_iload S.1 S.2.1 dX7_placeOf_58 (lv_at hl 0 rfl) ?_
              cases hf
              exact hE _ _ _ _ hw dX7_placeOf_60
          · replace hf := if_f h_9 hf
            refine lv_iconst (v := (-1)) S.1 S.2.1 dX7_placeOf_45 (by decide) ?_
            cases hf
            exact hE _ _ _ _ hw dX7_placeOf_46
  exact hL_10_11 F x_1 0 _ _ _ hw (lv_sub hl [2, 3, 1, 0] rfl) hf
def f_X0_take (F : Nat) (p1 : Int32) (p2 : Int32) (p3 : Int32) (p4 : Int64) (r_slots : Nat → Int32) (r_slotOf : Nat → Int32) (r_sets : Nat → Int32) (r_amount : Int32) (c_bestGain : Nat → Int32) (c_bestMark : Nat → Int64) : Option ((Nat → Int32) × (Nat → Int64)) :=
  (f_X7_placeOf F p2 r_slots r_slotOf r_sets r_amount).bind (fun r_1 => (if r_1 = (-1) then some (c_bestGain, c_bestMark) else rd 2584 c_bestGain r_1 (fun y_4 => (if y_4 = (-1000000000) then some (c_bestGain, c_bestMark) else rd 2584 c_bestGain r_1 (fun y_6 => rd 2584 c_bestMark r_1 (fun y_7 => rd 2584 c_bestGain p1 (fun y_8 => (jn (wr 2584 c_bestGain p1 (y_6 + p3) (fun c_bestGain_10 => wr 2584 c_bestMark p1 (y_7 + p4) (fun c_bestMark_11 => some (c_bestGain_10, c_bestMark_11)))) (fun jj_86_8 => (if y_8 < (y_6 + p3) then (jj_86_8) else rd 2584 c_bestGain p1 (fun y_13 => (if (y_6 + p3) = y_13 then rd 2584 c_bestMark p1 (fun y_15 => (if (lg_cmp (y_7 + p4) y_15) ≤ 0 then some (c_bestGain, c_bestMark) else (jj_86_8))) else some (c_bestGain, c_bestMark)))))))))))))
set_option maxHeartbeats 4000000 in
set_option maxRecDepth 100000 in
theorem c_X0_take (l : Launch) (E : Ev) (F : Nat) (r_slots : Nat → Int32) (a_r_slots : Nat) (r_slotOf : Nat → Int32) (a_r_slotOf : Nat) (r_sets : Nat → Int32) (a_r_sets : Nat) (a_r_later : Nat) (a_r_laters : Nat) (r_mayLeave : Int32) (r_amount : Int32) (a_r : Nat) (a_c_gain : Nat) (a_c_mark : Nat) (c_bestGain : Nat → Int32) (a_c_bestGain : Nat) (c_bestMark : Nat → Int64) (a_c_bestMark : Nat) (a_c : Nat) (p1 : Int32) (p2 : Int32) (p3 : Int32) (p4 : Int64) (u_c_bestGain : Nat → Int32) (u_c_bestMark : Nat → Int64) (hf : f_X0_take F p1 p2 p3 p4 r_slots r_slotOf r_sets r_amount c_bestGain c_bestMark = some (u_c_bestGain, u_c_bestMark)) :
    CtV l yX0_take wsX0_take (Rm 1) E [.ref a_c, .int p1, .int p2, .int p3, .long p4] [oC a_c 0 [.ref a_r, .ref a_c_gain, .ref a_c_mark, .ref a_c_bestGain, .ref a_c_bestMark], oC a_r 7 [.ref a_r_slots, .ref a_r_slotOf, .ref a_r_sets, .ref a_r_later, .ref a_r_laters, .int r_mayLeave, .int r_amount], aI E a_r_slots 4096 r_slots, aI E a_r_slotOf 2584 r_slotOf, aI E a_r_sets 2584 r_sets, aI E a_c_bestGain 2584 c_bestGain, aJ E a_c_bestMark 2584 c_bestMark] [oC a_c 0 [.ref a_r, .ref a_c_gain, .ref a_c_mark, .ref a_c_bestGain, .ref a_c_bestMark], oC a_r 7 [.ref a_r_slots, .ref a_r_slotOf, .ref a_r_sets, .ref a_r_later, .ref a_r_laters, .int r_mayLeave, .int r_amount], aI E a_r_slots 4096 r_slots, aI E a_r_slotOf 2584 r_slotOf, aI E a_r_sets 2584 r_sets, aI E a_c_bestGain 2584 u_c_bestGain, aJ E a_c_bestMark 2584 u_c_bestMark] := by
  refine ofV (cc := cX0_take) (maxL := 10) (own := RX0) rfl rfl (by decide) rfl rfl ?_
  intro p e s m below meth c A ls Q S hnm hN hw hA hl0 hE
  have hl : lv_has ls 10 [(0, .ref a_c), (1, .int p1), (2, .int p2), (3, .int p3), (4, .long p4)] := hl0 _ (lv_entry [.ref a_c, .int p1, .int p2, .int p3, .long p4] (n := 10) (Nat.le_of_ble_eq_true rfl))
  have iX0 : ∀ w ∈ wsX00, w ∈ wsX0_take := by decide +kernel
  have k12 := S.2.2.2.2 (.fieldLink RX0 12 "PairMatching$Chooser" "rests" "LPairMatching$Rests;") (by decide +kernel)
  have k26 := S.2.2.2.2 (.fieldLink RX0 26 "PairMatching$Chooser" "bestGain" "[I") (by decide +kernel)
  have k29 := S.2.2.2.2 (.fieldLink RX0 29 "PairMatching$Chooser" "bestMark" "[J") (by decide +kernel)
  have k32 := S.2.2.2.2 (.constant RX0 32 (-1000000000)) (by decide +kernel)
  unfold f_X0_take at hf
  refine lv_aload_n S.1 S.2.1 dX0_take_0 rfl (lv_at hl 0 rfl) ?_
  refine g_get S hN hw (C := RX0) (T := TX0) (N := 5) (ci := 0) (v := .ref a_r) 0 0 iX0 k12 dX0_take_1 rfl rfl (by decide) rfl ?_
  refine lv_iload_n S.1 S.2.1 dX0_take_4 rfl (lv_at hl 2 rfl) ?_
  obtain ⟨r_1, hc_1, hf⟩ := bd_s hf
  refine g_calli (r := r_1) (wc := [oC a_r 7 [.ref a_r_slots, .ref a_r_slotOf, .ref a_r_sets, .ref a_r_later, .ref a_r_laters, .int r_mayLeave, .int r_amount], aI E a_r_slots 4096 r_slots, aI E a_r_slotOf 2584 r_slotOf, aI E a_r_sets 2584 r_sets]) (wr := [oC a_c 0 [.ref a_r, .ref a_c_gain, .ref a_c_mark, .ref a_c_bestGain, .ref a_c_bestMark], aI E a_c_bestGain 2584 c_bestGain, aJ E a_c_bestMark 2584 c_bestMark]) (w1 := [oC a_r 7 [.ref a_r_slots, .ref a_r_slotOf, .ref a_r_sets, .ref a_r_later, .ref a_r_laters, .int r_mayLeave, .int r_amount], aI E a_r_slots 4096 r_slots, aI E a_r_slotOf 2584 r_slotOf, aI E a_r_sets 2584 r_sets]) (va_runV (As := [.int p2]) (rest := []) S (c_X7_placeOf l E F r_slots a_r_slots r_slotOf a_r_slotOf r_sets a_r_sets a_r_later a_r_laters r_mayLeave r_amount a_r p2 r_1 hc_1 _) (cwV 1 S.2.2.2.2 gX0_take_X7_placeOf rfl rfl rfl (by decide +kernel) (rm_le (by omega) (by decide))) (preV (q := (RX7, TX7, 7)) hN hw [1, 2, 3, 4] rfl rfl rfl rfl) rfl rfl hl.1 rfl (lv_room (Nat.le_of_ble_eq_true rfl)) dX0_take_5 ⟨Nat.le_refl _, Nat.le_refl _⟩) hw hA [1, 2, 3, 4] [0, 5, 6] rfl rfl rfl (by decide) (fun H locs hw => ?_)
  have hw : Wo E A s [oC a_c 0 [.ref a_r, .ref a_c_gain, .ref a_c_mark, .ref a_c_bestGain, .ref a_c_bestMark], aI E a_c_bestGain 2584 c_bestGain, aJ E a_c_bestMark 2584 c_bestMark, oC a_r 7 [.ref a_r_slots, .ref a_r_slotOf, .ref a_r_sets, .ref a_r_later, .ref a_r_laters, .int r_mayLeave, .int r_amount], aI E a_r_slots 4096 r_slots, aI E a_r_slotOf 2584 r_slotOf, aI E a_r_sets 2584 r_sets] H _ := hw
  refine lv_istore (lv' := [(6, .int r_1), (0, .ref a_c), (1, .int p1), (2, .int p2), (3, .int p3), (4, .long p4)]) S.1 S.2.1 dX0_take_8 hl (by decide) rfl (fun ls hl => ?_)
  refine lv_iload S.1 S.2.1 dX0_take_10 (lv_at hl 0 rfl) ?_
  refine lv_iconst (v := (-1)) S.1 S.2.1 dX0_take_12 (by decide) ?_
  refine lv_icmp_eq (tgt := 28) S.1 S.2.1 dX0_take_13 (by decide) (fun h_3 => ?_) (fun h_3 => ?_)
  · replace hf := if_t h_3 hf
    cases hf
    exact hE _ _ _ _ (hw.sub [0, 3, 4, 5, 6, 1, 2] rfl rfl) dX0_take_28
  · replace hf := if_f h_3 hf
    refine lv_aload_n S.1 S.2.1 dX0_take_16 rfl (lv_at hl 1 rfl) ?_
    refine g_get S hN hw (C := RX0) (T := TX0) (N := 5) (ci := 0) (v := .ref a_c_bestGain) 0 3 iX0 k26 dX0_take_17 rfl rfl (by decide) rfl ?_
    refine lv_iload S.1 S.2.1 dX0_take_20 (lv_at hl 0 rfl) ?_
    obtain ⟨hi_3, hf⟩ := rd_s hf
    refine g_iald (n := 2584) (f := c_bestGain) S hN hw 1 hi_3 dX0_take_22 rfl ?_
    generalize c_bestGain (r_1 : Int32).toNatClampNeg = y_4 at hf ⊢
    refine lv_ldc (v := (-1000000000)) S.1 S.2.1 S.2.2.2.1 k32 dX0_take_23 ?_
    refine lv_icmp_ne (tgt := 29) S.1 S.2.1 dX0_take_25 (by decide) (fun h_5 => ?_) (fun h_5 => ?_)
    · replace hf := if_f h_5 hf
      refine lv_aload_n S.1 S.2.1 dX0_take_29 rfl (lv_at hl 1 rfl) ?_
      refine g_get S hN hw (C := RX0) (T := TX0) (N := 5) (ci := 0) (v := .ref a_c_bestGain) 0 3 iX0 k26 dX0_take_30 rfl rfl (by decide) rfl ?_
      refine lv_iload S.1 S.2.1 dX0_take_33 (lv_at hl 0 rfl) ?_
      obtain ⟨hi_5, hf⟩ := rd_s hf
      refine g_iald (n := 2584) (f := c_bestGain) S hN hw 1 hi_5 dX0_take_35 rfl ?_
      generalize c_bestGain (r_1 : Int32).toNatClampNeg = y_6 at hf ⊢
      refine lv_iload_n S.1 S.2.1 dX0_take_36 rfl (lv_at hl 4 rfl) ?_
      refine lv_iadd S.1 S.2.1 dX0_take_37 ?_
      refine lv_istore (lv' := [(7, .int (y_6 + p3)), (6, .int r_1), (0, .ref a_c), (1, .int p1), (2, .int p2), (3, .int p3), (4, .long p4)]) S.1 S.2.1 dX0_take_38 hl (by decide) rfl (fun ls hl => ?_)
      refine lv_aload_n S.1 S.2.1 dX0_take_40 rfl (lv_at hl 2 rfl) ?_
      refine g_get S hN hw (C := RX0) (T := TX0) (N := 5) (ci := 0) (v := .ref a_c_bestMark) 0 4 iX0 k29 dX0_take_41 rfl rfl (by decide) rfl ?_
      refine lv_iload S.1 S.2.1 dX0_take_44 (lv_at hl 1 rfl) ?_
      obtain ⟨hi_6, hf⟩ := rd_s hf
      refine g_lald (n := 2584) (f := c_bestMark) S hN hw 2 hi_6 dX0_take_46 rfl ?_
      generalize c_bestMark (r_1 : Int32).toNatClampNeg = y_7 at hf ⊢
      refine lv_lload S.1 S.2.1 dX0_take_47 (lv_at hl 6 rfl) ?_
      refine lv_ladd S.1 S.2.1 dX0_take_49 ?_
      refine lv_lstore (lv' := [(8, .long (y_7 + p4)), (7, .int (y_6 + p3)), (6, .int r_1), (0, .ref a_c), (1, .int p1), (2, .int p2), (3, .int p3), (4, .long p4)]) S.1 S.2.1 dX0_take_50 hl (by decide) rfl (fun ls hl => ?_)
      refine lv_iload S.1 S.2.1 dX0_take_52 (lv_at hl 1 rfl) ?_
      refine lv_aload_n S.1 S.2.1 dX0_take_54 rfl (lv_at hl 3 rfl) ?_
      refine g_get S hN hw (C := RX0) (T := TX0) (N := 5) (ci := 0) (v := .ref a_c_bestGain) 0 3 iX0 k26 dX0_take_55 rfl rfl (by decide) rfl ?_
      refine lv_iload_n S.1 S.2.1 dX0_take_58 rfl (lv_at hl 4 rfl) ?_
      obtain ⟨hi_7, hf⟩ := rd_s hf
      refine g_iald (n := 2584) (f := c_bestGain) S hN hw 1 hi_7 dX0_take_59 rfl ?_
      generalize c_bestGain (p1 : Int32).toNatClampNeg = y_8 at hf ⊢
      obtain ⟨jj_86_8, ejj_86_8, hf⟩ := jn_s hf
      have hJ_jj_86_8 : ∀  (H : Heap) (locs : List Loc) (ls : Array Slot), Wo E A s [oC a_c 0 [.ref a_r, .ref a_c_gain, .ref a_c_mark, .ref a_c_bestGain, .ref a_c_bestMark], aI E a_c_bestGain 2584 c_bestGain, aJ E a_c_bestMark 2584 c_bestMark, oC a_r 7 [.ref a_r_slots, .ref a_r_slotOf, .ref a_r_sets, .ref a_r_later, .ref a_r_laters, .int r_mayLeave, .int r_amount], aI E a_r_slots 4096 r_slots, aI E a_r_slotOf 2584 r_slotOf, aI E a_r_sets 2584 r_sets] H locs → lv_has ls 10 [(0, .ref a_c), (1, .int p1), (7, .int (y_6 + p3)), (8, .long (y_7 + p4))] → jj_86_8 = some (u_c_bestGain, u_c_bestMark) → W p l e (Rm 1) s m (([.ref a_c, .int p1, .int p2, .int p3, .long p4] : List Value).toArray) below meth c H locs 0 0 Q (F0 m 86 ls []) := by
        intro H locs ls hw hl hf
        rw [ejj_86_8] at hf
        refine lv_aload_n S.1 S.2.1 dX0_take_86 rfl (lv_at hl 0 rfl) ?_
        refine g_get S hN hw (C := RX0) (T := TX0) (N := 5) (ci := 0) (v := .ref a_c_bestGain) 0 3 iX0 k26 dX0_take_87 rfl rfl (by decide) rfl ?_
        refine lv_iload_n S.1 S.2.1 dX0_take_90 rfl (lv_at hl 1 rfl) ?_
        refine lv_iload S.1 S.2.1 dX0_take_91 (lv_at hl 2 rfl) ?_
        obtain ⟨hi_9, hf⟩ := wr_s hf
        refine g_iast (n := 2584) (f := c_bestGain) (w1 := [oC a_c 0 [.ref a_r, .ref a_c_gain, .ref a_c_mark, .ref a_c_bestGain, .ref a_c_bestMark], aI E a_c_bestGain 2584 (va_up c_bestGain (p1 : Int32).toNatClampNeg (y_6 + p3)), aJ E a_c_bestMark 2584 c_bestMark, oC a_r 7 [.ref a_r_slots, .ref a_r_slotOf, .ref a_r_sets, .ref a_r_later, .ref a_r_laters, .int r_mayLeave, .int r_amount], aI E a_r_slots 4096 r_slots, aI E a_r_slotOf 2584 r_slotOf, aI E a_r_sets 2584 r_sets]) S hN hw 1 hi_9 dX0_take_93 rfl rfl (fun H locs hw => ?_)
        generalize va_up c_bestGain (p1 : Int32).toNatClampNeg (y_6 + p3) = c_bestGain_10 at hf hw
        refine lv_aload_n S.1 S.2.1 dX0_take_94 rfl (lv_at hl 0 rfl) ?_
        refine g_get S hN hw (C := RX0) (T := TX0) (N := 5) (ci := 0) (v := .ref a_c_bestMark) 0 4 iX0 k29 dX0_take_95 rfl rfl (by decide) rfl ?_
        refine lv_iload_n S.1 S.2.1 dX0_take_98 rfl (lv_at hl 1 rfl) ?_
        refine lv_lload S.1 S.2.1 dX0_take_99 (lv_at hl 3 rfl) ?_
        obtain ⟨hi_10, hf⟩ := wr_s hf
        refine g_last (n := 2584) (f := c_bestMark) (w1 := [oC a_c 0 [.ref a_r, .ref a_c_gain, .ref a_c_mark, .ref a_c_bestGain, .ref a_c_bestMark], aI E a_c_bestGain 2584 c_bestGain_10, aJ E a_c_bestMark 2584 (va_up c_bestMark (p1 : Int32).toNatClampNeg (y_7 + p4)), oC a_r 7 [.ref a_r_slots, .ref a_r_slotOf, .ref a_r_sets, .ref a_r_later, .ref a_r_laters, .int r_mayLeave, .int r_amount], aI E a_r_slots 4096 r_slots, aI E a_r_slotOf 2584 r_slotOf, aI E a_r_sets 2584 r_sets]) S hN hw 2 hi_10 dX0_take_101 rfl rfl (fun H locs hw => ?_)
        generalize va_up c_bestMark (p1 : Int32).toNatClampNeg (y_7 + p4) = c_bestMark_11 at hf hw
        cases hf
        exact hE _ _ _ _ (hw.sub [0, 3, 4, 5, 6, 1, 2] rfl rfl) dX0_take_102
      refine lv_icmp_gt (tgt := 86) S.1 S.2.1 dX0_take_60 (by decide) (fun h_12 => ?_) (fun h_12 => ?_)
      · replace hf := if_t h_12 hf
        exact hJ_jj_86_8 _ _ _ hw (lv_sub hl [3, 4, 1, 0] rfl) hf
      · replace hf := if_f h_12 hf
        refine lv_iload S.1 S.2.1 dX0_take_63 (lv_at hl 1 rfl) ?_
        refine lv_aload_n S.1 S.2.1 dX0_take_65 rfl (lv_at hl 3 rfl) ?_
        refine g_get S hN hw (C := RX0) (T := TX0) (N := 5) (ci := 0) (v := .ref a_c_bestGain) 0 3 iX0 k26 dX0_take_66 rfl rfl (by decide) rfl ?_
        refine lv_iload_n S.1 S.2.1 dX0_take_69 rfl (lv_at hl 4 rfl) ?_
        obtain ⟨hi_12, hf⟩ := rd_s hf
        refine g_iald (n := 2584) (f := c_bestGain) S hN hw 1 hi_12 dX0_take_70 rfl ?_
        generalize c_bestGain (p1 : Int32).toNatClampNeg = y_13 at hf ⊢
        refine lv_icmp_ne (tgt := 102) S.1 S.2.1 dX0_take_71 (by decide) (fun h_14 => ?_) (fun h_14 => ?_)
        · replace hf := if_f h_14 hf
          cases hf
          exact hE _ _ _ _ (hw.sub [0, 3, 4, 5, 6, 1, 2] rfl rfl) dX0_take_102
        · replace hf := if_t h_14 hf
          refine lv_lload S.1 S.2.1 dX0_take_74 (lv_at hl 0 rfl) ?_
          refine lv_aload_n S.1 S.2.1 dX0_take_76 rfl (lv_at hl 3 rfl) ?_
          refine g_get S hN hw (C := RX0) (T := TX0) (N := 5) (ci := 0) (v := .ref a_c_bestMark) 0 4 iX0 k29 dX0_take_77 rfl rfl (by decide) rfl ?_
          refine lv_iload_n S.1 S.2.1 dX0_take_80 rfl (lv_at hl 4 rfl) ?_
          obtain ⟨hi_14, hf⟩ := rd_s hf
          refine g_lald (n := 2584) (f := c_bestMark) S hN hw 2 hi_14 dX0_take_81 rfl ?_
          generalize c_bestMark (p1 : Int32).toNatClampNeg = y_15 at hf ⊢
          refine W.lcmp S.1 S.2.1 dX0_take_82 ?_
          refine lv_if_le (tgt := 102) S.1 S.2.1 dX0_take_83 (by decide) (fun h_16 => ?_) (fun h_16 => ?_)
          · replace hf := if_t h_16 hf
            cases hf
            exact hE _ _ _ _ (hw.sub [0, 3, 4, 5, 6, 1, 2] rfl rfl) dX0_take_102
          · replace hf := if_f h_16 hf
            exact hJ_jj_86_8 _ _ _ hw (lv_sub hl [3, 4, 1, 0] rfl) hf
    · replace hf := if_t h_5 hf
      cases hf
      exact hE _ _ _ _ (hw.sub [0, 3, 4, 5, 6, 1, 2] rfl rfl) dX0_take_28
def f_X11_has (p1 : Int32) (p2 : Int32) : Int32 :=
  (if ((p1 >>> (p2 &&& 31)) &&& 1) = 0 then 0 else 1)
set_option maxHeartbeats 4000000 in
set_option maxRecDepth 100000 in
theorem c_X11_has (l : Launch) (E : Ev) (p1 : Int32) (p2 : Int32) (ro : Int32) (hf : f_X11_has p1 p2 = ro) :
    CtI l yX11_has wsX11_has (Rm 0) E [.int p1, .int p2] [] ro [] := by
  refine ofZ (cc := cX11_has) (maxL := 2) (own := RX11) rfl rfl (by decide) rfl rfl ?_
  intro p e s m below meth c A ls Q S hnm hN hw hA hl0 hE
  have hl : lv_has ls 2 [(0, .int p1), (1, .int p2)] := hl0 _ (lv_entry [.int p1, .int p2] (n := 2) (Nat.le_of_ble_eq_true rfl))
  unfold f_X11_has at hf
  refine lv_iload_n S.1 S.2.1 dX11_has_0 rfl (lv_at hl 0 rfl) ?_
  refine lv_iload_n S.1 S.2.1 dX11_has_1 rfl (lv_at hl 1 rfl) ?_
  refine lv_ishr S.1 S.2.1 dX11_has_2 ?_
  refine lv_iconst (v := 1) S.1 S.2.1 dX11_has_3 (by decide) ?_
  refine lv_iand S.1 S.2.1 dX11_has_4 ?_
  refine lv_if_eq (tgt := 12) S.1 S.2.1 dX11_has_5 (by decide) (fun h_1 => ?_) (fun h_1 => ?_)
  · replace hf := if_t h_1 hf
    refine lv_iconst (v := 0) S.1 S.2.1 dX11_has_12 (by decide) ?_
    cases hf
    exact hE _ _ _ _ hw dX11_has_13 (by decide)
  · replace hf := if_f h_1 hf
    refine lv_iconst (v := 1) S.1 S.2.1 dX11_has_8 (by decide) ?_
    refine lv_goto (tgt := 13) S.1 S.2.1 dX11_has_9 (by decide) ?_
    cases hf
    exact hE _ _ _ _ hw dX11_has_13 (by decide)
def f_X0_firstOutOf_L5 (c_mark : Nat → Int64) (p1 : Int32) (p2 : Int32) (kk_43_1 : Int64 → Option (Int64)) : Nat → Int64 → Int32 → Option (Int64)
  | 0, _, _ => none
  | n + 1, v3_3, v5_4 => (if 16 ≤ v5_4 then (kk_43_1 v3_3) else (if (f_X11_has p1 v5_4) = 0 then rd 256 c_mark (f_X11_cell p2 v5_4) (fun y_11 => (f_X0_firstOutOf_L5 c_mark p1 p2 kk_43_1 n (if y_11 < v3_3 then v3_3 else y_11) (v5_4 + 1))) else (f_X0_firstOutOf_L5 c_mark p1 p2 kk_43_1 n v3_3 (v5_4 + 1))))
def f_X0_firstOutOf (F : Nat) (p1 : Int32) (p2 : Int32) (c_mark : Nat → Int64) : Option (Int64) :=
  (jn (fun (v3_1 : Int64) => some v3_1) (fun kk_43_1 => (f_X0_firstOutOf_L5 c_mark p1 p2 kk_43_1 F (0 : Int64) 0)))
set_option maxHeartbeats 4000000 in
set_option maxRecDepth 100000 in
theorem c_X0_firstOutOf (l : Launch) (E : Ev) (F : Nat) (a_r : Nat) (a_c_gain : Nat) (c_mark : Nat → Int64) (a_c_mark : Nat) (a_c_bestGain : Nat) (a_c_bestMark : Nat) (a_c : Nat) (p1 : Int32) (p2 : Int32) (ro : Int64) (hf : f_X0_firstOutOf F p1 p2 c_mark = some ro) :
    CtL l yX0_firstOutOf wsX0_firstOutOf (Rm 1) E [.ref a_c, .int p1, .int p2] [oC a_c 0 [.ref a_r, .ref a_c_gain, .ref a_c_mark, .ref a_c_bestGain, .ref a_c_bestMark], aJ E a_c_mark 256 c_mark] ro [oC a_c 0 [.ref a_r, .ref a_c_gain, .ref a_c_mark, .ref a_c_bestGain, .ref a_c_bestMark], aJ E a_c_mark 256 c_mark] := by
  refine ofL (cc := cX0_firstOutOf) (maxL := 6) (own := RX0) rfl rfl (by decide) rfl rfl ?_
  intro p e s m below meth c A ls Q S hnm hN hw hA hl0 hE
  have hl : lv_has ls 6 [(0, .ref a_c), (1, .int p1), (2, .int p2)] := hl0 _ (lv_entry [.ref a_c, .int p1, .int p2] (n := 6) (Nat.le_of_ble_eq_true rfl))
  have iX0 : ∀ w ∈ wsX00, w ∈ wsX0_firstOutOf := by decide +kernel
  have k22 := S.2.2.2.2 (.fieldLink RX0 22 "PairMatching$Chooser" "mark" "[J") (by decide +kernel)
  have k82 := S.2.2.2.2 (.methodLink RX0 82 Lib.MathLoose.max_long.x) (by decide +kernel)
  have kIX11 := S.2.2.2.2 (.initialized RX11) (by decide +kernel)
  have kSX11_cell := S.2.2.2.2 (.static yX11_cell) (by decide +kernel)
  have kSX11_has := S.2.2.2.2 (.static yX11_has) (by decide +kernel)
  have kmx1 := S.2.2.2.2 (.static Lib.MathLoose.max_long.x) (by decide +kernel)
  have kmx2 := S.2.2.2.2 (.initialized "java/lang/Math") (by decide +kernel)
  have kmx3 := S.2.2.2.2 (.code Lib.MathLoose.max_long.x Lib.MathLoose.max_long.code 4 (some .long)) (by decide +kernel)
  have w42 : Cond.methodLinkNest RX0 42 yX11_cell "PairMatching" ∈ nestW := List.mem_of_getElem? (i := 63) rfl
  have w78 : Cond.methodLinkNest RX0 78 yX11_has "PairMatching" ∈ nestW := List.mem_of_getElem? (i := 65) rfl
  unfold f_X0_firstOutOf at hf
  refine lv_lconst (v := 0) S.1 S.2.1 dX0_firstOutOf_0 (by decide) ?_
  refine lv_lstore_n (lv' := [(3, .long (0 : Int64)), (0, .ref a_c), (1, .int p1), (2, .int p2)]) S.1 S.2.1 dX0_firstOutOf_1 rfl hl (by decide) rfl (fun ls hl => ?_)
  refine lv_iconst (v := 0) S.1 S.2.1 dX0_firstOutOf_2 (by decide) ?_
  refine lv_istore (lv' := [(5, .int 0), (3, .long (0 : Int64)), (0, .ref a_c), (1, .int p1), (2, .int p2)]) S.1 S.2.1 dX0_firstOutOf_3 hl (by decide) rfl (fun ls hl => ?_)
  obtain ⟨kk_43_1, ekk_43_1, hf⟩ := jn_s hf
  have hJ_kk_43_1 : ∀ (v3_1 : Int64) (H : Heap) (locs : List Loc) (ls : Array Slot), Wo E A s [oC a_c 0 [.ref a_r, .ref a_c_gain, .ref a_c_mark, .ref a_c_bestGain, .ref a_c_bestMark], aJ E a_c_mark 256 c_mark] H locs → lv_has ls 6 [(3, .long v3_1)] → kk_43_1 v3_1 = some ro → W p l e (Rm 1) s m (([.ref a_c, .int p1, .int p2] : List Value).toArray) below meth c H locs 0 0 Q (F0 m 43 ls []) := by
    intro v3_1 H locs ls hw hl hf
    rw [ekk_43_1] at hf
    refine lv_lload_n S.1 S.2.1 dX0_firstOutOf_43 rfl (lv_at hl 0 rfl) ?_
    cases hf
    exact hE _ _ _ _ hw dX0_firstOutOf_44
  have hL_5_11 : ∀ (n : Nat) (v3_3 : Int64) (v5_4 : Int32) (H : Heap) (locs : List Loc) (ls : Array Slot), Wo E A s [oC a_c 0 [.ref a_r, .ref a_c_gain, .ref a_c_mark, .ref a_c_bestGain, .ref a_c_bestMark], aJ E a_c_mark 256 c_mark] H locs → lv_has ls 6 [(0, .ref a_c), (1, .int p1), (2, .int p2), (3, .long v3_3), (5, .int v5_4)] → f_X0_firstOutOf_L5 c_mark p1 p2 kk_43_1 n v3_3 v5_4 = some ro → W p l e (Rm 1) s m (([.ref a_c, .int p1, .int p2] : List Value).toArray) below meth c H locs 0 0 Q (F0 m 5 ls []) := by
    intro n
    induction n with
    | zero => intro v3_3 v5_4 H locs ls hw hl hf; unfold f_X0_firstOutOf_L5 at hf; cases hf
    | succ n ih =>
      intro v3_3 v5_4 H locs ls hw hl hf
      unfold f_X0_firstOutOf_L5 at hf
      refine lv_iload S.1 S.2.1 dX0_firstOutOf_5 (lv_at hl 4 rfl) ?_
      refine lv_bipush (v := 16) S.1 S.2.1 dX0_firstOutOf_7 (by decide) ?_
      refine lv_icmp_ge (tgt := 43) S.1 S.2.1 dX0_firstOutOf_9 (by decide) (fun h_5 => ?_) (fun h_5 => ?_)
      · replace hf := if_t h_5 hf
        exact hJ_kk_43_1 v3_3 _ _ _ hw (lv_sub hl [3] rfl) hf
      · replace hf := if_f h_5 hf
        refine lv_iload_n S.1 S.2.1 dX0_firstOutOf_12 rfl (lv_at hl 1 rfl) ?_
        refine lv_iload S.1 S.2.1 dX0_firstOutOf_13 (lv_at hl 4 rfl) ?_
        refine g_calli (r := (f_X11_has p1 v5_4)) (wc := []) (wr := [oC a_c 0 [.ref a_r, .ref a_c_gain, .ref a_c_mark, .ref a_c_bestGain, .ref a_c_bestMark], aJ E a_c_mark 256 c_mark]) (w1 := []) (va_runSN (As := [.int p1, .int v5_4]) (rest := []) S (c_X11_has l E p1 v5_4 (f_X11_has p1 v5_4) rfl _) ⟨(va_cnB 2 S.2.2.2.2 gX0_firstOutOf_X11_has_n78 rfl rfl rfl (hN.2 _ w78) kIX11 (by decide +kernel) (rm_le (by omega) (by decide))), kSX11_has, trivial⟩ (preS hN hw [] rfl rfl) rfl rfl hl.1 rfl (lv_room (Nat.le_of_ble_eq_true rfl)) dX0_firstOutOf_15 ⟨Nat.le_refl _, Nat.le_refl _⟩) hw hA [] [0, 1] rfl rfl rfl (by decide) (fun H locs hw => ?_)
        have hw : Wo E A s [oC a_c 0 [.ref a_r, .ref a_c_gain, .ref a_c_mark, .ref a_c_bestGain, .ref a_c_bestMark], aJ E a_c_mark 256 c_mark] H _ := hw
        refine lv_if_ne (tgt := 37) S.1 S.2.1 dX0_firstOutOf_18 (by decide) (fun h_8 => ?_) (fun h_8 => ?_)
        · replace hf := if_f h_8 hf
          refine lv_iinc (v := (v5_4 + 1)) (lv' := [(5, .int (v5_4 + 1)), (0, .ref a_c), (1, .int p1), (2, .int p2), (3, .long v3_3)]) S.1 S.2.1 dX0_firstOutOf_37 hl (k := 4) rfl rfl (by decide) rfl (fun ls hl => ?_)
          refine lv_goto (tgt := 5) S.1 S.2.1 dX0_firstOutOf_40 (by decide) ?_
          exact ih v3_3 (v5_4 + 1) _ _ _ hw (lv_sub hl [1, 2, 3, 4, 0] rfl) hf
        · replace hf := if_t h_8 hf
          refine lv_lload_n S.1 S.2.1 dX0_firstOutOf_21 rfl (lv_at hl 3 rfl) ?_
          refine lv_aload_n S.1 S.2.1 dX0_firstOutOf_22 rfl (lv_at hl 0 rfl) ?_
          refine g_get S hN hw (C := RX0) (T := TX0) (N := 5) (ci := 0) (v := .ref a_c_mark) 0 2 iX0 k22 dX0_firstOutOf_23 rfl rfl (by decide) rfl ?_
          refine lv_iload_n S.1 S.2.1 dX0_firstOutOf_26 rfl (lv_at hl 2 rfl) ?_
          refine lv_iload S.1 S.2.1 dX0_firstOutOf_27 (lv_at hl 4 rfl) ?_
          refine g_calli (r := (f_X11_cell p2 v5_4)) (wc := []) (wr := [oC a_c 0 [.ref a_r, .ref a_c_gain, .ref a_c_mark, .ref a_c_bestGain, .ref a_c_bestMark], aJ E a_c_mark 256 c_mark]) (w1 := []) (va_runSN (As := [.int p2, .int v5_4]) (rest := [.ref a_c_mark, .long v3_3]) S (c_X11_cell l E p2 v5_4 (f_X11_cell p2 v5_4) rfl _) ⟨(va_cnB 2 S.2.2.2.2 gX0_firstOutOf_X11_cell_n42 rfl rfl rfl (hN.2 _ w42) kIX11 (by decide +kernel) (rm_le (by omega) (by decide))), kSX11_cell, trivial⟩ (preS hN hw [] rfl rfl) rfl rfl hl.1 rfl (lv_room (Nat.le_of_ble_eq_true rfl)) dX0_firstOutOf_29 ⟨Nat.le_refl _, Nat.le_refl _⟩) hw hA [] [0, 1] rfl rfl rfl (by decide) (fun H locs hw => ?_)
          have hw : Wo E A s [oC a_c 0 [.ref a_r, .ref a_c_gain, .ref a_c_mark, .ref a_c_bestGain, .ref a_c_bestMark], aJ E a_c_mark 256 c_mark] H _ := hw
          obtain ⟨hi_10, hf⟩ := rd_s hf
          refine g_lald (n := 256) (f := c_mark) S hN hw 1 hi_10 dX0_firstOutOf_32 rfl ?_
          generalize c_mark ((f_X11_cell p2 v5_4) : Int32).toNatClampNeg = y_11 at hf ⊢
          refine va_mmax_long S.1 S.2.1 (S.2.2.1.trans hl.1.symm) S.2.2.2.1 k82 kmx1 kmx2 kmx3 (rm_f (by omega)) (rm_l (Nat.le_trans (Nat.le_of_ble_eq_true rfl : _ ≤ 40) (by omega))) (Nat.le_refl _) (Nat.le_refl _) dX0_firstOutOf_33 ?_
          refine lv_lstore_n (lv' := [(3, .long (if y_11 < v3_3 then v3_3 else y_11)), (0, .ref a_c), (1, .int p1), (2, .int p2), (5, .int v5_4)]) S.1 S.2.1 dX0_firstOutOf_36 rfl hl (by decide) rfl (fun ls hl => ?_)
          refine lv_iinc (v := (v5_4 + 1)) (lv' := [(5, .int (v5_4 + 1)), (3, .long (if y_11 < v3_3 then v3_3 else y_11)), (0, .ref a_c), (1, .int p1), (2, .int p2)]) S.1 S.2.1 dX0_firstOutOf_37 hl (k := 4) rfl rfl (by decide) rfl (fun ls hl => ?_)
          refine lv_goto (tgt := 5) S.1 S.2.1 dX0_firstOutOf_40 (by decide) ?_
          exact ih (if y_11 < v3_3 then v3_3 else y_11) (v5_4 + 1) _ _ _ hw (lv_sub hl [2, 3, 4, 1, 0] rfl) hf
  exact hL_5_11 F (0 : Int64) 0 _ _ _ hw (lv_sub hl [2, 3, 4, 1, 0] rfl) hf
def f_X0_gainOf (p1 : Int32) (p2 : Int32) : Int32 :=
  (if p1 = 0 then 1 else (if p1 = 1 then ((p2 * 16) - 1) else (if p1 = 2 then (-p2) else (if p1 = 3 then p2 else (-1)))))
set_option maxHeartbeats 4000000 in
set_option maxRecDepth 100000 in
theorem c_X0_gainOf (l : Launch) (E : Ev) (p1 : Int32) (p2 : Int32) (ro : Int32) (hf : f_X0_gainOf p1 p2 = ro) :
    CtI l yX0_gainOf wsX0_gainOf (Rm 0) E [.int p1, .int p2] [] ro [] := by
  refine ofI (cc := cX0_gainOf) (maxL := 2) (own := RX0) rfl rfl (by decide) rfl rfl ?_
  intro p e s m below meth c A ls Q S hnm hN hw hA hl0 hE
  have hl : lv_has ls 2 [(0, .int p1), (1, .int p2)] := hl0 _ (lv_entry [.int p1, .int p2] (n := 2) (Nat.le_of_ble_eq_true rfl))
  unfold f_X0_gainOf at hf
  refine lv_iload_n S.1 S.2.1 dX0_gainOf_0 rfl (lv_at hl 0 rfl) ?_
  by_cases h_1 : p1 = 0
  · replace hf := if_t h_1 hf
    refine lv_tableIn (tgt := 32) S.1 S.2.1 dX0_gainOf_1 (by rw [h_1]; decide) (by rw [h_1]; decide) (by rw [h_1]; rfl) (by decide) ?_
    refine lv_iconst (v := 1) S.1 S.2.1 dX0_gainOf_32 (by decide) ?_
    cases hf
    exact hE _ _ _ _ hw dX0_gainOf_33
  · replace hf := if_f h_1 hf
    by_cases h_2 : p1 = 1
    · replace hf := if_t h_2 hf
      refine lv_tableIn (tgt := 34) S.1 S.2.1 dX0_gainOf_1 (by rw [h_2]; decide) (by rw [h_2]; decide) (by rw [h_2]; rfl) (by decide) ?_
      refine lv_iload_n S.1 S.2.1 dX0_gainOf_34 rfl (lv_at hl 1 rfl) ?_
      refine lv_bipush (v := 16) S.1 S.2.1 dX0_gainOf_35 (by decide) ?_
      refine lv_imul S.1 S.2.1 dX0_gainOf_37 ?_
      refine lv_iconst (v := 1) S.1 S.2.1 dX0_gainOf_38 (by decide) ?_
      refine lv_isub S.1 S.2.1 dX0_gainOf_39 ?_
      cases hf
      exact hE _ _ _ _ hw dX0_gainOf_40
    · replace hf := if_f h_2 hf
      by_cases h_3 : p1 = 2
      · replace hf := if_t h_3 hf
        refine lv_tableIn (tgt := 41) S.1 S.2.1 dX0_gainOf_1 (by rw [h_3]; decide) (by rw [h_3]; decide) (by rw [h_3]; rfl) (by decide) ?_
        refine lv_iload_n S.1 S.2.1 dX0_gainOf_41 rfl (lv_at hl 1 rfl) ?_
        refine lv_ineg S.1 S.2.1 dX0_gainOf_42 ?_
        cases hf
        exact hE _ _ _ _ hw dX0_gainOf_43
      · replace hf := if_f h_3 hf
        by_cases h_4 : p1 = 3
        · replace hf := if_t h_4 hf
          refine lv_tableIn (tgt := 44) S.1 S.2.1 dX0_gainOf_1 (by rw [h_4]; decide) (by rw [h_4]; decide) (by rw [h_4]; rfl) (by decide) ?_
          refine lv_iload_n S.1 S.2.1 dX0_gainOf_44 rfl (lv_at hl 1 rfl) ?_
          cases hf
          exact hE _ _ _ _ hw dX0_gainOf_45
        · replace hf := if_f h_4 hf
          refine lv_tableOut (tgt := 46) S.1 S.2.1 dX0_gainOf_1 (sw_out4 h_1 h_2 h_3 h_4) (by decide) ?_
          refine lv_iconst (v := (-1)) S.1 S.2.1 dX0_gainOf_46 (by decide) ?_
          cases hf
          exact hE _ _ _ _ hw dX0_gainOf_47
def f_X0_chooseFor_L67 (F : Nat) (r_slots : Nat → Int32) (r_slotOf : Nat → Int32) (r_sets : Nat → Int32) (r_later : Nat → Int32) (r_laters : Nat → Int32) (r_amount : Int32) (c_gain : Nat → Int32) (c_mark : Nat → Int64) (p1 : Int32) (p2 : Int32) (kk_153_7 : (Nat → Int32) → (Nat → Int64) → Option ((Nat → Int32) × (Nat → Int64))) : Nat → Int32 → (Nat → Int32) → (Nat → Int64) → Option ((Nat → Int32) × (Nat → Int64))
  | 0, _, _, _ => none
  | n + 1, v6_9, c_bestGain_10, c_bestMark_11 => rd 16 r_laters (f_X11_leastNode p2) (fun y_12 => (if y_12 ≤ v6_9 then (kk_153_7 c_bestGain_10 c_bestMark_11) else rd 256 r_later (f_X11_cell (f_X11_leastNode p2) v6_9) (fun y_16 => (if (f_X11_has (p2 &&& (p2 - 1)) y_16) = 0 then (f_X0_chooseFor_L67 F r_slots r_slotOf r_sets r_later r_laters r_amount c_gain c_mark p1 p2 kk_153_7 n (v6_9 + 1) c_bestGain_10 c_bestMark_11) else rd 256 c_gain (f_X11_cell (f_X11_leastNode p2) y_16) (fun y_22 => rd 256 c_mark (f_X11_cell (f_X11_leastNode p2) y_16) (fun y_25 => bd2 (f_X0_take F p1 ((p2 &&& (p2 - 1)) &&& (((1 : Int32) <<< (y_16 &&& 31)) ^^^ (-1))) y_22 y_25 r_slots r_slotOf r_sets r_amount c_bestGain_10 c_bestMark_11) (fun c_bestGain_26 c_bestMark_27 => (f_X0_chooseFor_L67 F r_slots r_slotOf r_sets r_later r_laters r_amount c_gain c_mark p1 p2 kk_153_7 n (v6_9 + 1) c_bestGain_26 c_bestMark_27))))))))
def f_X0_chooseFor (F : Nat) (p1 : Int32) (p2 : Int32) (p3 : Int32) (r_slots : Nat → Int32) (r_slotOf : Nat → Int32) (r_sets : Nat → Int32) (r_later : Nat → Int32) (r_laters : Nat → Int32) (r_amount : Int32) (c_gain : Nat → Int32) (c_mark : Nat → Int64) (c_bestGain : Nat → Int32) (c_bestMark : Nat → Int64) : Option ((Nat → Int32) × (Nat → Int64)) :=
  (jn (fun (c_bestGain_3 : Nat → Int32) (c_bestMark_4 : Nat → Int64) => (jn (fun (c_bestGain_6 : Nat → Int32) (c_bestMark_7 : Nat → Int64) => some (c_bestGain_6, c_bestMark_7)) (fun kk_153_7 => (f_X0_chooseFor_L67 F r_slots r_slotOf r_sets r_later r_laters r_amount c_gain c_mark p1 p2 kk_153_7 F 0 c_bestGain_3 c_bestMark_4)))) (fun jj_64_4 => (if p3 = 0 then bd2 (f_X0_take F p1 (p2 &&& (p2 - 1)) 0 (0 : Int64) r_slots r_slotOf r_sets r_amount c_bestGain c_bestMark) (fun c_bestGain_40 c_bestMark_41 => (jj_64_4 c_bestGain_40 c_bestMark_41)) else (if p3 = 2 then (f_X0_firstOutOf F p2 (f_X11_leastNode p2) c_mark).bind (fun r_32 => (if (lg_cmp r_32 (0 : Int64)) = 0 then (jj_64_4 c_bestGain c_bestMark) else bd2 (f_X0_take F p1 (p2 &&& (p2 - 1)) (f_X0_gainOf 4 0) r_32 r_slots r_slotOf r_sets r_amount c_bestGain c_bestMark) (fun c_bestGain_37 c_bestMark_38 => (jj_64_4 c_bestGain_37 c_bestMark_38)))) else (jj_64_4 c_bestGain c_bestMark)))))
set_option maxHeartbeats 4000000 in
set_option maxRecDepth 100000 in
theorem c_X0_chooseFor (l : Launch) (E : Ev) (F : Nat) (r_slots : Nat → Int32) (a_r_slots : Nat) (r_slotOf : Nat → Int32) (a_r_slotOf : Nat) (r_sets : Nat → Int32) (a_r_sets : Nat) (r_later : Nat → Int32) (a_r_later : Nat) (r_laters : Nat → Int32) (a_r_laters : Nat) (r_mayLeave : Int32) (r_amount : Int32) (a_r : Nat) (c_gain : Nat → Int32) (a_c_gain : Nat) (c_mark : Nat → Int64) (a_c_mark : Nat) (c_bestGain : Nat → Int32) (a_c_bestGain : Nat) (c_bestMark : Nat → Int64) (a_c_bestMark : Nat) (a_c : Nat) (p1 : Int32) (p2 : Int32) (p3 : Int32) (u_c_bestGain : Nat → Int32) (u_c_bestMark : Nat → Int64) (hf : f_X0_chooseFor F p1 p2 p3 r_slots r_slotOf r_sets r_later r_laters r_amount c_gain c_mark c_bestGain c_bestMark = some (u_c_bestGain, u_c_bestMark)) :
    CtV l yX0_chooseFor wsX0_chooseFor (Rm 2) E [.ref a_c, .int p1, .int p2, .int p3] [oC a_c 0 [.ref a_r, .ref a_c_gain, .ref a_c_mark, .ref a_c_bestGain, .ref a_c_bestMark], oC a_r 7 [.ref a_r_slots, .ref a_r_slotOf, .ref a_r_sets, .ref a_r_later, .ref a_r_laters, .int r_mayLeave, .int r_amount], aI E a_r_slots 4096 r_slots, aI E a_r_slotOf 2584 r_slotOf, aI E a_r_sets 2584 r_sets, aI E a_r_later 256 r_later, aI E a_r_laters 16 r_laters, aI E a_c_gain 256 c_gain, aJ E a_c_mark 256 c_mark, aI E a_c_bestGain 2584 c_bestGain, aJ E a_c_bestMark 2584 c_bestMark] [oC a_c 0 [.ref a_r, .ref a_c_gain, .ref a_c_mark, .ref a_c_bestGain, .ref a_c_bestMark], oC a_r 7 [.ref a_r_slots, .ref a_r_slotOf, .ref a_r_sets, .ref a_r_later, .ref a_r_laters, .int r_mayLeave, .int r_amount], aI E a_r_slots 4096 r_slots, aI E a_r_slotOf 2584 r_slotOf, aI E a_r_sets 2584 r_sets, aI E a_r_later 256 r_later, aI E a_r_laters 16 r_laters, aI E a_c_gain 256 c_gain, aJ E a_c_mark 256 c_mark, aI E a_c_bestGain 2584 u_c_bestGain, aJ E a_c_bestMark 2584 u_c_bestMark] := by
  refine ofV (cc := cX0_chooseFor) (maxL := 8) (own := RX0) rfl rfl (by decide) rfl rfl ?_
  intro p e s m below meth c A ls Q S hnm hN hw hA hl0 hE
  have hl : lv_has ls 8 [(0, .ref a_c), (1, .int p1), (2, .int p2), (3, .int p3)] := hl0 _ (lv_entry [.ref a_c, .int p1, .int p2, .int p3] (n := 8) (Nat.le_of_ble_eq_true rfl))
  have iX0 : ∀ w ∈ wsX00, w ∈ wsX0_chooseFor := by decide +kernel
  have iX7 : ∀ w ∈ wsX70, w ∈ wsX0_chooseFor := by decide +kernel
  have k12 := S.2.2.2.2 (.fieldLink RX0 12 "PairMatching$Chooser" "rests" "LPairMatching$Rests;") (by decide +kernel)
  have k18 := S.2.2.2.2 (.fieldLink RX0 18 "PairMatching$Chooser" "gain" "[I") (by decide +kernel)
  have k22 := S.2.2.2.2 (.fieldLink RX0 22 "PairMatching$Chooser" "mark" "[J") (by decide +kernel)
  have kIX11 := S.2.2.2.2 (.initialized RX11) (by decide +kernel)
  have kSX11_cell := S.2.2.2.2 (.static yX11_cell) (by decide +kernel)
  have kSX11_has := S.2.2.2.2 (.static yX11_has) (by decide +kernel)
  have kSX11_leastNode := S.2.2.2.2 (.static yX11_leastNode) (by decide +kernel)
  have w42 : Cond.methodLinkNest RX0 42 yX11_cell "PairMatching" ∈ nestW := List.mem_of_getElem? (i := 63) rfl
  have w57 : Cond.methodLinkNest RX0 57 yX11_leastNode "PairMatching" ∈ nestW := List.mem_of_getElem? (i := 64) rfl
  have w72 : Cond.fieldLinkNest RX0 72 "PairMatching$Rests" "laters" "[I" "PairMatching" ∈ nestW := List.mem_of_getElem? (i := 49) rfl
  have w75 : Cond.fieldLinkNest RX0 75 "PairMatching$Rests" "later" "[I" "PairMatching" ∈ nestW := List.mem_of_getElem? (i := 46) rfl
  have w78 : Cond.methodLinkNest RX0 78 yX11_has "PairMatching" ∈ nestW := List.mem_of_getElem? (i := 65) rfl
  unfold f_X0_chooseFor at hf
  refine lv_iload_n S.1 S.2.1 dX0_chooseFor_0 rfl (lv_at hl 2 rfl) ?_
  refine g_calli (r := (f_X11_leastNode p2)) (wc := []) (wr := [oC a_c 0 [.ref a_r, .ref a_c_gain, .ref a_c_mark, .ref a_c_bestGain, .ref a_c_bestMark], oC a_r 7 [.ref a_r_slots, .ref a_r_slotOf, .ref a_r_sets, .ref a_r_later, .ref a_r_laters, .int r_mayLeave, .int r_amount], aI E a_r_slots 4096 r_slots, aI E a_r_slotOf 2584 r_slotOf, aI E a_r_sets 2584 r_sets, aI E a_r_later 256 r_later, aI E a_r_laters 16 r_laters, aI E a_c_gain 256 c_gain, aJ E a_c_mark 256 c_mark, aI E a_c_bestGain 2584 c_bestGain, aJ E a_c_bestMark 2584 c_bestMark]) (w1 := []) (va_runSN (As := [.int p2]) (rest := []) S (c_X11_leastNode l E p2 (f_X11_leastNode p2) rfl _) ⟨(va_cnB 1 S.2.2.2.2 gX0_chooseFor_X11_leastNode_n57 rfl rfl rfl (hN.2 _ w57) kIX11 (by decide +kernel) (rm_le (by omega) (by decide))), kSX11_leastNode, trivial⟩ (preS hN hw [] rfl rfl) rfl rfl hl.1 rfl (lv_room (Nat.le_of_ble_eq_true rfl)) dX0_chooseFor_1 ⟨Nat.le_refl _, Nat.le_refl _⟩) hw hA [] [0, 1, 2, 3, 4, 5, 6, 7, 8, 9, 10] rfl rfl rfl (by decide) (fun H locs hw => ?_)
  have hw : Wo E A s [oC a_c 0 [.ref a_r, .ref a_c_gain, .ref a_c_mark, .ref a_c_bestGain, .ref a_c_bestMark], oC a_r 7 [.ref a_r_slots, .ref a_r_slotOf, .ref a_r_sets, .ref a_r_later, .ref a_r_laters, .int r_mayLeave, .int r_amount], aI E a_r_slots 4096 r_slots, aI E a_r_slotOf 2584 r_slotOf, aI E a_r_sets 2584 r_sets, aI E a_r_later 256 r_later, aI E a_r_laters 16 r_laters, aI E a_c_gain 256 c_gain, aJ E a_c_mark 256 c_mark, aI E a_c_bestGain 2584 c_bestGain, aJ E a_c_bestMark 2584 c_bestMark] H _ := hw
  refine lv_istore (lv' := [(4, .int (f_X11_leastNode p2)), (0, .ref a_c), (1, .int p1), (2, .int p2), (3, .int p3)]) S.1 S.2.1 dX0_chooseFor_4 hl (by decide) rfl (fun ls hl => ?_)
  refine lv_iload_n S.1 S.2.1 dX0_chooseFor_6 rfl (lv_at hl 3 rfl) ?_
  refine lv_iload_n S.1 S.2.1 dX0_chooseFor_7 rfl (lv_at hl 3 rfl) ?_
  refine lv_iconst (v := 1) S.1 S.2.1 dX0_chooseFor_8 (by decide) ?_
  refine lv_isub S.1 S.2.1 dX0_chooseFor_9 ?_
  refine lv_iand S.1 S.2.1 dX0_chooseFor_10 ?_
  refine lv_istore (lv' := [(5, .int (p2 &&& (p2 - 1))), (4, .int (f_X11_leastNode p2)), (0, .ref a_c), (1, .int p1), (2, .int p2), (3, .int p3)]) S.1 S.2.1 dX0_chooseFor_11 hl (by decide) rfl (fun ls hl => ?_)
  refine lv_iload_n S.1 S.2.1 dX0_chooseFor_13 rfl (lv_at hl 5 rfl) ?_
  obtain ⟨jj_64_4, ejj_64_4, hf⟩ := jn_s hf
  have hJ_jj_64_4 : ∀ (c_bestGain_3 : Nat → Int32) (c_bestMark_4 : Nat → Int64) (H : Heap) (locs : List Loc) (ls : Array Slot), Wo E A s [oC a_c 0 [.ref a_r, .ref a_c_gain, .ref a_c_mark, .ref a_c_bestGain, .ref a_c_bestMark], oC a_r 7 [.ref a_r_slots, .ref a_r_slotOf, .ref a_r_sets, .ref a_r_later, .ref a_r_laters, .int r_mayLeave, .int r_amount], aI E a_r_slots 4096 r_slots, aI E a_r_slotOf 2584 r_slotOf, aI E a_r_sets 2584 r_sets, aI E a_r_later 256 r_later, aI E a_r_laters 16 r_laters, aI E a_c_gain 256 c_gain, aJ E a_c_mark 256 c_mark, aI E a_c_bestGain 2584 c_bestGain_3, aJ E a_c_bestMark 2584 c_bestMark_4] H locs → lv_has ls 8 [(0, .ref a_c), (1, .int p1), (4, .int (f_X11_leastNode p2)), (5, .int (p2 &&& (p2 - 1)))] → jj_64_4 c_bestGain_3 c_bestMark_4 = some (u_c_bestGain, u_c_bestMark) → W p l e (Rm 2) s m (([.ref a_c, .int p1, .int p2, .int p3] : List Value).toArray) below meth c H locs 0 0 Q (F0 m 64 ls []) := by
    intro c_bestGain_3 c_bestMark_4 H locs ls hw hl hf
    rw [ejj_64_4] at hf
    refine lv_iconst (v := 0) S.1 S.2.1 dX0_chooseFor_64 (by decide) ?_
    refine lv_istore (lv' := [(6, .int 0), (0, .ref a_c), (1, .int p1), (4, .int (f_X11_leastNode p2)), (5, .int (p2 &&& (p2 - 1)))]) S.1 S.2.1 dX0_chooseFor_65 hl (by decide) rfl (fun ls hl => ?_)
    obtain ⟨kk_153_7, ekk_153_7, hf⟩ := jn_s hf
    have hJ_kk_153_7 : ∀ (c_bestGain_6 : Nat → Int32) (c_bestMark_7 : Nat → Int64) (H : Heap) (locs : List Loc) (ls : Array Slot), Wo E A s [oC a_c 0 [.ref a_r, .ref a_c_gain, .ref a_c_mark, .ref a_c_bestGain, .ref a_c_bestMark], oC a_r 7 [.ref a_r_slots, .ref a_r_slotOf, .ref a_r_sets, .ref a_r_later, .ref a_r_laters, .int r_mayLeave, .int r_amount], aI E a_r_slots 4096 r_slots, aI E a_r_slotOf 2584 r_slotOf, aI E a_r_sets 2584 r_sets, aI E a_r_later 256 r_later, aI E a_r_laters 16 r_laters, aI E a_c_gain 256 c_gain, aJ E a_c_mark 256 c_mark, aI E a_c_bestGain 2584 c_bestGain_6, aJ E a_c_bestMark 2584 c_bestMark_7] H locs → lv_has ls 8 [] → kk_153_7 c_bestGain_6 c_bestMark_7 = some (u_c_bestGain, u_c_bestMark) → W p l e (Rm 2) s m (([.ref a_c, .int p1, .int p2, .int p3] : List Value).toArray) below meth c H locs 0 0 Q (F0 m 153 ls []) := by
      intro c_bestGain_6 c_bestMark_7 H locs ls hw hl hf
      rw [ekk_153_7] at hf
      cases hf
      exact hE _ _ _ _ hw dX0_chooseFor_153
    have hL_67_28 : ∀ (n : Nat) (v6_9 : Int32) (c_bestGain_10 : Nat → Int32) (c_bestMark_11 : Nat → Int64) (H : Heap) (locs : List Loc) (ls : Array Slot), Wo E A s [oC a_c 0 [.ref a_r, .ref a_c_gain, .ref a_c_mark, .ref a_c_bestGain, .ref a_c_bestMark], oC a_r 7 [.ref a_r_slots, .ref a_r_slotOf, .ref a_r_sets, .ref a_r_later, .ref a_r_laters, .int r_mayLeave, .int r_amount], aI E a_r_slots 4096 r_slots, aI E a_r_slotOf 2584 r_slotOf, aI E a_r_sets 2584 r_sets, aI E a_r_later 256 r_later, aI E a_r_laters 16 r_laters, aI E a_c_gain 256 c_gain, aJ E a_c_mark 256 c_mark, aI E a_c_bestGain 2584 c_bestGain_10, aJ E a_c_bestMark 2584 c_bestMark_11] H locs → lv_has ls 8 [(0, .ref a_c), (1, .int p1), (4, .int (f_X11_leastNode p2)), (5, .int (p2 &&& (p2 - 1))), (6, .int v6_9)] → f_X0_chooseFor_L67 F r_slots r_slotOf r_sets r_later r_laters r_amount c_gain c_mark p1 p2 kk_153_7 n v6_9 c_bestGain_10 c_bestMark_11 = some (u_c_bestGain, u_c_bestMark) → W p l e (Rm 2) s m (([.ref a_c, .int p1, .int p2, .int p3] : List Value).toArray) below meth c H locs 0 0 Q (F0 m 67 ls []) := by
      intro n
      induction n with
      | zero => intro v6_9 c_bestGain_10 c_bestMark_11 H locs ls hw hl hf; unfold f_X0_chooseFor_L67 at hf; cases hf
      | succ n ih =>
        intro v6_9 c_bestGain_10 c_bestMark_11 H locs ls hw hl hf
        unfold f_X0_chooseFor_L67 at hf
        refine lv_iload S.1 S.2.1 dX0_chooseFor_67 (lv_at hl 4 rfl) ?_
        refine lv_aload_n S.1 S.2.1 dX0_chooseFor_69 rfl (lv_at hl 0 rfl) ?_
        refine g_get S hN hw (C := RX0) (T := TX0) (N := 5) (ci := 0) (v := .ref a_r) 0 0 iX0 k12 dX0_chooseFor_70 rfl rfl (by decide) rfl ?_
        refine g_getN S hN hw (C := RX7) (T := TX7) (N := 7) (ci := 7) (v := .ref a_r_laters) 1 4 iX7 w72 dX0_chooseFor_73 rfl rfl (by decide) rfl ?_
        refine lv_iload S.1 S.2.1 dX0_chooseFor_76 (lv_at hl 2 rfl) ?_
        obtain ⟨hi_11, hf⟩ := rd_s hf
        refine g_iald (n := 16) (f := r_laters) S hN hw 6 hi_11 dX0_chooseFor_78 rfl ?_
        generalize r_laters ((f_X11_leastNode p2) : Int32).toNatClampNeg = y_12 at hf ⊢
        refine lv_icmp_ge (tgt := 153) S.1 S.2.1 dX0_chooseFor_79 (by decide) (fun h_13 => ?_) (fun h_13 => ?_)
        · replace hf := if_t h_13 hf
          exact hJ_kk_153_7 c_bestGain_10 c_bestMark_11 _ _ _ hw (lv_sub hl [] rfl) hf
        · replace hf := if_f h_13 hf
          refine lv_aload_n S.1 S.2.1 dX0_chooseFor_82 rfl (lv_at hl 0 rfl) ?_
          refine g_get S hN hw (C := RX0) (T := TX0) (N := 5) (ci := 0) (v := .ref a_r) 0 0 iX0 k12 dX0_chooseFor_83 rfl rfl (by decide) rfl ?_
          refine g_getN S hN hw (C := RX7) (T := TX7) (N := 7) (ci := 7) (v := .ref a_r_later) 1 3 iX7 w75 dX0_chooseFor_86 rfl rfl (by decide) rfl ?_
          refine lv_iload S.1 S.2.1 dX0_chooseFor_89 (lv_at hl 2 rfl) ?_
          refine lv_iload S.1 S.2.1 dX0_chooseFor_91 (lv_at hl 4 rfl) ?_
          refine g_calli (r := (f_X11_cell (f_X11_leastNode p2) v6_9)) (wc := []) (wr := [oC a_c 0 [.ref a_r, .ref a_c_gain, .ref a_c_mark, .ref a_c_bestGain, .ref a_c_bestMark], oC a_r 7 [.ref a_r_slots, .ref a_r_slotOf, .ref a_r_sets, .ref a_r_later, .ref a_r_laters, .int r_mayLeave, .int r_amount], aI E a_r_slots 4096 r_slots, aI E a_r_slotOf 2584 r_slotOf, aI E a_r_sets 2584 r_sets, aI E a_r_later 256 r_later, aI E a_r_laters 16 r_laters, aI E a_c_gain 256 c_gain, aJ E a_c_mark 256 c_mark, aI E a_c_bestGain 2584 c_bestGain_10, aJ E a_c_bestMark 2584 c_bestMark_11]) (w1 := []) (va_runSN (As := [.int (f_X11_leastNode p2), .int v6_9]) (rest := [.ref a_r_later]) S (c_X11_cell l E (f_X11_leastNode p2) v6_9 (f_X11_cell (f_X11_leastNode p2) v6_9) rfl _) ⟨(va_cnB 2 S.2.2.2.2 gX0_chooseFor_X11_cell_n42 rfl rfl rfl (hN.2 _ w42) kIX11 (by decide +kernel) (rm_le (by omega) (by decide))), kSX11_cell, trivial⟩ (preS hN hw [] rfl rfl) rfl rfl hl.1 rfl (lv_room (Nat.le_of_ble_eq_true rfl)) dX0_chooseFor_93 ⟨Nat.le_refl _, Nat.le_refl _⟩) hw hA [] [0, 1, 2, 3, 4, 5, 6, 7, 8, 9, 10] rfl rfl rfl (by decide) (fun H locs hw => ?_)
          have hw : Wo E A s [oC a_c 0 [.ref a_r, .ref a_c_gain, .ref a_c_mark, .ref a_c_bestGain, .ref a_c_bestMark], oC a_r 7 [.ref a_r_slots, .ref a_r_slotOf, .ref a_r_sets, .ref a_r_later, .ref a_r_laters, .int r_mayLeave, .int r_amount], aI E a_r_slots 4096 r_slots, aI E a_r_slotOf 2584 r_slotOf, aI E a_r_sets 2584 r_sets, aI E a_r_later 256 r_later, aI E a_r_laters 16 r_laters, aI E a_c_gain 256 c_gain, aJ E a_c_mark 256 c_mark, aI E a_c_bestGain 2584 c_bestGain_10, aJ E a_c_bestMark 2584 c_bestMark_11] H _ := hw
          obtain ⟨hi_15, hf⟩ := rd_s hf
          refine g_iald (n := 256) (f := r_later) S hN hw 5 hi_15 dX0_chooseFor_96 rfl ?_
          generalize r_later ((f_X11_cell (f_X11_leastNode p2) v6_9) : Int32).toNatClampNeg = y_16 at hf ⊢
          refine lv_istore (lv' := [(7, .int y_16), (0, .ref a_c), (1, .int p1), (4, .int (f_X11_leastNode p2)), (5, .int (p2 &&& (p2 - 1))), (6, .int v6_9)]) S.1 S.2.1 dX0_chooseFor_97 hl (by decide) rfl (fun ls hl => ?_)
          refine lv_iload S.1 S.2.1 dX0_chooseFor_99 (lv_at hl 4 rfl) ?_
          refine lv_iload S.1 S.2.1 dX0_chooseFor_101 (lv_at hl 0 rfl) ?_
          refine g_calli (r := (f_X11_has (p2 &&& (p2 - 1)) y_16)) (wc := []) (wr := [oC a_c 0 [.ref a_r, .ref a_c_gain, .ref a_c_mark, .ref a_c_bestGain, .ref a_c_bestMark], oC a_r 7 [.ref a_r_slots, .ref a_r_slotOf, .ref a_r_sets, .ref a_r_later, .ref a_r_laters, .int r_mayLeave, .int r_amount], aI E a_r_slots 4096 r_slots, aI E a_r_slotOf 2584 r_slotOf, aI E a_r_sets 2584 r_sets, aI E a_r_later 256 r_later, aI E a_r_laters 16 r_laters, aI E a_c_gain 256 c_gain, aJ E a_c_mark 256 c_mark, aI E a_c_bestGain 2584 c_bestGain_10, aJ E a_c_bestMark 2584 c_bestMark_11]) (w1 := []) (va_runSN (As := [.int (p2 &&& (p2 - 1)), .int y_16]) (rest := []) S (c_X11_has l E (p2 &&& (p2 - 1)) y_16 (f_X11_has (p2 &&& (p2 - 1)) y_16) rfl _) ⟨(va_cnB 2 S.2.2.2.2 gX0_chooseFor_X11_has_n78 rfl rfl rfl (hN.2 _ w78) kIX11 (by decide +kernel) (rm_le (by omega) (by decide))), kSX11_has, trivial⟩ (preS hN hw [] rfl rfl) rfl rfl hl.1 rfl (lv_room (Nat.le_of_ble_eq_true rfl)) dX0_chooseFor_103 ⟨Nat.le_refl _, Nat.le_refl _⟩) hw hA [] [0, 1, 2, 3, 4, 5, 6, 7, 8, 9, 10] rfl rfl rfl (by decide) (fun H locs hw => ?_)
          have hw : Wo E A s [oC a_c 0 [.ref a_r, .ref a_c_gain, .ref a_c_mark, .ref a_c_bestGain, .ref a_c_bestMark], oC a_r 7 [.ref a_r_slots, .ref a_r_slotOf, .ref a_r_sets, .ref a_r_later, .ref a_r_laters, .int r_mayLeave, .int r_amount], aI E a_r_slots 4096 r_slots, aI E a_r_slotOf 2584 r_slotOf, aI E a_r_sets 2584 r_sets, aI E a_r_later 256 r_later, aI E a_r_laters 16 r_laters, aI E a_c_gain 256 c_gain, aJ E a_c_mark 256 c_mark, aI E a_c_bestGain 2584 c_bestGain_10, aJ E a_c_bestMark 2584 c_bestMark_11] H _ := hw
          refine lv_if_eq (tgt := 147) S.1 S.2.1 dX0_chooseFor_106 (by decide) (fun h_19 => ?_) (fun h_19 => ?_)
          · replace hf := if_t h_19 hf
            refine lv_iinc (v := (v6_9 + 1)) (lv' := [(6, .int (v6_9 + 1)), (7, .int y_16), (0, .ref a_c), (1, .int p1), (4, .int (f_X11_leastNode p2)), (5, .int (p2 &&& (p2 - 1)))]) S.1 S.2.1 dX0_chooseFor_147 hl (k := 5) rfl rfl (by decide) rfl (fun ls hl => ?_)
            refine lv_goto (tgt := 67) S.1 S.2.1 dX0_chooseFor_150 (by decide) ?_
            exact ih (v6_9 + 1) c_bestGain_10 c_bestMark_11 _ _ _ hw (lv_sub hl [2, 3, 4, 5, 0] rfl) hf
          · replace hf := if_f h_19 hf
            refine lv_aload_n S.1 S.2.1 dX0_chooseFor_109 rfl (lv_at hl 1 rfl) ?_
            refine lv_iload_n S.1 S.2.1 dX0_chooseFor_110 rfl (lv_at hl 2 rfl) ?_
            refine lv_iload S.1 S.2.1 dX0_chooseFor_111 (lv_at hl 4 rfl) ?_
            refine lv_iconst (v := 1) S.1 S.2.1 dX0_chooseFor_113 (by decide) ?_
            refine lv_iload S.1 S.2.1 dX0_chooseFor_114 (lv_at hl 0 rfl) ?_
            refine lv_ishl S.1 S.2.1 dX0_chooseFor_116 ?_
            refine lv_iconst (v := (-1)) S.1 S.2.1 dX0_chooseFor_117 (by decide) ?_
            refine lv_ixor S.1 S.2.1 dX0_chooseFor_118 ?_
            refine lv_iand S.1 S.2.1 dX0_chooseFor_119 ?_
            refine lv_aload_n S.1 S.2.1 dX0_chooseFor_120 rfl (lv_at hl 1 rfl) ?_
            refine g_get S hN hw (C := RX0) (T := TX0) (N := 5) (ci := 0) (v := .ref a_c_gain) 0 1 iX0 k18 dX0_chooseFor_121 rfl rfl (by decide) rfl ?_
            refine lv_iload S.1 S.2.1 dX0_chooseFor_124 (lv_at hl 3 rfl) ?_
            refine lv_iload S.1 S.2.1 dX0_chooseFor_126 (lv_at hl 0 rfl) ?_
            refine g_calli (r := (f_X11_cell (f_X11_leastNode p2) y_16)) (wc := []) (wr := [oC a_c 0 [.ref a_r, .ref a_c_gain, .ref a_c_mark, .ref a_c_bestGain, .ref a_c_bestMark], oC a_r 7 [.ref a_r_slots, .ref a_r_slotOf, .ref a_r_sets, .ref a_r_later, .ref a_r_laters, .int r_mayLeave, .int r_amount], aI E a_r_slots 4096 r_slots, aI E a_r_slotOf 2584 r_slotOf, aI E a_r_sets 2584 r_sets, aI E a_r_later 256 r_later, aI E a_r_laters 16 r_laters, aI E a_c_gain 256 c_gain, aJ E a_c_mark 256 c_mark, aI E a_c_bestGain 2584 c_bestGain_10, aJ E a_c_bestMark 2584 c_bestMark_11]) (w1 := []) (va_runSN (As := [.int (f_X11_leastNode p2), .int y_16]) (rest := [.ref a_c_gain, .int ((p2 &&& (p2 - 1)) &&& (((1 : Int32) <<< (y_16 &&& 31)) ^^^ (-1))), .int p1, .ref a_c]) S (c_X11_cell l E (f_X11_leastNode p2) y_16 (f_X11_cell (f_X11_leastNode p2) y_16) rfl _) ⟨(va_cnB 2 S.2.2.2.2 gX0_chooseFor_X11_cell_n42 rfl rfl rfl (hN.2 _ w42) kIX11 (by decide +kernel) (rm_le (by omega) (by decide))), kSX11_cell, trivial⟩ (preS hN hw [] rfl rfl) rfl rfl hl.1 rfl (lv_room (Nat.le_of_ble_eq_true rfl)) dX0_chooseFor_128 ⟨Nat.le_refl _, Nat.le_refl _⟩) hw hA [] [0, 1, 2, 3, 4, 5, 6, 7, 8, 9, 10] rfl rfl rfl (by decide) (fun H locs hw => ?_)
            have hw : Wo E A s [oC a_c 0 [.ref a_r, .ref a_c_gain, .ref a_c_mark, .ref a_c_bestGain, .ref a_c_bestMark], oC a_r 7 [.ref a_r_slots, .ref a_r_slotOf, .ref a_r_sets, .ref a_r_later, .ref a_r_laters, .int r_mayLeave, .int r_amount], aI E a_r_slots 4096 r_slots, aI E a_r_slotOf 2584 r_slotOf, aI E a_r_sets 2584 r_sets, aI E a_r_later 256 r_later, aI E a_r_laters 16 r_laters, aI E a_c_gain 256 c_gain, aJ E a_c_mark 256 c_mark, aI E a_c_bestGain 2584 c_bestGain_10, aJ E a_c_bestMark 2584 c_bestMark_11] H _ := hw
            obtain ⟨hi_21, hf⟩ := rd_s hf
            refine g_iald (n := 256) (f := c_gain) S hN hw 7 hi_21 dX0_chooseFor_131 rfl ?_
            generalize c_gain ((f_X11_cell (f_X11_leastNode p2) y_16) : Int32).toNatClampNeg = y_22 at hf ⊢
            refine lv_aload_n S.1 S.2.1 dX0_chooseFor_132 rfl (lv_at hl 1 rfl) ?_
            refine g_get S hN hw (C := RX0) (T := TX0) (N := 5) (ci := 0) (v := .ref a_c_mark) 0 2 iX0 k22 dX0_chooseFor_133 rfl rfl (by decide) rfl ?_
            refine lv_iload S.1 S.2.1 dX0_chooseFor_136 (lv_at hl 3 rfl) ?_
            refine lv_iload S.1 S.2.1 dX0_chooseFor_138 (lv_at hl 0 rfl) ?_
            refine g_calli (r := (f_X11_cell (f_X11_leastNode p2) y_16)) (wc := []) (wr := [oC a_c 0 [.ref a_r, .ref a_c_gain, .ref a_c_mark, .ref a_c_bestGain, .ref a_c_bestMark], oC a_r 7 [.ref a_r_slots, .ref a_r_slotOf, .ref a_r_sets, .ref a_r_later, .ref a_r_laters, .int r_mayLeave, .int r_amount], aI E a_r_slots 4096 r_slots, aI E a_r_slotOf 2584 r_slotOf, aI E a_r_sets 2584 r_sets, aI E a_r_later 256 r_later, aI E a_r_laters 16 r_laters, aI E a_c_gain 256 c_gain, aJ E a_c_mark 256 c_mark, aI E a_c_bestGain 2584 c_bestGain_10, aJ E a_c_bestMark 2584 c_bestMark_11]) (w1 := []) (va_runSN (As := [.int (f_X11_leastNode p2), .int y_16]) (rest := [.ref a_c_mark, .int y_22, .int ((p2 &&& (p2 - 1)) &&& (((1 : Int32) <<< (y_16 &&& 31)) ^^^ (-1))), .int p1, .ref a_c]) S (c_X11_cell l E (f_X11_leastNode p2) y_16 (f_X11_cell (f_X11_leastNode p2) y_16) rfl _) ⟨(va_cnB 2 S.2.2.2.2 gX0_chooseFor_X11_cell_n42 rfl rfl rfl (hN.2 _ w42) kIX11 (by decide +kernel) (rm_le (by omega) (by decide))), kSX11_cell, trivial⟩ (preS hN hw [] rfl rfl) rfl rfl hl.1 rfl (lv_room (Nat.le_of_ble_eq_true rfl)) dX0_chooseFor_140 ⟨Nat.le_refl _, Nat.le_refl _⟩) hw hA [] [0, 1, 2, 3, 4, 5, 6, 7, 8, 9, 10] rfl rfl rfl (by decide) (fun H locs hw => ?_)
            have hw : Wo E A s [oC a_c 0 [.ref a_r, .ref a_c_gain, .ref a_c_mark, .ref a_c_bestGain, .ref a_c_bestMark], oC a_r 7 [.ref a_r_slots, .ref a_r_slotOf, .ref a_r_sets, .ref a_r_later, .ref a_r_laters, .int r_mayLeave, .int r_amount], aI E a_r_slots 4096 r_slots, aI E a_r_slotOf 2584 r_slotOf, aI E a_r_sets 2584 r_sets, aI E a_r_later 256 r_later, aI E a_r_laters 16 r_laters, aI E a_c_gain 256 c_gain, aJ E a_c_mark 256 c_mark, aI E a_c_bestGain 2584 c_bestGain_10, aJ E a_c_bestMark 2584 c_bestMark_11] H _ := hw
            obtain ⟨hi_24, hf⟩ := rd_s hf
            refine g_lald (n := 256) (f := c_mark) S hN hw 8 hi_24 dX0_chooseFor_143 rfl ?_
            generalize c_mark ((f_X11_cell (f_X11_leastNode p2) y_16) : Int32).toNatClampNeg = y_25 at hf ⊢
            obtain ⟨c_bestGain_26, c_bestMark_27, hc_27, hf⟩ := bd2_s hf
            refine g_callv (wc := [oC a_c 0 [.ref a_r, .ref a_c_gain, .ref a_c_mark, .ref a_c_bestGain, .ref a_c_bestMark], oC a_r 7 [.ref a_r_slots, .ref a_r_slotOf, .ref a_r_sets, .ref a_r_later, .ref a_r_laters, .int r_mayLeave, .int r_amount], aI E a_r_slots 4096 r_slots, aI E a_r_slotOf 2584 r_slotOf, aI E a_r_sets 2584 r_sets, aI E a_c_bestGain 2584 c_bestGain_10, aJ E a_c_bestMark 2584 c_bestMark_11]) (wr := [aI E a_r_later 256 r_later, aI E a_r_laters 16 r_laters, aI E a_c_gain 256 c_gain, aJ E a_c_mark 256 c_mark]) (w1 := [oC a_c 0 [.ref a_r, .ref a_c_gain, .ref a_c_mark, .ref a_c_bestGain, .ref a_c_bestMark], oC a_r 7 [.ref a_r_slots, .ref a_r_slotOf, .ref a_r_sets, .ref a_r_later, .ref a_r_laters, .int r_mayLeave, .int r_amount], aI E a_r_slots 4096 r_slots, aI E a_r_slotOf 2584 r_slotOf, aI E a_r_sets 2584 r_sets, aI E a_c_bestGain 2584 c_bestGain_26, aJ E a_c_bestMark 2584 c_bestMark_27]) (va_runV (As := [.int p1, .int ((p2 &&& (p2 - 1)) &&& (((1 : Int32) <<< (y_16 &&& 31)) ^^^ (-1))), .int y_22, .long y_25]) (rest := []) S (c_X0_take l E F r_slots a_r_slots r_slotOf a_r_slotOf r_sets a_r_sets a_r_later a_r_laters r_mayLeave r_amount a_r a_c_gain a_c_mark c_bestGain_10 a_c_bestGain c_bestMark_11 a_c_bestMark a_c p1 ((p2 &&& (p2 - 1)) &&& (((1 : Int32) <<< (y_16 &&& 31)) ^^^ (-1))) y_22 y_25 c_bestGain_26 c_bestMark_27 hc_27 _) (cwV 4 S.2.2.2.2 gX0_chooseFor_X0_take rfl rfl rfl (by decide +kernel) (rm_le (by omega) (by decide))) (preV (q := (RX0, TX0, 5)) hN hw [0, 1, 2, 3, 4, 9, 10] rfl rfl rfl rfl) rfl rfl hl.1 rfl (lv_room (Nat.le_of_ble_eq_true rfl)) dX0_chooseFor_144 ⟨Nat.le_refl _, Nat.le_refl _⟩) hw hA [0, 1, 2, 3, 4, 9, 10] [5, 6, 7, 8] rfl rfl rfl (by decide) (fun H locs hw => ?_)
            have hw : Wo E A s [aI E a_r_later 256 r_later, aI E a_r_laters 16 r_laters, aI E a_c_gain 256 c_gain, aJ E a_c_mark 256 c_mark, oC a_c 0 [.ref a_r, .ref a_c_gain, .ref a_c_mark, .ref a_c_bestGain, .ref a_c_bestMark], oC a_r 7 [.ref a_r_slots, .ref a_r_slotOf, .ref a_r_sets, .ref a_r_later, .ref a_r_laters, .int r_mayLeave, .int r_amount], aI E a_r_slots 4096 r_slots, aI E a_r_slotOf 2584 r_slotOf, aI E a_r_sets 2584 r_sets, aI E a_c_bestGain 2584 c_bestGain_26, aJ E a_c_bestMark 2584 c_bestMark_27] H _ := hw
            refine lv_iinc (v := (v6_9 + 1)) (lv' := [(6, .int (v6_9 + 1)), (7, .int y_16), (0, .ref a_c), (1, .int p1), (4, .int (f_X11_leastNode p2)), (5, .int (p2 &&& (p2 - 1)))]) S.1 S.2.1 dX0_chooseFor_147 hl (k := 5) rfl rfl (by decide) rfl (fun ls hl => ?_)
            refine lv_goto (tgt := 67) S.1 S.2.1 dX0_chooseFor_150 (by decide) ?_
            exact ih (v6_9 + 1) c_bestGain_26 c_bestMark_27 _ _ _ (hw.sub [4, 5, 6, 7, 8, 0, 1, 2, 3, 9, 10] rfl rfl) (lv_sub hl [2, 3, 4, 5, 0] rfl) hf
    exact hL_67_28 F 0 c_bestGain_3 c_bestMark_4 _ _ _ hw (lv_sub hl [1, 2, 3, 4, 0] rfl) hf
  refine lv_if_ne (tgt := 29) S.1 S.2.1 dX0_chooseFor_14 (by decide) (fun h_30 => ?_) (fun h_30 => ?_)
  · replace hf := if_f h_30 hf
    refine lv_iload_n S.1 S.2.1 dX0_chooseFor_29 rfl (lv_at hl 5 rfl) ?_
    refine lv_iconst (v := 2) S.1 S.2.1 dX0_chooseFor_30 (by decide) ?_
    refine lv_icmp_ne (tgt := 64) S.1 S.2.1 dX0_chooseFor_31 (by decide) (fun h_31 => ?_) (fun h_31 => ?_)
    · replace hf := if_f h_31 hf
      exact hJ_jj_64_4 c_bestGain c_bestMark _ _ _ hw (lv_sub hl [2, 3, 1, 0] rfl) hf
    · replace hf := if_t h_31 hf
      refine lv_aload_n S.1 S.2.1 dX0_chooseFor_34 rfl (lv_at hl 2 rfl) ?_
      refine lv_iload_n S.1 S.2.1 dX0_chooseFor_35 rfl (lv_at hl 4 rfl) ?_
      refine lv_iload S.1 S.2.1 dX0_chooseFor_36 (lv_at hl 1 rfl) ?_
      obtain ⟨r_32, hc_32, hf⟩ := bd_s hf
      refine g_calll (r := r_32) (wc := [oC a_c 0 [.ref a_r, .ref a_c_gain, .ref a_c_mark, .ref a_c_bestGain, .ref a_c_bestMark], aJ E a_c_mark 256 c_mark]) (wr := [oC a_r 7 [.ref a_r_slots, .ref a_r_slotOf, .ref a_r_sets, .ref a_r_later, .ref a_r_laters, .int r_mayLeave, .int r_amount], aI E a_r_slots 4096 r_slots, aI E a_r_slotOf 2584 r_slotOf, aI E a_r_sets 2584 r_sets, aI E a_r_later 256 r_later, aI E a_r_laters 16 r_laters, aI E a_c_gain 256 c_gain, aI E a_c_bestGain 2584 c_bestGain, aJ E a_c_bestMark 2584 c_bestMark]) (w1 := [oC a_c 0 [.ref a_r, .ref a_c_gain, .ref a_c_mark, .ref a_c_bestGain, .ref a_c_bestMark], aJ E a_c_mark 256 c_mark]) (va_runV (As := [.int p2, .int (f_X11_leastNode p2)]) (rest := []) S (c_X0_firstOutOf l E F a_r a_c_gain c_mark a_c_mark a_c_bestGain a_c_bestMark a_c p2 (f_X11_leastNode p2) r_32 hc_32 _) (cwV 2 S.2.2.2.2 gX0_chooseFor_X0_firstOutOf rfl rfl rfl (by decide +kernel) (rm_le (by omega) (by decide))) (preV (q := (RX0, TX0, 5)) hN hw [0, 8] rfl rfl rfl rfl) rfl rfl hl.1 rfl (lv_room (Nat.le_of_ble_eq_true rfl)) dX0_chooseFor_38 ⟨Nat.le_refl _, Nat.le_refl _⟩) hw hA [0, 8] [1, 2, 3, 4, 5, 6, 7, 9, 10] rfl rfl rfl (by decide) (fun H locs hw => ?_)
      have hw : Wo E A s [oC a_r 7 [.ref a_r_slots, .ref a_r_slotOf, .ref a_r_sets, .ref a_r_later, .ref a_r_laters, .int r_mayLeave, .int r_amount], aI E a_r_slots 4096 r_slots, aI E a_r_slotOf 2584 r_slotOf, aI E a_r_sets 2584 r_sets, aI E a_r_later 256 r_later, aI E a_r_laters 16 r_laters, aI E a_c_gain 256 c_gain, aI E a_c_bestGain 2584 c_bestGain, aJ E a_c_bestMark 2584 c_bestMark, oC a_c 0 [.ref a_r, .ref a_c_gain, .ref a_c_mark, .ref a_c_bestGain, .ref a_c_bestMark], aJ E a_c_mark 256 c_mark] H _ := hw
      refine lv_lstore (lv' := [(6, .long r_32), (5, .int (p2 &&& (p2 - 1))), (4, .int (f_X11_leastNode p2)), (0, .ref a_c), (1, .int p1), (2, .int p2), (3, .int p3)]) S.1 S.2.1 dX0_chooseFor_41 hl (by decide) rfl (fun ls hl => ?_)
      refine lv_lload S.1 S.2.1 dX0_chooseFor_43 (lv_at hl 0 rfl) ?_
      refine lv_lconst (v := 0) S.1 S.2.1 dX0_chooseFor_45 (by decide) ?_
      refine W.lcmp S.1 S.2.1 dX0_chooseFor_46 ?_
      refine lv_if_eq (tgt := 64) S.1 S.2.1 dX0_chooseFor_47 (by decide) (fun h_34 => ?_) (fun h_34 => ?_)
      · replace hf := if_t h_34 hf
        exact hJ_jj_64_4 c_bestGain c_bestMark _ _ _ (hw.sub [9, 0, 1, 2, 3, 4, 5, 6, 10, 7, 8] rfl rfl) (lv_sub hl [3, 4, 2, 1] rfl) hf
      · replace hf := if_f h_34 hf
        refine lv_aload_n S.1 S.2.1 dX0_chooseFor_50 rfl (lv_at hl 3 rfl) ?_
        refine lv_iload_n S.1 S.2.1 dX0_chooseFor_51 rfl (lv_at hl 4 rfl) ?_
        refine lv_iload S.1 S.2.1 dX0_chooseFor_52 (lv_at hl 1 rfl) ?_
        refine lv_iconst (v := 4) S.1 S.2.1 dX0_chooseFor_54 (by decide) ?_
        refine lv_iconst (v := 0) S.1 S.2.1 dX0_chooseFor_55 (by decide) ?_
        refine g_calli (r := (f_X0_gainOf 4 0)) (wc := []) (wr := [oC a_r 7 [.ref a_r_slots, .ref a_r_slotOf, .ref a_r_sets, .ref a_r_later, .ref a_r_laters, .int r_mayLeave, .int r_amount], aI E a_r_slots 4096 r_slots, aI E a_r_slotOf 2584 r_slotOf, aI E a_r_sets 2584 r_sets, aI E a_r_later 256 r_later, aI E a_r_laters 16 r_laters, aI E a_c_gain 256 c_gain, aI E a_c_bestGain 2584 c_bestGain, aJ E a_c_bestMark 2584 c_bestMark, oC a_c 0 [.ref a_r, .ref a_c_gain, .ref a_c_mark, .ref a_c_bestGain, .ref a_c_bestMark], aJ E a_c_mark 256 c_mark]) (w1 := []) (va_runS (As := [.int 4, .int 0]) (rest := [.int (p2 &&& (p2 - 1)), .int p1, .ref a_c]) S (c_X0_gainOf l E 4 0 (f_X0_gainOf 4 0) rfl _) (va_cwS 2 S.2.2.2.2 gX0_chooseFor_X0_gainOf rfl rfl rfl (by decide +kernel) (rm_le (by omega) (by decide))) (preS hN hw [] rfl rfl) rfl rfl hl.1 rfl (lv_room (Nat.le_of_ble_eq_true rfl)) dX0_chooseFor_56 ⟨Nat.le_refl _, Nat.le_refl _⟩) hw hA [] [0, 1, 2, 3, 4, 5, 6, 7, 8, 9, 10] rfl rfl rfl (by decide) (fun H locs hw => ?_)
        have hw : Wo E A s [oC a_r 7 [.ref a_r_slots, .ref a_r_slotOf, .ref a_r_sets, .ref a_r_later, .ref a_r_laters, .int r_mayLeave, .int r_amount], aI E a_r_slots 4096 r_slots, aI E a_r_slotOf 2584 r_slotOf, aI E a_r_sets 2584 r_sets, aI E a_r_later 256 r_later, aI E a_r_laters 16 r_laters, aI E a_c_gain 256 c_gain, aI E a_c_bestGain 2584 c_bestGain, aJ E a_c_bestMark 2584 c_bestMark, oC a_c 0 [.ref a_r, .ref a_c_gain, .ref a_c_mark, .ref a_c_bestGain, .ref a_c_bestMark], aJ E a_c_mark 256 c_mark] H _ := hw
        refine lv_lload S.1 S.2.1 dX0_chooseFor_59 (lv_at hl 0 rfl) ?_
        obtain ⟨c_bestGain_37, c_bestMark_38, hc_38, hf⟩ := bd2_s hf
        refine g_callv (wc := [oC a_c 0 [.ref a_r, .ref a_c_gain, .ref a_c_mark, .ref a_c_bestGain, .ref a_c_bestMark], oC a_r 7 [.ref a_r_slots, .ref a_r_slotOf, .ref a_r_sets, .ref a_r_later, .ref a_r_laters, .int r_mayLeave, .int r_amount], aI E a_r_slots 4096 r_slots, aI E a_r_slotOf 2584 r_slotOf, aI E a_r_sets 2584 r_sets, aI E a_c_bestGain 2584 c_bestGain, aJ E a_c_bestMark 2584 c_bestMark]) (wr := [aI E a_r_later 256 r_later, aI E a_r_laters 16 r_laters, aI E a_c_gain 256 c_gain, aJ E a_c_mark 256 c_mark]) (w1 := [oC a_c 0 [.ref a_r, .ref a_c_gain, .ref a_c_mark, .ref a_c_bestGain, .ref a_c_bestMark], oC a_r 7 [.ref a_r_slots, .ref a_r_slotOf, .ref a_r_sets, .ref a_r_later, .ref a_r_laters, .int r_mayLeave, .int r_amount], aI E a_r_slots 4096 r_slots, aI E a_r_slotOf 2584 r_slotOf, aI E a_r_sets 2584 r_sets, aI E a_c_bestGain 2584 c_bestGain_37, aJ E a_c_bestMark 2584 c_bestMark_38]) (va_runV (As := [.int p1, .int (p2 &&& (p2 - 1)), .int (f_X0_gainOf 4 0), .long r_32]) (rest := []) S (c_X0_take l E F r_slots a_r_slots r_slotOf a_r_slotOf r_sets a_r_sets a_r_later a_r_laters r_mayLeave r_amount a_r a_c_gain a_c_mark c_bestGain a_c_bestGain c_bestMark a_c_bestMark a_c p1 (p2 &&& (p2 - 1)) (f_X0_gainOf 4 0) r_32 c_bestGain_37 c_bestMark_38 hc_38 _) (cwV 4 S.2.2.2.2 gX0_chooseFor_X0_take rfl rfl rfl (by decide +kernel) (rm_le (by omega) (by decide))) (preV (q := (RX0, TX0, 5)) hN hw [9, 0, 1, 2, 3, 7, 8] rfl rfl rfl rfl) rfl rfl hl.1 rfl (lv_room (Nat.le_of_ble_eq_true rfl)) dX0_chooseFor_61 ⟨Nat.le_refl _, Nat.le_refl _⟩) hw hA [9, 0, 1, 2, 3, 7, 8] [4, 5, 6, 10] rfl rfl rfl (by decide) (fun H locs hw => ?_)
        have hw : Wo E A s [aI E a_r_later 256 r_later, aI E a_r_laters 16 r_laters, aI E a_c_gain 256 c_gain, aJ E a_c_mark 256 c_mark, oC a_c 0 [.ref a_r, .ref a_c_gain, .ref a_c_mark, .ref a_c_bestGain, .ref a_c_bestMark], oC a_r 7 [.ref a_r_slots, .ref a_r_slotOf, .ref a_r_sets, .ref a_r_later, .ref a_r_laters, .int r_mayLeave, .int r_amount], aI E a_r_slots 4096 r_slots, aI E a_r_slotOf 2584 r_slotOf, aI E a_r_sets 2584 r_sets, aI E a_c_bestGain 2584 c_bestGain_37, aJ E a_c_bestMark 2584 c_bestMark_38] H _ := hw
        exact hJ_jj_64_4 c_bestGain_37 c_bestMark_38 _ _ _ (hw.sub [4, 5, 6, 7, 8, 0, 1, 2, 3, 9, 10] rfl rfl) (lv_sub hl [3, 4, 2, 1] rfl) hf
  · replace hf := if_t h_30 hf
    refine lv_aload_n S.1 S.2.1 dX0_chooseFor_17 rfl (lv_at hl 2 rfl) ?_
    refine lv_iload_n S.1 S.2.1 dX0_chooseFor_18 rfl (lv_at hl 3 rfl) ?_
    refine lv_iload S.1 S.2.1 dX0_chooseFor_19 (lv_at hl 0 rfl) ?_
    refine lv_iconst (v := 0) S.1 S.2.1 dX0_chooseFor_21 (by decide) ?_
    refine lv_lconst (v := 0) S.1 S.2.1 dX0_chooseFor_22 (by decide) ?_
    obtain ⟨c_bestGain_40, c_bestMark_41, hc_41, hf⟩ := bd2_s hf
    refine g_callv (wc := [oC a_c 0 [.ref a_r, .ref a_c_gain, .ref a_c_mark, .ref a_c_bestGain, .ref a_c_bestMark], oC a_r 7 [.ref a_r_slots, .ref a_r_slotOf, .ref a_r_sets, .ref a_r_later, .ref a_r_laters, .int r_mayLeave, .int r_amount], aI E a_r_slots 4096 r_slots, aI E a_r_slotOf 2584 r_slotOf, aI E a_r_sets 2584 r_sets, aI E a_c_bestGain 2584 c_bestGain, aJ E a_c_bestMark 2584 c_bestMark]) (wr := [aI E a_r_later 256 r_later, aI E a_r_laters 16 r_laters, aI E a_c_gain 256 c_gain, aJ E a_c_mark 256 c_mark]) (w1 := [oC a_c 0 [.ref a_r, .ref a_c_gain, .ref a_c_mark, .ref a_c_bestGain, .ref a_c_bestMark], oC a_r 7 [.ref a_r_slots, .ref a_r_slotOf, .ref a_r_sets, .ref a_r_later, .ref a_r_laters, .int r_mayLeave, .int r_amount], aI E a_r_slots 4096 r_slots, aI E a_r_slotOf 2584 r_slotOf, aI E a_r_sets 2584 r_sets, aI E a_c_bestGain 2584 c_bestGain_40, aJ E a_c_bestMark 2584 c_bestMark_41]) (va_runV (As := [.int p1, .int (p2 &&& (p2 - 1)), .int 0, .long (0 : Int64)]) (rest := []) S (c_X0_take l E F r_slots a_r_slots r_slotOf a_r_slotOf r_sets a_r_sets a_r_later a_r_laters r_mayLeave r_amount a_r a_c_gain a_c_mark c_bestGain a_c_bestGain c_bestMark a_c_bestMark a_c p1 (p2 &&& (p2 - 1)) 0 (0 : Int64) c_bestGain_40 c_bestMark_41 hc_41 _) (cwV 4 S.2.2.2.2 gX0_chooseFor_X0_take rfl rfl rfl (by decide +kernel) (rm_le (by omega) (by decide))) (preV (q := (RX0, TX0, 5)) hN hw [0, 1, 2, 3, 4, 9, 10] rfl rfl rfl rfl) rfl rfl hl.1 rfl (lv_room (Nat.le_of_ble_eq_true rfl)) dX0_chooseFor_23 ⟨Nat.le_refl _, Nat.le_refl _⟩) hw hA [0, 1, 2, 3, 4, 9, 10] [5, 6, 7, 8] rfl rfl rfl (by decide) (fun H locs hw => ?_)
    have hw : Wo E A s [aI E a_r_later 256 r_later, aI E a_r_laters 16 r_laters, aI E a_c_gain 256 c_gain, aJ E a_c_mark 256 c_mark, oC a_c 0 [.ref a_r, .ref a_c_gain, .ref a_c_mark, .ref a_c_bestGain, .ref a_c_bestMark], oC a_r 7 [.ref a_r_slots, .ref a_r_slotOf, .ref a_r_sets, .ref a_r_later, .ref a_r_laters, .int r_mayLeave, .int r_amount], aI E a_r_slots 4096 r_slots, aI E a_r_slotOf 2584 r_slotOf, aI E a_r_sets 2584 r_sets, aI E a_c_bestGain 2584 c_bestGain_40, aJ E a_c_bestMark 2584 c_bestMark_41] H _ := hw
    refine lv_goto (tgt := 64) S.1 S.2.1 dX0_chooseFor_26 (by decide) ?_
    exact hJ_jj_64_4 c_bestGain_40 c_bestMark_41 _ _ _ (hw.sub [4, 5, 6, 7, 8, 0, 1, 2, 3, 9, 10] rfl rfl) (lv_sub hl [2, 3, 1, 0] rfl) hf
def f_X0_choose_L2 (F : Nat) (r_slots : Nat → Int32) (r_slotOf : Nat → Int32) (r_sets : Nat → Int32) (r_later : Nat → Int32) (r_laters : Nat → Int32) (r_amount : Int32) (c_gain : Nat → Int32) (c_mark : Nat → Int64) (p1 : Int32) (kk_65_2 : (Nat → Int32) → (Nat → Int64) → Option ((Nat → Int32) × (Nat → Int64))) : Nat → Int32 → (Nat → Int32) → (Nat → Int64) → Option ((Nat → Int32) × (Nat → Int64))
  | 0, _, _, _ => none
  | n + 1, v2_4, c_bestGain_5, c_bestMark_6 => (if r_amount ≤ v2_4 then (kk_65_2 c_bestGain_5 c_bestMark_6) else rd 2584 r_sets v2_4 (fun y_8 => wr 2584 c_bestMark_6 v2_4 (0 : Int64) (fun c_bestMark_9 => (if y_8 = 0 then wr 2584 c_bestGain_5 v2_4 0 (fun c_bestGain_15 => (f_X0_choose_L2 F r_slots r_slotOf r_sets r_later r_laters r_amount c_gain c_mark p1 kk_65_2 n (v2_4 + 1) c_bestGain_15 c_bestMark_9)) else wr 2584 c_bestGain_5 v2_4 (-1000000000) (fun c_bestGain_11 => bd2 (f_X0_chooseFor F v2_4 y_8 p1 r_slots r_slotOf r_sets r_later r_laters r_amount c_gain c_mark c_bestGain_11 c_bestMark_9) (fun c_bestGain_12 c_bestMark_13 => (f_X0_choose_L2 F r_slots r_slotOf r_sets r_later r_laters r_amount c_gain c_mark p1 kk_65_2 n (v2_4 + 1) c_bestGain_12 c_bestMark_13)))))))
def f_X0_choose (F : Nat) (p1 : Int32) (r_slots : Nat → Int32) (r_slotOf : Nat → Int32) (r_sets : Nat → Int32) (r_later : Nat → Int32) (r_laters : Nat → Int32) (r_amount : Int32) (c_gain : Nat → Int32) (c_mark : Nat → Int64) (c_bestGain : Nat → Int32) (c_bestMark : Nat → Int64) : Option ((Nat → Int32) × (Nat → Int64)) :=
  (jn (fun (c_bestGain_1 : Nat → Int32) (c_bestMark_2 : Nat → Int64) => some (c_bestGain_1, c_bestMark_2)) (fun kk_65_2 => (f_X0_choose_L2 F r_slots r_slotOf r_sets r_later r_laters r_amount c_gain c_mark p1 kk_65_2 F 0 c_bestGain c_bestMark)))
set_option maxHeartbeats 4000000 in
set_option maxRecDepth 100000 in
theorem c_X0_choose (l : Launch) (E : Ev) (F : Nat) (r_slots : Nat → Int32) (a_r_slots : Nat) (r_slotOf : Nat → Int32) (a_r_slotOf : Nat) (r_sets : Nat → Int32) (a_r_sets : Nat) (r_later : Nat → Int32) (a_r_later : Nat) (r_laters : Nat → Int32) (a_r_laters : Nat) (r_mayLeave : Int32) (r_amount : Int32) (a_r : Nat) (c_gain : Nat → Int32) (a_c_gain : Nat) (c_mark : Nat → Int64) (a_c_mark : Nat) (c_bestGain : Nat → Int32) (a_c_bestGain : Nat) (c_bestMark : Nat → Int64) (a_c_bestMark : Nat) (a_c : Nat) (p1 : Int32) (u_c_bestGain : Nat → Int32) (u_c_bestMark : Nat → Int64) (hf : f_X0_choose F p1 r_slots r_slotOf r_sets r_later r_laters r_amount c_gain c_mark c_bestGain c_bestMark = some (u_c_bestGain, u_c_bestMark)) :
    CtV l yX0_choose wsX0_choose (Rm 3) E [.ref a_c, .int p1] [oC a_c 0 [.ref a_r, .ref a_c_gain, .ref a_c_mark, .ref a_c_bestGain, .ref a_c_bestMark], oC a_r 7 [.ref a_r_slots, .ref a_r_slotOf, .ref a_r_sets, .ref a_r_later, .ref a_r_laters, .int r_mayLeave, .int r_amount], aI E a_r_slots 4096 r_slots, aI E a_r_slotOf 2584 r_slotOf, aI E a_r_sets 2584 r_sets, aI E a_r_later 256 r_later, aI E a_r_laters 16 r_laters, aI E a_c_gain 256 c_gain, aJ E a_c_mark 256 c_mark, aI E a_c_bestGain 2584 c_bestGain, aJ E a_c_bestMark 2584 c_bestMark] [oC a_c 0 [.ref a_r, .ref a_c_gain, .ref a_c_mark, .ref a_c_bestGain, .ref a_c_bestMark], oC a_r 7 [.ref a_r_slots, .ref a_r_slotOf, .ref a_r_sets, .ref a_r_later, .ref a_r_laters, .int r_mayLeave, .int r_amount], aI E a_r_slots 4096 r_slots, aI E a_r_slotOf 2584 r_slotOf, aI E a_r_sets 2584 r_sets, aI E a_r_later 256 r_later, aI E a_r_laters 16 r_laters, aI E a_c_gain 256 c_gain, aJ E a_c_mark 256 c_mark, aI E a_c_bestGain 2584 u_c_bestGain, aJ E a_c_bestMark 2584 u_c_bestMark] := by
  refine ofV (cc := cX0_choose) (maxL := 4) (own := RX0) rfl rfl (by decide) rfl rfl ?_
  intro p e s m below meth c A ls Q S hnm hN hw hA hl0 hE
  have hl : lv_has ls 4 [(0, .ref a_c), (1, .int p1)] := hl0 _ (lv_entry [.ref a_c, .int p1] (n := 4) (Nat.le_of_ble_eq_true rfl))
  have iX0 : ∀ w ∈ wsX00, w ∈ wsX0_choose := by decide +kernel
  have iX7 : ∀ w ∈ wsX70, w ∈ wsX0_choose := by decide +kernel
  have k12 := S.2.2.2.2 (.fieldLink RX0 12 "PairMatching$Chooser" "rests" "LPairMatching$Rests;") (by decide +kernel)
  have k26 := S.2.2.2.2 (.fieldLink RX0 26 "PairMatching$Chooser" "bestGain" "[I") (by decide +kernel)
  have k29 := S.2.2.2.2 (.fieldLink RX0 29 "PairMatching$Chooser" "bestMark" "[J") (by decide +kernel)
  have k32 := S.2.2.2.2 (.constant RX0 32 (-1000000000)) (by decide +kernel)
  have w46 : Cond.fieldLinkNest RX0 46 "PairMatching$Rests" "amount" "I" "PairMatching" ∈ nestW := List.mem_of_getElem? (i := 52) rfl
  have w50 : Cond.fieldLinkNest RX0 50 "PairMatching$Rests" "sets" "[I" "PairMatching" ∈ nestW := List.mem_of_getElem? (i := 42) rfl
  unfold f_X0_choose at hf
  refine lv_iconst (v := 0) S.1 S.2.1 dX0_choose_0 (by decide) ?_
  refine lv_istore_n (lv' := [(2, .int 0), (0, .ref a_c), (1, .int p1)]) S.1 S.2.1 dX0_choose_1 rfl hl (by decide) rfl (fun ls hl => ?_)
  obtain ⟨kk_65_2, ekk_65_2, hf⟩ := jn_s hf
  have hJ_kk_65_2 : ∀ (c_bestGain_1 : Nat → Int32) (c_bestMark_2 : Nat → Int64) (H : Heap) (locs : List Loc) (ls : Array Slot), Wo E A s [oC a_c 0 [.ref a_r, .ref a_c_gain, .ref a_c_mark, .ref a_c_bestGain, .ref a_c_bestMark], oC a_r 7 [.ref a_r_slots, .ref a_r_slotOf, .ref a_r_sets, .ref a_r_later, .ref a_r_laters, .int r_mayLeave, .int r_amount], aI E a_r_slots 4096 r_slots, aI E a_r_slotOf 2584 r_slotOf, aI E a_r_sets 2584 r_sets, aI E a_r_later 256 r_later, aI E a_r_laters 16 r_laters, aI E a_c_gain 256 c_gain, aJ E a_c_mark 256 c_mark, aI E a_c_bestGain 2584 c_bestGain_1, aJ E a_c_bestMark 2584 c_bestMark_2] H locs → lv_has ls 4 [] → kk_65_2 c_bestGain_1 c_bestMark_2 = some (u_c_bestGain, u_c_bestMark) → W p l e (Rm 3) s m (([.ref a_c, .int p1] : List Value).toArray) below meth c H locs 0 0 Q (F0 m 65 ls []) := by
    intro c_bestGain_1 c_bestMark_2 H locs ls hw hl hf
    rw [ekk_65_2] at hf
    cases hf
    exact hE _ _ _ _ hw dX0_choose_65
  have hL_2_15 : ∀ (n : Nat) (v2_4 : Int32) (c_bestGain_5 : Nat → Int32) (c_bestMark_6 : Nat → Int64) (H : Heap) (locs : List Loc) (ls : Array Slot), Wo E A s [oC a_c 0 [.ref a_r, .ref a_c_gain, .ref a_c_mark, .ref a_c_bestGain, .ref a_c_bestMark], oC a_r 7 [.ref a_r_slots, .ref a_r_slotOf, .ref a_r_sets, .ref a_r_later, .ref a_r_laters, .int r_mayLeave, .int r_amount], aI E a_r_slots 4096 r_slots, aI E a_r_slotOf 2584 r_slotOf, aI E a_r_sets 2584 r_sets, aI E a_r_later 256 r_later, aI E a_r_laters 16 r_laters, aI E a_c_gain 256 c_gain, aJ E a_c_mark 256 c_mark, aI E a_c_bestGain 2584 c_bestGain_5, aJ E a_c_bestMark 2584 c_bestMark_6] H locs → lv_has ls 4 [(0, .ref a_c), (1, .int p1), (2, .int v2_4)] → f_X0_choose_L2 F r_slots r_slotOf r_sets r_later r_laters r_amount c_gain c_mark p1 kk_65_2 n v2_4 c_bestGain_5 c_bestMark_6 = some (u_c_bestGain, u_c_bestMark) → W p l e (Rm 3) s m (([.ref a_c, .int p1] : List Value).toArray) below meth c H locs 0 0 Q (F0 m 2 ls []) := by
    intro n
    induction n with
    | zero => intro v2_4 c_bestGain_5 c_bestMark_6 H locs ls hw hl hf; unfold f_X0_choose_L2 at hf; cases hf
    | succ n ih =>
      intro v2_4 c_bestGain_5 c_bestMark_6 H locs ls hw hl hf
      unfold f_X0_choose_L2 at hf
      refine lv_iload_n S.1 S.2.1 dX0_choose_2 rfl (lv_at hl 2 rfl) ?_
      refine lv_aload_n S.1 S.2.1 dX0_choose_3 rfl (lv_at hl 0 rfl) ?_
      refine g_get S hN hw (C := RX0) (T := TX0) (N := 5) (ci := 0) (v := .ref a_r) 0 0 iX0 k12 dX0_choose_4 rfl rfl (by decide) rfl ?_
      refine g_getN S hN hw (C := RX7) (T := TX7) (N := 7) (ci := 7) (v := .int r_amount) 1 6 iX7 w46 dX0_choose_7 rfl rfl (by decide) rfl ?_
      refine lv_icmp_ge (tgt := 65) S.1 S.2.1 dX0_choose_10 (by decide) (fun h_7 => ?_) (fun h_7 => ?_)
      · replace hf := if_t h_7 hf
        exact hJ_kk_65_2 c_bestGain_5 c_bestMark_6 _ _ _ hw (lv_sub hl [] rfl) hf
      · replace hf := if_f h_7 hf
        refine lv_aload_n S.1 S.2.1 dX0_choose_13 rfl (lv_at hl 0 rfl) ?_
        refine g_get S hN hw (C := RX0) (T := TX0) (N := 5) (ci := 0) (v := .ref a_r) 0 0 iX0 k12 dX0_choose_14 rfl rfl (by decide) rfl ?_
        refine g_getN S hN hw (C := RX7) (T := TX7) (N := 7) (ci := 7) (v := .ref a_r_sets) 1 2 iX7 w50 dX0_choose_17 rfl rfl (by decide) rfl ?_
        refine lv_iload_n S.1 S.2.1 dX0_choose_20 rfl (lv_at hl 2 rfl) ?_
        obtain ⟨hi_7, hf⟩ := rd_s hf
        refine g_iald (n := 2584) (f := r_sets) S hN hw 4 hi_7 dX0_choose_21 rfl ?_
        generalize r_sets (v2_4 : Int32).toNatClampNeg = y_8 at hf ⊢
        refine lv_istore_n (lv' := [(3, .int y_8), (0, .ref a_c), (1, .int p1), (2, .int v2_4)]) S.1 S.2.1 dX0_choose_22 rfl hl (by decide) rfl (fun ls hl => ?_)
        refine lv_aload_n S.1 S.2.1 dX0_choose_23 rfl (lv_at hl 1 rfl) ?_
        refine g_get S hN hw (C := RX0) (T := TX0) (N := 5) (ci := 0) (v := .ref a_c_bestMark) 0 4 iX0 k29 dX0_choose_24 rfl rfl (by decide) rfl ?_
        refine lv_iload_n S.1 S.2.1 dX0_choose_27 rfl (lv_at hl 3 rfl) ?_
        refine lv_lconst (v := 0) S.1 S.2.1 dX0_choose_28 (by decide) ?_
        obtain ⟨hi_8, hf⟩ := wr_s hf
        refine g_last (n := 2584) (f := c_bestMark_6) (w1 := [oC a_c 0 [.ref a_r, .ref a_c_gain, .ref a_c_mark, .ref a_c_bestGain, .ref a_c_bestMark], oC a_r 7 [.ref a_r_slots, .ref a_r_slotOf, .ref a_r_sets, .ref a_r_later, .ref a_r_laters, .int r_mayLeave, .int r_amount], aI E a_r_slots 4096 r_slots, aI E a_r_slotOf 2584 r_slotOf, aI E a_r_sets 2584 r_sets, aI E a_r_later 256 r_later, aI E a_r_laters 16 r_laters, aI E a_c_gain 256 c_gain, aJ E a_c_mark 256 c_mark, aI E a_c_bestGain 2584 c_bestGain_5, aJ E a_c_bestMark 2584 (va_up c_bestMark_6 (v2_4 : Int32).toNatClampNeg (0 : Int64))]) S hN hw 10 hi_8 dX0_choose_29 rfl rfl (fun H locs hw => ?_)
        generalize va_up c_bestMark_6 (v2_4 : Int32).toNatClampNeg (0 : Int64) = c_bestMark_9 at hf hw
        refine lv_iload_n S.1 S.2.1 dX0_choose_30 rfl (lv_at hl 0 rfl) ?_
        refine lv_if_ne (tgt := 44) S.1 S.2.1 dX0_choose_31 (by decide) (fun h_10 => ?_) (fun h_10 => ?_)
        · replace hf := if_f h_10 hf
          refine lv_aload_n S.1 S.2.1 dX0_choose_44 rfl (lv_at hl 1 rfl) ?_
          refine g_get S hN hw (C := RX0) (T := TX0) (N := 5) (ci := 0) (v := .ref a_c_bestGain) 0 3 iX0 k26 dX0_choose_45 rfl rfl (by decide) rfl ?_
          refine lv_iload_n S.1 S.2.1 dX0_choose_48 rfl (lv_at hl 3 rfl) ?_
          refine lv_ldc (v := (-1000000000)) S.1 S.2.1 S.2.2.2.1 k32 dX0_choose_49 ?_
          obtain ⟨hi_10, hf⟩ := wr_s hf
          refine g_iast (n := 2584) (f := c_bestGain_5) (w1 := [oC a_c 0 [.ref a_r, .ref a_c_gain, .ref a_c_mark, .ref a_c_bestGain, .ref a_c_bestMark], oC a_r 7 [.ref a_r_slots, .ref a_r_slotOf, .ref a_r_sets, .ref a_r_later, .ref a_r_laters, .int r_mayLeave, .int r_amount], aI E a_r_slots 4096 r_slots, aI E a_r_slotOf 2584 r_slotOf, aI E a_r_sets 2584 r_sets, aI E a_r_later 256 r_later, aI E a_r_laters 16 r_laters, aI E a_c_gain 256 c_gain, aJ E a_c_mark 256 c_mark, aI E a_c_bestGain 2584 (va_up c_bestGain_5 (v2_4 : Int32).toNatClampNeg (-1000000000)), aJ E a_c_bestMark 2584 c_bestMark_9]) S hN hw 9 hi_10 dX0_choose_51 rfl rfl (fun H locs hw => ?_)
          generalize va_up c_bestGain_5 (v2_4 : Int32).toNatClampNeg (-1000000000) = c_bestGain_11 at hf hw
          refine lv_aload_n S.1 S.2.1 dX0_choose_52 rfl (lv_at hl 1 rfl) ?_
          refine lv_iload_n S.1 S.2.1 dX0_choose_53 rfl (lv_at hl 3 rfl) ?_
          refine lv_iload_n S.1 S.2.1 dX0_choose_54 rfl (lv_at hl 0 rfl) ?_
          refine lv_iload_n S.1 S.2.1 dX0_choose_55 rfl (lv_at hl 2 rfl) ?_
          obtain ⟨c_bestGain_12, c_bestMark_13, hc_13, hf⟩ := bd2_s hf
          refine g_callv (wc := [oC a_c 0 [.ref a_r, .ref a_c_gain, .ref a_c_mark, .ref a_c_bestGain, .ref a_c_bestMark], oC a_r 7 [.ref a_r_slots, .ref a_r_slotOf, .ref a_r_sets, .ref a_r_later, .ref a_r_laters, .int r_mayLeave, .int r_amount], aI E a_r_slots 4096 r_slots, aI E a_r_slotOf 2584 r_slotOf, aI E a_r_sets 2584 r_sets, aI E a_r_later 256 r_later, aI E a_r_laters 16 r_laters, aI E a_c_gain 256 c_gain, aJ E a_c_mark 256 c_mark, aI E a_c_bestGain 2584 c_bestGain_11, aJ E a_c_bestMark 2584 c_bestMark_9]) (wr := []) (w1 := [oC a_c 0 [.ref a_r, .ref a_c_gain, .ref a_c_mark, .ref a_c_bestGain, .ref a_c_bestMark], oC a_r 7 [.ref a_r_slots, .ref a_r_slotOf, .ref a_r_sets, .ref a_r_later, .ref a_r_laters, .int r_mayLeave, .int r_amount], aI E a_r_slots 4096 r_slots, aI E a_r_slotOf 2584 r_slotOf, aI E a_r_sets 2584 r_sets, aI E a_r_later 256 r_later, aI E a_r_laters 16 r_laters, aI E a_c_gain 256 c_gain, aJ E a_c_mark 256 c_mark, aI E a_c_bestGain 2584 c_bestGain_12, aJ E a_c_bestMark 2584 c_bestMark_13]) (va_runV (As := [.int v2_4, .int y_8, .int p1]) (rest := []) S (c_X0_chooseFor l E F r_slots a_r_slots r_slotOf a_r_slotOf r_sets a_r_sets r_later a_r_later r_laters a_r_laters r_mayLeave r_amount a_r c_gain a_c_gain c_mark a_c_mark c_bestGain_11 a_c_bestGain c_bestMark_9 a_c_bestMark a_c v2_4 y_8 p1 c_bestGain_12 c_bestMark_13 hc_13 _) (cwV 3 S.2.2.2.2 gX0_choose_X0_chooseFor rfl rfl rfl (by decide +kernel) (rm_le (by omega) (by decide))) (preV (q := (RX0, TX0, 5)) hN hw [0, 1, 2, 3, 4, 5, 6, 7, 8, 9, 10] rfl rfl rfl rfl) rfl rfl hl.1 rfl (lv_room (Nat.le_of_ble_eq_true rfl)) dX0_choose_56 ⟨Nat.le_refl _, Nat.le_refl _⟩) hw hA [0, 1, 2, 3, 4, 5, 6, 7, 8, 9, 10] [] rfl rfl rfl (by decide) (fun H locs hw => ?_)
          have hw : Wo E A s [oC a_c 0 [.ref a_r, .ref a_c_gain, .ref a_c_mark, .ref a_c_bestGain, .ref a_c_bestMark], oC a_r 7 [.ref a_r_slots, .ref a_r_slotOf, .ref a_r_sets, .ref a_r_later, .ref a_r_laters, .int r_mayLeave, .int r_amount], aI E a_r_slots 4096 r_slots, aI E a_r_slotOf 2584 r_slotOf, aI E a_r_sets 2584 r_sets, aI E a_r_later 256 r_later, aI E a_r_laters 16 r_laters, aI E a_c_gain 256 c_gain, aJ E a_c_mark 256 c_mark, aI E a_c_bestGain 2584 c_bestGain_12, aJ E a_c_bestMark 2584 c_bestMark_13] H _ := hw
          refine lv_iinc (v := (v2_4 + 1)) (lv' := [(2, .int (v2_4 + 1)), (3, .int y_8), (0, .ref a_c), (1, .int p1)]) S.1 S.2.1 dX0_choose_59 hl (k := 3) rfl rfl (by decide) rfl (fun ls hl => ?_)
          refine lv_goto (tgt := 2) S.1 S.2.1 dX0_choose_62 (by decide) ?_
          exact ih (v2_4 + 1) c_bestGain_12 c_bestMark_13 _ _ _ hw (lv_sub hl [2, 3, 0] rfl) hf
        · replace hf := if_t h_10 hf
          refine lv_aload_n S.1 S.2.1 dX0_choose_34 rfl (lv_at hl 1 rfl) ?_
          refine g_get S hN hw (C := RX0) (T := TX0) (N := 5) (ci := 0) (v := .ref a_c_bestGain) 0 3 iX0 k26 dX0_choose_35 rfl rfl (by decide) rfl ?_
          refine lv_iload_n S.1 S.2.1 dX0_choose_38 rfl (lv_at hl 3 rfl) ?_
          refine lv_iconst (v := 0) S.1 S.2.1 dX0_choose_39 (by decide) ?_
          obtain ⟨hi_14, hf⟩ := wr_s hf
          refine g_iast (n := 2584) (f := c_bestGain_5) (w1 := [oC a_c 0 [.ref a_r, .ref a_c_gain, .ref a_c_mark, .ref a_c_bestGain, .ref a_c_bestMark], oC a_r 7 [.ref a_r_slots, .ref a_r_slotOf, .ref a_r_sets, .ref a_r_later, .ref a_r_laters, .int r_mayLeave, .int r_amount], aI E a_r_slots 4096 r_slots, aI E a_r_slotOf 2584 r_slotOf, aI E a_r_sets 2584 r_sets, aI E a_r_later 256 r_later, aI E a_r_laters 16 r_laters, aI E a_c_gain 256 c_gain, aJ E a_c_mark 256 c_mark, aI E a_c_bestGain 2584 (va_up c_bestGain_5 (v2_4 : Int32).toNatClampNeg 0), aJ E a_c_bestMark 2584 c_bestMark_9]) S hN hw 9 hi_14 dX0_choose_40 rfl rfl (fun H locs hw => ?_)
          generalize va_up c_bestGain_5 (v2_4 : Int32).toNatClampNeg 0 = c_bestGain_15 at hf hw
          refine lv_goto (tgt := 59) S.1 S.2.1 dX0_choose_41 (by decide) ?_
          refine lv_iinc (v := (v2_4 + 1)) (lv' := [(2, .int (v2_4 + 1)), (3, .int y_8), (0, .ref a_c), (1, .int p1)]) S.1 S.2.1 dX0_choose_59 hl (k := 3) rfl rfl (by decide) rfl (fun ls hl => ?_)
          refine lv_goto (tgt := 2) S.1 S.2.1 dX0_choose_62 (by decide) ?_
          exact ih (v2_4 + 1) c_bestGain_15 c_bestMark_9 _ _ _ hw (lv_sub hl [2, 3, 0] rfl) hf
  exact hL_2_15 F 0 c_bestGain c_bestMark _ _ _ hw (lv_sub hl [1, 2, 0] rfl) hf
def f_X0_found (r_amount : Int32) (c_bestGain : Nat → Int32) : Option (Int32) :=
  (if r_amount ≤ 0 then some 0 else rd 2584 c_bestGain (r_amount - 1) (fun y_2 => (if y_2 = (-1000000000) then some 0 else some 1)))
set_option maxHeartbeats 4000000 in
set_option maxRecDepth 100000 in
theorem c_X0_found (l : Launch) (E : Ev) (a_r_slots : Nat) (a_r_slotOf : Nat) (a_r_sets : Nat) (a_r_later : Nat) (a_r_laters : Nat) (r_mayLeave : Int32) (r_amount : Int32) (a_r : Nat) (a_c_gain : Nat) (a_c_mark : Nat) (c_bestGain : Nat → Int32) (a_c_bestGain : Nat) (a_c_bestMark : Nat) (a_c : Nat) (ro : Int32) (hf : f_X0_found r_amount c_bestGain = some ro) :
    CtI l yX0_found wsX0_found (Rm 0) E [.ref a_c] [oC a_c 0 [.ref a_r, .ref a_c_gain, .ref a_c_mark, .ref a_c_bestGain, .ref a_c_bestMark], oC a_r 7 [.ref a_r_slots, .ref a_r_slotOf, .ref a_r_sets, .ref a_r_later, .ref a_r_laters, .int r_mayLeave, .int r_amount], aI E a_c_bestGain 2584 c_bestGain] ro [oC a_c 0 [.ref a_r, .ref a_c_gain, .ref a_c_mark, .ref a_c_bestGain, .ref a_c_bestMark], oC a_r 7 [.ref a_r_slots, .ref a_r_slotOf, .ref a_r_sets, .ref a_r_later, .ref a_r_laters, .int r_mayLeave, .int r_amount], aI E a_c_bestGain 2584 c_bestGain] := by
  refine ofZ (cc := cX0_found) (maxL := 1) (own := RX0) rfl rfl (by decide) rfl rfl ?_
  intro p e s m below meth c A ls Q S hnm hN hw hA hl0 hE
  have hl : lv_has ls 1 [(0, .ref a_c)] := hl0 _ (lv_entry [.ref a_c] (n := 1) (Nat.le_of_ble_eq_true rfl))
  have iX0 : ∀ w ∈ wsX00, w ∈ wsX0_found := by decide +kernel
  have iX7 : ∀ w ∈ wsX70, w ∈ wsX0_found := by decide +kernel
  have k12 := S.2.2.2.2 (.fieldLink RX0 12 "PairMatching$Chooser" "rests" "LPairMatching$Rests;") (by decide +kernel)
  have k26 := S.2.2.2.2 (.fieldLink RX0 26 "PairMatching$Chooser" "bestGain" "[I") (by decide +kernel)
  have k32 := S.2.2.2.2 (.constant RX0 32 (-1000000000)) (by decide +kernel)
  have w46 : Cond.fieldLinkNest RX0 46 "PairMatching$Rests" "amount" "I" "PairMatching" ∈ nestW := List.mem_of_getElem? (i := 52) rfl
  unfold f_X0_found at hf
  refine lv_aload_n S.1 S.2.1 dX0_found_0 rfl (lv_at hl 0 rfl) ?_
  refine g_get S hN hw (C := RX0) (T := TX0) (N := 5) (ci := 0) (v := .ref a_r) 0 0 iX0 k12 dX0_found_1 rfl rfl (by decide) rfl ?_
  refine g_getN S hN hw (C := RX7) (T := TX7) (N := 7) (ci := 7) (v := .int r_amount) 1 6 iX7 w46 dX0_found_4 rfl rfl (by decide) rfl ?_
  refine lv_if_le (tgt := 33) S.1 S.2.1 dX0_found_7 (by decide) (fun h_1 => ?_) (fun h_1 => ?_)
  · replace hf := if_t h_1 hf
    refine lv_iconst (v := 0) S.1 S.2.1 dX0_found_33 (by decide) ?_
    cases hf
    exact hE _ _ _ _ hw dX0_found_34 (by decide)
  · replace hf := if_f h_1 hf
    refine lv_aload_n S.1 S.2.1 dX0_found_10 rfl (lv_at hl 0 rfl) ?_
    refine g_get S hN hw (C := RX0) (T := TX0) (N := 5) (ci := 0) (v := .ref a_c_bestGain) 0 3 iX0 k26 dX0_found_11 rfl rfl (by decide) rfl ?_
    refine lv_aload_n S.1 S.2.1 dX0_found_14 rfl (lv_at hl 0 rfl) ?_
    refine g_get S hN hw (C := RX0) (T := TX0) (N := 5) (ci := 0) (v := .ref a_r) 0 0 iX0 k12 dX0_found_15 rfl rfl (by decide) rfl ?_
    refine g_getN S hN hw (C := RX7) (T := TX7) (N := 7) (ci := 7) (v := .int r_amount) 1 6 iX7 w46 dX0_found_18 rfl rfl (by decide) rfl ?_
    refine lv_iconst (v := 1) S.1 S.2.1 dX0_found_21 (by decide) ?_
    refine lv_isub S.1 S.2.1 dX0_found_22 ?_
    obtain ⟨hi_1, hf⟩ := rd_s hf
    refine g_iald (n := 2584) (f := c_bestGain) S hN hw 2 hi_1 dX0_found_23 rfl ?_
    generalize c_bestGain ((r_amount - 1) : Int32).toNatClampNeg = y_2 at hf ⊢
    refine lv_ldc (v := (-1000000000)) S.1 S.2.1 S.2.2.2.1 k32 dX0_found_24 ?_
    refine lv_icmp_eq (tgt := 33) S.1 S.2.1 dX0_found_26 (by decide) (fun h_3 => ?_) (fun h_3 => ?_)
    · replace hf := if_t h_3 hf
      refine lv_iconst (v := 0) S.1 S.2.1 dX0_found_33 (by decide) ?_
      cases hf
      exact hE _ _ _ _ hw dX0_found_34 (by decide)
    · replace hf := if_f h_3 hf
      refine lv_iconst (v := 1) S.1 S.2.1 dX0_found_29 (by decide) ?_
      refine lv_goto (tgt := 34) S.1 S.2.1 dX0_found_30 (by decide) ?_
      cases hf
      exact hE _ _ _ _ hw dX0_found_34 (by decide)
def f_X0_chosen (r_amount : Int32) (c_bestMark : Nat → Int64) : Option (Int64) :=
  (if r_amount ≤ 0 then some (0 : Int64) else rd 2584 c_bestMark (r_amount - 1) (fun y_2 => some y_2))
set_option maxHeartbeats 4000000 in
set_option maxRecDepth 100000 in
theorem c_X0_chosen (l : Launch) (E : Ev) (a_r_slots : Nat) (a_r_slotOf : Nat) (a_r_sets : Nat) (a_r_later : Nat) (a_r_laters : Nat) (r_mayLeave : Int32) (r_amount : Int32) (a_r : Nat) (a_c_gain : Nat) (a_c_mark : Nat) (a_c_bestGain : Nat) (c_bestMark : Nat → Int64) (a_c_bestMark : Nat) (a_c : Nat) (ro : Int64) (hf : f_X0_chosen r_amount c_bestMark = some ro) :
    CtL l yX0_chosen wsX0_chosen (Rm 0) E [.ref a_c] [oC a_c 0 [.ref a_r, .ref a_c_gain, .ref a_c_mark, .ref a_c_bestGain, .ref a_c_bestMark], oC a_r 7 [.ref a_r_slots, .ref a_r_slotOf, .ref a_r_sets, .ref a_r_later, .ref a_r_laters, .int r_mayLeave, .int r_amount], aJ E a_c_bestMark 2584 c_bestMark] ro [oC a_c 0 [.ref a_r, .ref a_c_gain, .ref a_c_mark, .ref a_c_bestGain, .ref a_c_bestMark], oC a_r 7 [.ref a_r_slots, .ref a_r_slotOf, .ref a_r_sets, .ref a_r_later, .ref a_r_laters, .int r_mayLeave, .int r_amount], aJ E a_c_bestMark 2584 c_bestMark] := by
  refine ofL (cc := cX0_chosen) (maxL := 1) (own := RX0) rfl rfl (by decide) rfl rfl ?_
  intro p e s m below meth c A ls Q S hnm hN hw hA hl0 hE
  have hl : lv_has ls 1 [(0, .ref a_c)] := hl0 _ (lv_entry [.ref a_c] (n := 1) (Nat.le_of_ble_eq_true rfl))
  have iX0 : ∀ w ∈ wsX00, w ∈ wsX0_chosen := by decide +kernel
  have iX7 : ∀ w ∈ wsX70, w ∈ wsX0_chosen := by decide +kernel
  have k12 := S.2.2.2.2 (.fieldLink RX0 12 "PairMatching$Chooser" "rests" "LPairMatching$Rests;") (by decide +kernel)
  have k29 := S.2.2.2.2 (.fieldLink RX0 29 "PairMatching$Chooser" "bestMark" "[J") (by decide +kernel)
  have w46 : Cond.fieldLinkNest RX0 46 "PairMatching$Rests" "amount" "I" "PairMatching" ∈ nestW := List.mem_of_getElem? (i := 52) rfl
  unfold f_X0_chosen at hf
  refine lv_aload_n S.1 S.2.1 dX0_chosen_0 rfl (lv_at hl 0 rfl) ?_
  refine g_get S hN hw (C := RX0) (T := TX0) (N := 5) (ci := 0) (v := .ref a_r) 0 0 iX0 k12 dX0_chosen_1 rfl rfl (by decide) rfl ?_
  refine g_getN S hN hw (C := RX7) (T := TX7) (N := 7) (ci := 7) (v := .int r_amount) 1 6 iX7 w46 dX0_chosen_4 rfl rfl (by decide) rfl ?_
  refine lv_if_le (tgt := 27) S.1 S.2.1 dX0_chosen_7 (by decide) (fun h_1 => ?_) (fun h_1 => ?_)
  · replace hf := if_t h_1 hf
    refine lv_lconst (v := 0) S.1 S.2.1 dX0_chosen_27 (by decide) ?_
    cases hf
    exact hE _ _ _ _ hw dX0_chosen_28
  · replace hf := if_f h_1 hf
    refine lv_aload_n S.1 S.2.1 dX0_chosen_10 rfl (lv_at hl 0 rfl) ?_
    refine g_get S hN hw (C := RX0) (T := TX0) (N := 5) (ci := 0) (v := .ref a_c_bestMark) 0 4 iX0 k29 dX0_chosen_11 rfl rfl (by decide) rfl ?_
    refine lv_aload_n S.1 S.2.1 dX0_chosen_14 rfl (lv_at hl 0 rfl) ?_
    refine g_get S hN hw (C := RX0) (T := TX0) (N := 5) (ci := 0) (v := .ref a_r) 0 0 iX0 k12 dX0_chosen_15 rfl rfl (by decide) rfl ?_
    refine g_getN S hN hw (C := RX7) (T := TX7) (N := 7) (ci := 7) (v := .int r_amount) 1 6 iX7 w46 dX0_chosen_18 rfl rfl (by decide) rfl ?_
    refine lv_iconst (v := 1) S.1 S.2.1 dX0_chosen_21 (by decide) ?_
    refine lv_isub S.1 S.2.1 dX0_chosen_22 ?_
    obtain ⟨hi_1, hf⟩ := rd_s hf
    refine g_lald (n := 2584) (f := c_bestMark) S hN hw 2 hi_1 dX0_chosen_23 rfl ?_
    generalize c_bestMark ((r_amount - 1) : Int32).toNatClampNeg = y_2 at hf ⊢
    refine lv_goto (tgt := 28) S.1 S.2.1 dX0_chosen_24 (by decide) ?_
    cases hf
    exact hE _ _ _ _ hw dX0_chosen_28
def f_X1_countArcs_L10 (g_made : Int32) (g_oneEnd : Nat → Int32) (g_otherEnd : Nat → Int32) (g_alive : Nat → Int32) (kk_99_3 : (Nat → Int32) → Option ((Nat → Int32))) : Nat → Int32 → (Nat → Int32) → Option ((Nat → Int32))
  | 0, _, _ => none
  | n + 1, v1_5, n_several_6 => (if g_made ≤ v1_5 then (kk_99_3 n_several_6) else rd 60 g_alive v1_5 (fun y_8 => (if y_8 = 0 then (f_X1_countArcs_L10 g_made g_oneEnd g_otherEnd g_alive kk_99_3 n (v1_5 + 1) n_several_6) else rd 60 g_oneEnd v1_5 (fun y_10 => rd 60 g_otherEnd v1_5 (fun y_11 => rd 256 n_several_6 (f_X11_cell y_10 y_11) (fun y_14 => wr 256 n_several_6 (f_X11_cell y_10 y_11) (y_14 + 1) (fun n_several_15 => rd 60 g_otherEnd v1_5 (fun y_16 => rd 60 g_oneEnd v1_5 (fun y_17 => rd 256 n_several_15 (f_X11_cell y_16 y_17) (fun y_20 => wr 256 n_several_15 (f_X11_cell y_16 y_17) (y_20 + 1) (fun n_several_21 => (f_X1_countArcs_L10 g_made g_oneEnd g_otherEnd g_alive kk_99_3 n (v1_5 + 1) n_several_21))))))))))))
def f_X1_countArcs (F : Nat) (g_made : Int32) (g_oneEnd : Nat → Int32) (g_otherEnd : Nat → Int32) (g_alive : Nat → Int32) (n_several : Nat → Int32) : Option ((Nat → Int32)) :=
  (f_J7_fill_53178 F 0 n_several 256).bind (fun p1_1 => (jn (fun (n_several_3 : Nat → Int32) => some n_several_3) (fun kk_99_3 => (f_X1_countArcs_L10 g_made g_oneEnd g_otherEnd g_alive kk_99_3 F 0 p1_1))))
set_option maxHeartbeats 4000000 in
set_option maxRecDepth 100000 in
theorem c_X1_countArcs (l : Launch) (E : Ev) (F : Nat) (g_nodes : Int32) (g_made : Int32) (g_living : Int32) (g_age : Int32) (g_oneEnd : Nat → Int32) (a_g_oneEnd : Nat) (g_otherEnd : Nat → Int32) (a_g_otherEnd : Nat) (a_g_weights : Nat) (g_alive : Nat → Int32) (a_g_alive : Nat) (a_g_joined : Nat) (a_g : Nat) (n_several : Nat → Int32) (a_n_several : Nat) (a_n_numbers : Nat) (n_last : Int32) (n_age : Int32) (a_n : Nat) (u_n_several : Nat → Int32) (hf : f_X1_countArcs F g_made g_oneEnd g_otherEnd g_alive n_several = some u_n_several) :
    CtV l yX1_countArcs wsX1_countArcs (Rm 1) E [.ref a_n] [oC a_n 1 [.ref a_g, .ref a_n_several, .ref a_n_numbers, .int n_last, .int n_age], oC a_g 2 [.int g_nodes, .int g_made, .int g_living, .int g_age, .ref a_g_oneEnd, .ref a_g_otherEnd, .ref a_g_weights, .ref a_g_alive, .ref a_g_joined], aI E a_g_oneEnd 60 g_oneEnd, aI E a_g_otherEnd 60 g_otherEnd, aZ E a_g_alive 60 g_alive, aI E a_n_several 256 n_several] [oC a_n 1 [.ref a_g, .ref a_n_several, .ref a_n_numbers, .int n_last, .int n_age], oC a_g 2 [.int g_nodes, .int g_made, .int g_living, .int g_age, .ref a_g_oneEnd, .ref a_g_otherEnd, .ref a_g_weights, .ref a_g_alive, .ref a_g_joined], aI E a_g_oneEnd 60 g_oneEnd, aI E a_g_otherEnd 60 g_otherEnd, aZ E a_g_alive 60 g_alive, aI E a_n_several 256 u_n_several] := by
  refine ofV (cc := cX1_countArcs) (maxL := 2) (own := RX1) rfl rfl (by decide) rfl rfl ?_
  intro p e s m below meth c A ls Q S hnm hN hw hA hl0 hE
  have hl : lv_has ls 2 [(0, .ref a_n)] := hl0 _ (lv_entry [.ref a_n] (n := 2) (Nat.le_of_ble_eq_true rfl))
  have iX1 : ∀ w ∈ wsX10, w ∈ wsX1_countArcs := by decide +kernel
  have iX2 : ∀ w ∈ wsX20, w ∈ wsX1_countArcs := by decide +kernel
  have k28 := S.2.2.2.2 (.fieldLink RX1 28 "PairMatching$Counts" "graph" "LPairMatching$Graph;") (by decide +kernel)
  have k9 := S.2.2.2.2 (.fieldLink RX1 9 "PairMatching$Counts" "several" "[I") (by decide +kernel)
  have kIX11 := S.2.2.2.2 (.initialized RX11) (by decide +kernel)
  have kSX11_cell := S.2.2.2.2 (.static yX11_cell) (by decide +kernel)
  have w51 : Cond.fieldLinkNest RX1 51 "PairMatching$Graph" "made" "I" "PairMatching" ∈ nestW := List.mem_of_getElem? (i := 8) rfl
  have w54 : Cond.fieldLinkNest RX1 54 "PairMatching$Graph" "alive" "[Z" "PairMatching" ∈ nestW := List.mem_of_getElem? (i := 29) rfl
  have w58 : Cond.fieldLinkNest RX1 58 "PairMatching$Graph" "oneEnd" "[I" "PairMatching" ∈ nestW := List.mem_of_getElem? (i := 19) rfl
  have w61 : Cond.fieldLinkNest RX1 61 "PairMatching$Graph" "otherEnd" "[I" "PairMatching" ∈ nestW := List.mem_of_getElem? (i := 23) rfl
  have w64 : Cond.methodLinkNest RX1 64 yX11_cell "PairMatching" ∈ nestW := List.mem_of_getElem? (i := 79) rfl
  unfold f_X1_countArcs at hf
  refine lv_aload_n S.1 S.2.1 dX1_countArcs_0 rfl (lv_at hl 0 rfl) ?_
  refine g_get S hN hw (C := RX1) (T := TX1) (N := 5) (ci := 1) (v := .ref a_n_several) 0 1 iX1 k9 dX1_countArcs_1 rfl rfl (by decide) rfl ?_
  refine lv_iconst (v := 0) S.1 S.2.1 dX1_countArcs_4 (by decide) ?_
  obtain ⟨p1_1, hc_1, hf⟩ := bd_s hf
  refine g_callv (wc := [aI E a_n_several 256 n_several]) (wr := [oC a_n 1 [.ref a_g, .ref a_n_several, .ref a_n_numbers, .int n_last, .int n_age], oC a_g 2 [.int g_nodes, .int g_made, .int g_living, .int g_age, .ref a_g_oneEnd, .ref a_g_otherEnd, .ref a_g_weights, .ref a_g_alive, .ref a_g_joined], aI E a_g_oneEnd 60 g_oneEnd, aI E a_g_otherEnd 60 g_otherEnd, aZ E a_g_alive 60 g_alive]) (w1 := [aI E a_n_several 256 p1_1]) (va_runS (As := [.ref a_n_several, .int 0]) (rest := []) S (c_J7_fill_53178 l E F a_n_several n_several 256 0 p1_1 hc_1 _) (va_cwS 2 S.2.2.2.2 gX1_countArcs_J7_fill_53178 rfl rfl rfl (by decide +kernel) (rm_le (by omega) (by decide))) (preS hN hw [5] rfl rfl) rfl rfl hl.1 rfl (lv_room (Nat.le_of_ble_eq_true rfl)) dX1_countArcs_5 ⟨Nat.le_refl _, Nat.le_refl _⟩) hw hA [5] [0, 1, 2, 3, 4] rfl rfl rfl (by decide) (fun H locs hw => ?_)
  have hw : Wo E A s [oC a_n 1 [.ref a_g, .ref a_n_several, .ref a_n_numbers, .int n_last, .int n_age], oC a_g 2 [.int g_nodes, .int g_made, .int g_living, .int g_age, .ref a_g_oneEnd, .ref a_g_otherEnd, .ref a_g_weights, .ref a_g_alive, .ref a_g_joined], aI E a_g_oneEnd 60 g_oneEnd, aI E a_g_otherEnd 60 g_otherEnd, aZ E a_g_alive 60 g_alive, aI E a_n_several 256 p1_1] H _ := hw
  refine lv_iconst (v := 0) S.1 S.2.1 dX1_countArcs_8 (by decide) ?_
  refine lv_istore_n (lv' := [(1, .int 0), (0, .ref a_n)]) S.1 S.2.1 dX1_countArcs_9 rfl hl (by decide) rfl (fun ls hl => ?_)
  obtain ⟨kk_99_3, ekk_99_3, hf⟩ := jn_s hf
  have hJ_kk_99_3 : ∀ (n_several_3 : Nat → Int32) (H : Heap) (locs : List Loc) (ls : Array Slot), Wo E A s [oC a_n 1 [.ref a_g, .ref a_n_several, .ref a_n_numbers, .int n_last, .int n_age], oC a_g 2 [.int g_nodes, .int g_made, .int g_living, .int g_age, .ref a_g_oneEnd, .ref a_g_otherEnd, .ref a_g_weights, .ref a_g_alive, .ref a_g_joined], aI E a_g_oneEnd 60 g_oneEnd, aI E a_g_otherEnd 60 g_otherEnd, aZ E a_g_alive 60 g_alive, aI E a_n_several 256 n_several_3] H locs → lv_has ls 2 [] → kk_99_3 n_several_3 = some u_n_several → W p l e (Rm 1) s m (([.ref a_n] : List Value).toArray) below meth c H locs 0 0 Q (F0 m 99 ls []) := by
    intro n_several_3 H locs ls hw hl hf
    rw [ekk_99_3] at hf
    cases hf
    exact hE _ _ _ _ hw dX1_countArcs_99
  have hL_10_21 : ∀ (n : Nat) (v1_5 : Int32) (n_several_6 : Nat → Int32) (H : Heap) (locs : List Loc) (ls : Array Slot), Wo E A s [oC a_n 1 [.ref a_g, .ref a_n_several, .ref a_n_numbers, .int n_last, .int n_age], oC a_g 2 [.int g_nodes, .int g_made, .int g_living, .int g_age, .ref a_g_oneEnd, .ref a_g_otherEnd, .ref a_g_weights, .ref a_g_alive, .ref a_g_joined], aI E a_g_oneEnd 60 g_oneEnd, aI E a_g_otherEnd 60 g_otherEnd, aZ E a_g_alive 60 g_alive, aI E a_n_several 256 n_several_6] H locs → lv_has ls 2 [(0, .ref a_n), (1, .int v1_5)] → f_X1_countArcs_L10 g_made g_oneEnd g_otherEnd g_alive kk_99_3 n v1_5 n_several_6 = some u_n_several → W p l e (Rm 1) s m (([.ref a_n] : List Value).toArray) below meth c H locs 0 0 Q (F0 m 10 ls []) := by
    intro n
    induction n with
    | zero => intro v1_5 n_several_6 H locs ls hw hl hf; unfold f_X1_countArcs_L10 at hf; cases hf
    | succ n ih =>
      intro v1_5 n_several_6 H locs ls hw hl hf
      unfold f_X1_countArcs_L10 at hf
      refine lv_iload_n S.1 S.2.1 dX1_countArcs_10 rfl (lv_at hl 1 rfl) ?_
      refine lv_aload_n S.1 S.2.1 dX1_countArcs_11 rfl (lv_at hl 0 rfl) ?_
      refine g_get S hN hw (C := RX1) (T := TX1) (N := 5) (ci := 1) (v := .ref a_g) 0 0 iX1 k28 dX1_countArcs_12 rfl rfl (by decide) rfl ?_
      refine g_getN S hN hw (C := RX2) (T := TX2) (N := 9) (ci := 2) (v := .int g_made) 1 1 iX2 w51 dX1_countArcs_15 rfl rfl (by decide) rfl ?_
      refine lv_icmp_ge (tgt := 99) S.1 S.2.1 dX1_countArcs_18 (by decide) (fun h_7 => ?_) (fun h_7 => ?_)
      · replace hf := if_t h_7 hf
        exact hJ_kk_99_3 n_several_6 _ _ _ hw (lv_sub hl [] rfl) hf
      · replace hf := if_f h_7 hf
        refine lv_aload_n S.1 S.2.1 dX1_countArcs_21 rfl (lv_at hl 0 rfl) ?_
        refine g_get S hN hw (C := RX1) (T := TX1) (N := 5) (ci := 1) (v := .ref a_g) 0 0 iX1 k28 dX1_countArcs_22 rfl rfl (by decide) rfl ?_
        refine g_getN S hN hw (C := RX2) (T := TX2) (N := 9) (ci := 2) (v := .ref a_g_alive) 1 7 iX2 w54 dX1_countArcs_25 rfl rfl (by decide) rfl ?_
        refine lv_iload_n S.1 S.2.1 dX1_countArcs_28 rfl (lv_at hl 1 rfl) ?_
        obtain ⟨hi_7, hf⟩ := rd_s hf
        refine g_zald (n := 60) (f := g_alive) S hN hw 4 hi_7 dX1_countArcs_29 rfl ?_
        generalize g_alive (v1_5 : Int32).toNatClampNeg = y_8 at hf ⊢
        refine lv_if_eq (tgt := 93) S.1 S.2.1 dX1_countArcs_30 (by decide) (fun h_9 => ?_) (fun h_9 => ?_)
        · replace hf := if_t h_9 hf
          refine lv_iinc (v := (v1_5 + 1)) (lv' := [(1, .int (v1_5 + 1)), (0, .ref a_n)]) S.1 S.2.1 dX1_countArcs_93 hl (k := 1) rfl rfl (by decide) rfl (fun ls hl => ?_)
          refine lv_goto (tgt := 10) S.1 S.2.1 dX1_countArcs_96 (by decide) ?_
          exact ih (v1_5 + 1) n_several_6 _ _ _ hw (lv_sub hl [1, 0] rfl) hf
        · replace hf := if_f h_9 hf
          refine lv_aload_n S.1 S.2.1 dX1_countArcs_33 rfl (lv_at hl 0 rfl) ?_
          refine g_get S hN hw (C := RX1) (T := TX1) (N := 5) (ci := 1) (v := .ref a_n_several) 0 1 iX1 k9 dX1_countArcs_34 rfl rfl (by decide) rfl ?_
          refine lv_aload_n S.1 S.2.1 dX1_countArcs_37 rfl (lv_at hl 0 rfl) ?_
          refine g_get S hN hw (C := RX1) (T := TX1) (N := 5) (ci := 1) (v := .ref a_g) 0 0 iX1 k28 dX1_countArcs_38 rfl rfl (by decide) rfl ?_
          refine g_getN S hN hw (C := RX2) (T := TX2) (N := 9) (ci := 2) (v := .ref a_g_oneEnd) 1 4 iX2 w58 dX1_countArcs_41 rfl rfl (by decide) rfl ?_
          refine lv_iload_n S.1 S.2.1 dX1_countArcs_44 rfl (lv_at hl 1 rfl) ?_
          obtain ⟨hi_9, hf⟩ := rd_s hf
          refine g_iald (n := 60) (f := g_oneEnd) S hN hw 2 hi_9 dX1_countArcs_45 rfl ?_
          generalize g_oneEnd (v1_5 : Int32).toNatClampNeg = y_10 at hf ⊢
          refine lv_aload_n S.1 S.2.1 dX1_countArcs_46 rfl (lv_at hl 0 rfl) ?_
          refine g_get S hN hw (C := RX1) (T := TX1) (N := 5) (ci := 1) (v := .ref a_g) 0 0 iX1 k28 dX1_countArcs_47 rfl rfl (by decide) rfl ?_
          refine g_getN S hN hw (C := RX2) (T := TX2) (N := 9) (ci := 2) (v := .ref a_g_otherEnd) 1 5 iX2 w61 dX1_countArcs_50 rfl rfl (by decide) rfl ?_
          refine lv_iload_n S.1 S.2.1 dX1_countArcs_53 rfl (lv_at hl 1 rfl) ?_
          obtain ⟨hi_10, hf⟩ := rd_s hf
          refine g_iald (n := 60) (f := g_otherEnd) S hN hw 3 hi_10 dX1_countArcs_54 rfl ?_
          generalize g_otherEnd (v1_5 : Int32).toNatClampNeg = y_11 at hf ⊢
          refine g_calli (r := (f_X11_cell y_10 y_11)) (wc := []) (wr := [oC a_n 1 [.ref a_g, .ref a_n_several, .ref a_n_numbers, .int n_last, .int n_age], oC a_g 2 [.int g_nodes, .int g_made, .int g_living, .int g_age, .ref a_g_oneEnd, .ref a_g_otherEnd, .ref a_g_weights, .ref a_g_alive, .ref a_g_joined], aI E a_g_oneEnd 60 g_oneEnd, aI E a_g_otherEnd 60 g_otherEnd, aZ E a_g_alive 60 g_alive, aI E a_n_several 256 n_several_6]) (w1 := []) (va_runSN (As := [.int y_10, .int y_11]) (rest := [.ref a_n_several]) S (c_X11_cell l E y_10 y_11 (f_X11_cell y_10 y_11) rfl _) ⟨(va_cnB 2 S.2.2.2.2 gX1_countArcs_X11_cell_n64 rfl rfl rfl (hN.2 _ w64) kIX11 (by decide +kernel) (rm_le (by omega) (by decide))), kSX11_cell, trivial⟩ (preS hN hw [] rfl rfl) rfl rfl hl.1 rfl (lv_room (Nat.le_of_ble_eq_true rfl)) dX1_countArcs_55 ⟨Nat.le_refl _, Nat.le_refl _⟩) hw hA [] [0, 1, 2, 3, 4, 5] rfl rfl rfl (by decide) (fun H locs hw => ?_)
          have hw : Wo E A s [oC a_n 1 [.ref a_g, .ref a_n_several, .ref a_n_numbers, .int n_last, .int n_age], oC a_g 2 [.int g_nodes, .int g_made, .int g_living, .int g_age, .ref a_g_oneEnd, .ref a_g_otherEnd, .ref a_g_weights, .ref a_g_alive, .ref a_g_joined], aI E a_g_oneEnd 60 g_oneEnd, aI E a_g_otherEnd 60 g_otherEnd, aZ E a_g_alive 60 g_alive, aI E a_n_several 256 n_several_6] H _ := hw
          refine lv_dup2_11 S.1 S.2.1 dX1_countArcs_58 rfl rfl ?_
          obtain ⟨hi_13, hf⟩ := rd_s hf
          refine g_iald (n := 256) (f := n_several_6) S hN hw 5 hi_13 dX1_countArcs_59 rfl ?_
          generalize n_several_6 ((f_X11_cell y_10 y_11) : Int32).toNatClampNeg = y_14 at hf ⊢
          refine lv_iconst (v := 1) S.1 S.2.1 dX1_countArcs_60 (by decide) ?_
          refine lv_iadd S.1 S.2.1 dX1_countArcs_61 ?_
          obtain ⟨hi_14, hf⟩ := wr_s hf
          refine g_iast (n := 256) (f := n_several_6) (w1 := [oC a_n 1 [.ref a_g, .ref a_n_several, .ref a_n_numbers, .int n_last, .int n_age], oC a_g 2 [.int g_nodes, .int g_made, .int g_living, .int g_age, .ref a_g_oneEnd, .ref a_g_otherEnd, .ref a_g_weights, .ref a_g_alive, .ref a_g_joined], aI E a_g_oneEnd 60 g_oneEnd, aI E a_g_otherEnd 60 g_otherEnd, aZ E a_g_alive 60 g_alive, aI E a_n_several 256 (va_up n_several_6 ((f_X11_cell y_10 y_11) : Int32).toNatClampNeg (y_14 + 1))]) S hN hw 5 hi_14 dX1_countArcs_62 rfl rfl (fun H locs hw => ?_)
          generalize va_up n_several_6 ((f_X11_cell y_10 y_11) : Int32).toNatClampNeg (y_14 + 1) = n_several_15 at hf hw
          refine lv_aload_n S.1 S.2.1 dX1_countArcs_63 rfl (lv_at hl 0 rfl) ?_
          refine g_get S hN hw (C := RX1) (T := TX1) (N := 5) (ci := 1) (v := .ref a_n_several) 0 1 iX1 k9 dX1_countArcs_64 rfl rfl (by decide) rfl ?_
          refine lv_aload_n S.1 S.2.1 dX1_countArcs_67 rfl (lv_at hl 0 rfl) ?_
          refine g_get S hN hw (C := RX1) (T := TX1) (N := 5) (ci := 1) (v := .ref a_g) 0 0 iX1 k28 dX1_countArcs_68 rfl rfl (by decide) rfl ?_
          refine g_getN S hN hw (C := RX2) (T := TX2) (N := 9) (ci := 2) (v := .ref a_g_otherEnd) 1 5 iX2 w61 dX1_countArcs_71 rfl rfl (by decide) rfl ?_
          refine lv_iload_n S.1 S.2.1 dX1_countArcs_74 rfl (lv_at hl 1 rfl) ?_
          obtain ⟨hi_15, hf⟩ := rd_s hf
          refine g_iald (n := 60) (f := g_otherEnd) S hN hw 3 hi_15 dX1_countArcs_75 rfl ?_
          generalize g_otherEnd (v1_5 : Int32).toNatClampNeg = y_16 at hf ⊢
          refine lv_aload_n S.1 S.2.1 dX1_countArcs_76 rfl (lv_at hl 0 rfl) ?_
          refine g_get S hN hw (C := RX1) (T := TX1) (N := 5) (ci := 1) (v := .ref a_g) 0 0 iX1 k28 dX1_countArcs_77 rfl rfl (by decide) rfl ?_
          refine g_getN S hN hw (C := RX2) (T := TX2) (N := 9) (ci := 2) (v := .ref a_g_oneEnd) 1 4 iX2 w58 dX1_countArcs_80 rfl rfl (by decide) rfl ?_
          refine lv_iload_n S.1 S.2.1 dX1_countArcs_83 rfl (lv_at hl 1 rfl) ?_
          obtain ⟨hi_16, hf⟩ := rd_s hf
          refine g_iald (n := 60) (f := g_oneEnd) S hN hw 2 hi_16 dX1_countArcs_84 rfl ?_
          generalize g_oneEnd (v1_5 : Int32).toNatClampNeg = y_17 at hf ⊢
          refine g_calli (r := (f_X11_cell y_16 y_17)) (wc := []) (wr := [oC a_n 1 [.ref a_g, .ref a_n_several, .ref a_n_numbers, .int n_last, .int n_age], oC a_g 2 [.int g_nodes, .int g_made, .int g_living, .int g_age, .ref a_g_oneEnd, .ref a_g_otherEnd, .ref a_g_weights, .ref a_g_alive, .ref a_g_joined], aI E a_g_oneEnd 60 g_oneEnd, aI E a_g_otherEnd 60 g_otherEnd, aZ E a_g_alive 60 g_alive, aI E a_n_several 256 n_several_15]) (w1 := []) (va_runSN (As := [.int y_16, .int y_17]) (rest := [.ref a_n_several]) S (c_X11_cell l E y_16 y_17 (f_X11_cell y_16 y_17) rfl _) ⟨(va_cnB 2 S.2.2.2.2 gX1_countArcs_X11_cell_n64 rfl rfl rfl (hN.2 _ w64) kIX11 (by decide +kernel) (rm_le (by omega) (by decide))), kSX11_cell, trivial⟩ (preS hN hw [] rfl rfl) rfl rfl hl.1 rfl (lv_room (Nat.le_of_ble_eq_true rfl)) dX1_countArcs_85 ⟨Nat.le_refl _, Nat.le_refl _⟩) hw hA [] [0, 1, 2, 3, 4, 5] rfl rfl rfl (by decide) (fun H locs hw => ?_)
          have hw : Wo E A s [oC a_n 1 [.ref a_g, .ref a_n_several, .ref a_n_numbers, .int n_last, .int n_age], oC a_g 2 [.int g_nodes, .int g_made, .int g_living, .int g_age, .ref a_g_oneEnd, .ref a_g_otherEnd, .ref a_g_weights, .ref a_g_alive, .ref a_g_joined], aI E a_g_oneEnd 60 g_oneEnd, aI E a_g_otherEnd 60 g_otherEnd, aZ E a_g_alive 60 g_alive, aI E a_n_several 256 n_several_15] H _ := hw
          refine lv_dup2_11 S.1 S.2.1 dX1_countArcs_88 rfl rfl ?_
          obtain ⟨hi_19, hf⟩ := rd_s hf
          refine g_iald (n := 256) (f := n_several_15) S hN hw 5 hi_19 dX1_countArcs_89 rfl ?_
          generalize n_several_15 ((f_X11_cell y_16 y_17) : Int32).toNatClampNeg = y_20 at hf ⊢
          refine lv_iconst (v := 1) S.1 S.2.1 dX1_countArcs_90 (by decide) ?_
          refine lv_iadd S.1 S.2.1 dX1_countArcs_91 ?_
          obtain ⟨hi_20, hf⟩ := wr_s hf
          refine g_iast (n := 256) (f := n_several_15) (w1 := [oC a_n 1 [.ref a_g, .ref a_n_several, .ref a_n_numbers, .int n_last, .int n_age], oC a_g 2 [.int g_nodes, .int g_made, .int g_living, .int g_age, .ref a_g_oneEnd, .ref a_g_otherEnd, .ref a_g_weights, .ref a_g_alive, .ref a_g_joined], aI E a_g_oneEnd 60 g_oneEnd, aI E a_g_otherEnd 60 g_otherEnd, aZ E a_g_alive 60 g_alive, aI E a_n_several 256 (va_up n_several_15 ((f_X11_cell y_16 y_17) : Int32).toNatClampNeg (y_20 + 1))]) S hN hw 5 hi_20 dX1_countArcs_92 rfl rfl (fun H locs hw => ?_)
          generalize va_up n_several_15 ((f_X11_cell y_16 y_17) : Int32).toNatClampNeg (y_20 + 1) = n_several_21 at hf hw
          refine lv_iinc (v := (v1_5 + 1)) (lv' := [(1, .int (v1_5 + 1)), (0, .ref a_n)]) S.1 S.2.1 dX1_countArcs_93 hl (k := 1) rfl rfl (by decide) rfl (fun ls hl => ?_)
          refine lv_goto (tgt := 10) S.1 S.2.1 dX1_countArcs_96 (by decide) ?_
          exact ih (v1_5 + 1) n_several_21 _ _ _ hw (lv_sub hl [1, 0] rfl) hf
  exact hL_10_21 F 0 p1_1 _ _ _ hw (lv_sub hl [1, 0] rfl) hf
def f_X1_add_L9 (p1 : Int32) (p2 : Int32) (p3 : Int32) (p4 : Int64) (kk_58_2 : (Nat → Int64) → Option ((Nat → Int64))) : Nat → Int32 → (Nat → Int64) → Option ((Nat → Int64))
  | 0, _, _ => none
  | n + 1, v6_4, n_numbers_5 => (if 9 ≤ v6_4 then (kk_58_2 n_numbers_5) else rd 23256 n_numbers_5 (((p2 * 9) + v6_4) - p3) (fun y_7 => rd 23256 n_numbers_5 ((p1 * 9) + v6_4) (fun y_8 => wr 23256 n_numbers_5 ((p1 * 9) + v6_4) (y_8 + (p4 * y_7)) (fun n_numbers_9 => (f_X1_add_L9 p1 p2 p3 p4 kk_58_2 n (v6_4 + 1) n_numbers_9)))))
def f_X1_add (F : Nat) (p1 : Int32) (p2 : Int32) (p3 : Int32) (p4 : Int64) (n_numbers : Nat → Int64) : Option ((Nat → Int64)) :=
  (if p2 = (-1) then some n_numbers else (jn (fun (n_numbers_2 : Nat → Int64) => some n_numbers_2) (fun kk_58_2 => (f_X1_add_L9 p1 p2 p3 p4 kk_58_2 F p3 n_numbers))))
set_option maxHeartbeats 4000000 in
set_option maxRecDepth 100000 in
theorem c_X1_add (l : Launch) (E : Ev) (F : Nat) (a_g : Nat) (a_n_several : Nat) (n_numbers : Nat → Int64) (a_n_numbers : Nat) (n_last : Int32) (n_age : Int32) (a_n : Nat) (p1 : Int32) (p2 : Int32) (p3 : Int32) (p4 : Int64) (u_n_numbers : Nat → Int64) (hf : f_X1_add F p1 p2 p3 p4 n_numbers = some u_n_numbers) :
    CtV l yX1_add wsX1_add (Rm 0) E [.ref a_n, .int p1, .int p2, .int p3, .long p4] [oC a_n 1 [.ref a_g, .ref a_n_several, .ref a_n_numbers, .int n_last, .int n_age], aJ E a_n_numbers 23256 n_numbers] [oC a_n 1 [.ref a_g, .ref a_n_several, .ref a_n_numbers, .int n_last, .int n_age], aJ E a_n_numbers 23256 u_n_numbers] := by
  refine ofV (cc := cX1_add) (maxL := 9) (own := RX1) rfl rfl (by decide) rfl rfl ?_
  intro p e s m below meth c A ls Q S hnm hN hw hA hl0 hE
  have hl : lv_has ls 9 [(0, .ref a_n), (1, .int p1), (2, .int p2), (3, .int p3), (4, .long p4)] := hl0 _ (lv_entry [.ref a_n, .int p1, .int p2, .int p3, .long p4] (n := 9) (Nat.le_of_ble_eq_true rfl))
  have iX1 : ∀ w ∈ wsX10, w ∈ wsX1_add := by decide +kernel
  have k17 := S.2.2.2.2 (.fieldLink RX1 17 "PairMatching$Counts" "numbers" "[J") (by decide +kernel)
  unfold f_X1_add at hf
  refine lv_iload_n S.1 S.2.1 dX1_add_0 rfl (lv_at hl 2 rfl) ?_
  refine lv_iconst (v := (-1)) S.1 S.2.1 dX1_add_1 (by decide) ?_
  refine lv_icmp_ne (tgt := 6) S.1 S.2.1 dX1_add_2 (by decide) (fun h_1 => ?_) (fun h_1 => ?_)
  · replace hf := if_f h_1 hf
    refine lv_iload_n S.1 S.2.1 dX1_add_6 rfl (lv_at hl 3 rfl) ?_
    refine lv_istore (lv' := [(6, .int p3), (0, .ref a_n), (1, .int p1), (2, .int p2), (3, .int p3), (4, .long p4)]) S.1 S.2.1 dX1_add_7 hl (by decide) rfl (fun ls hl => ?_)
    obtain ⟨kk_58_2, ekk_58_2, hf⟩ := jn_s hf
    have hJ_kk_58_2 : ∀ (n_numbers_2 : Nat → Int64) (H : Heap) (locs : List Loc) (ls : Array Slot), Wo E A s [oC a_n 1 [.ref a_g, .ref a_n_several, .ref a_n_numbers, .int n_last, .int n_age], aJ E a_n_numbers 23256 n_numbers_2] H locs → lv_has ls 9 [] → kk_58_2 n_numbers_2 = some u_n_numbers → W p l e (Rm 0) s m (([.ref a_n, .int p1, .int p2, .int p3, .long p4] : List Value).toArray) below meth c H locs 0 0 Q (F0 m 58 ls []) := by
      intro n_numbers_2 H locs ls hw hl hf
      rw [ekk_58_2] at hf
      cases hf
      exact hE _ _ _ _ hw dX1_add_58
    have hL_9_9 : ∀ (n : Nat) (v6_4 : Int32) (n_numbers_5 : Nat → Int64) (H : Heap) (locs : List Loc) (ls : Array Slot), Wo E A s [oC a_n 1 [.ref a_g, .ref a_n_several, .ref a_n_numbers, .int n_last, .int n_age], aJ E a_n_numbers 23256 n_numbers_5] H locs → lv_has ls 9 [(0, .ref a_n), (1, .int p1), (2, .int p2), (3, .int p3), (4, .long p4), (6, .int v6_4)] → f_X1_add_L9 p1 p2 p3 p4 kk_58_2 n v6_4 n_numbers_5 = some u_n_numbers → W p l e (Rm 0) s m (([.ref a_n, .int p1, .int p2, .int p3, .long p4] : List Value).toArray) below meth c H locs 0 0 Q (F0 m 9 ls []) := by
      intro n
      induction n with
      | zero => intro v6_4 n_numbers_5 H locs ls hw hl hf; unfold f_X1_add_L9 at hf; cases hf
      | succ n ih =>
        intro v6_4 n_numbers_5 H locs ls hw hl hf
        unfold f_X1_add_L9 at hf
        refine lv_iload S.1 S.2.1 dX1_add_9 (lv_at hl 5 rfl) ?_
        refine lv_bipush (v := 9) S.1 S.2.1 dX1_add_11 (by decide) ?_
        refine lv_icmp_ge (tgt := 58) S.1 S.2.1 dX1_add_13 (by decide) (fun h_6 => ?_) (fun h_6 => ?_)
        · replace hf := if_t h_6 hf
          exact hJ_kk_58_2 n_numbers_5 _ _ _ hw (lv_sub hl [] rfl) hf
        · replace hf := if_f h_6 hf
          refine lv_aload_n S.1 S.2.1 dX1_add_16 rfl (lv_at hl 0 rfl) ?_
          refine g_get S hN hw (C := RX1) (T := TX1) (N := 5) (ci := 1) (v := .ref a_n_numbers) 0 2 iX1 k17 dX1_add_17 rfl rfl (by decide) rfl ?_
          refine lv_iload_n S.1 S.2.1 dX1_add_20 rfl (lv_at hl 2 rfl) ?_
          refine lv_bipush (v := 9) S.1 S.2.1 dX1_add_21 (by decide) ?_
          refine lv_imul S.1 S.2.1 dX1_add_23 ?_
          refine lv_iload S.1 S.2.1 dX1_add_24 (lv_at hl 5 rfl) ?_
          refine lv_iadd S.1 S.2.1 dX1_add_26 ?_
          refine lv_iload_n S.1 S.2.1 dX1_add_27 rfl (lv_at hl 3 rfl) ?_
          refine lv_isub S.1 S.2.1 dX1_add_28 ?_
          obtain ⟨hi_6, hf⟩ := rd_s hf
          refine g_lald (n := 23256) (f := n_numbers_5) S hN hw 1 hi_6 dX1_add_29 rfl ?_
          generalize n_numbers_5 ((((p2 * 9) + v6_4) - p3) : Int32).toNatClampNeg = y_7 at hf ⊢
          refine lv_lstore (lv' := [(7, .long y_7), (0, .ref a_n), (1, .int p1), (2, .int p2), (3, .int p3), (4, .long p4), (6, .int v6_4)]) S.1 S.2.1 dX1_add_30 hl (by decide) rfl (fun ls hl => ?_)
          refine lv_aload_n S.1 S.2.1 dX1_add_32 rfl (lv_at hl 1 rfl) ?_
          refine g_get S hN hw (C := RX1) (T := TX1) (N := 5) (ci := 1) (v := .ref a_n_numbers) 0 2 iX1 k17 dX1_add_33 rfl rfl (by decide) rfl ?_
          refine lv_iload_n S.1 S.2.1 dX1_add_36 rfl (lv_at hl 2 rfl) ?_
          refine lv_bipush (v := 9) S.1 S.2.1 dX1_add_37 (by decide) ?_
          refine lv_imul S.1 S.2.1 dX1_add_39 ?_
          refine lv_iload S.1 S.2.1 dX1_add_40 (lv_at hl 6 rfl) ?_
          refine lv_iadd S.1 S.2.1 dX1_add_42 ?_
          refine lv_dup2_11 S.1 S.2.1 dX1_add_43 rfl rfl ?_
          obtain ⟨hi_7, hf⟩ := rd_s hf
          refine g_lald (n := 23256) (f := n_numbers_5) S hN hw 1 hi_7 dX1_add_44 rfl ?_
          generalize n_numbers_5 (((p1 * 9) + v6_4) : Int32).toNatClampNeg = y_8 at hf ⊢
          refine lv_lload S.1 S.2.1 dX1_add_45 (lv_at hl 5 rfl) ?_
          refine lv_lload S.1 S.2.1 dX1_add_47 (lv_at hl 0 rfl) ?_
          refine lv_lmul S.1 S.2.1 dX1_add_49 ?_
          refine lv_ladd S.1 S.2.1 dX1_add_50 ?_
          obtain ⟨hi_8, hf⟩ := wr_s hf
          refine g_last (n := 23256) (f := n_numbers_5) (w1 := [oC a_n 1 [.ref a_g, .ref a_n_several, .ref a_n_numbers, .int n_last, .int n_age], aJ E a_n_numbers 23256 (va_up n_numbers_5 (((p1 * 9) + v6_4) : Int32).toNatClampNeg (y_8 + (p4 * y_7)))]) S hN hw 1 hi_8 dX1_add_51 rfl rfl (fun H locs hw => ?_)
          generalize va_up n_numbers_5 (((p1 * 9) + v6_4) : Int32).toNatClampNeg (y_8 + (p4 * y_7)) = n_numbers_9 at hf hw
          refine lv_iinc (v := (v6_4 + 1)) (lv' := [(6, .int (v6_4 + 1)), (7, .long y_7), (0, .ref a_n), (1, .int p1), (2, .int p2), (3, .int p3), (4, .long p4)]) S.1 S.2.1 dX1_add_52 hl (k := 6) rfl rfl (by decide) rfl (fun ls hl => ?_)
          refine lv_goto (tgt := 9) S.1 S.2.1 dX1_add_55 (by decide) ?_
          exact ih (v6_4 + 1) n_numbers_9 _ _ _ hw (lv_sub hl [2, 3, 4, 5, 6, 0] rfl) hf
    exact hL_9_9 F p3 n_numbers _ _ _ hw (lv_sub hl [1, 2, 3, 4, 5, 0] rfl) hf
  · replace hf := if_t h_1 hf
    cases hf
    exact hE _ _ _ _ hw dX1_add_5
def f_X1_countFor_L77 (F : Nat) (n_several : Nat → Int32) (r_slots : Nat → Int32) (r_slotOf : Nat → Int32) (r_sets : Nat → Int32) (r_later : Nat → Int32) (r_laters : Nat → Int32) (r_amount : Int32) (p2 : Int32) (y_2 : Int32) (kk_155_10 : (Nat → Int64) → Option ((Nat → Int64))) : Nat → Int32 → (Nat → Int64) → Option ((Nat → Int64))
  | 0, _, _ => none
  | n + 1, v6_12, n_numbers_13 => rd 16 r_laters (f_X11_leastNode y_2) (fun y_14 => (if y_14 ≤ v6_12 then (kk_155_10 n_numbers_13) else rd 256 r_later (f_X11_cell (f_X11_leastNode y_2) v6_12) (fun y_18 => (if (f_X11_has (y_2 &&& (y_2 - 1)) y_18) = 0 then (f_X1_countFor_L77 F n_several r_slots r_slotOf r_sets r_later r_laters r_amount p2 y_2 kk_155_10 n (v6_12 + 1) n_numbers_13) else (f_X7_placeOf F ((y_2 &&& (y_2 - 1)) &&& (((1 : Int32) <<< (y_18 &&& 31)) ^^^ (-1))) r_slots r_slotOf r_sets r_amount).bind (fun r_22 => rd 256 n_several (f_X11_cell (f_X11_leastNode y_2) y_18) (fun y_26 => (f_X1_add F p2 r_22 1 ((y_26 : Int32).toInt64) n_numbers_13).bind (fun n_numbers_27 => (f_X1_countFor_L77 F n_several r_slots r_slotOf r_sets r_later r_laters r_amount p2 y_2 kk_155_10 n (v6_12 + 1) n_numbers_27))))))))
def f_X1_countFor_L2 (p2 : Int32) (kk_26_30 : (Nat → Int64) → Option ((Nat → Int64))) : Nat → Int32 → (Nat → Int64) → Option ((Nat → Int64))
  | 0, _, _ => none
  | n + 1, v3_32, n_numbers_33 => (if 9 ≤ v3_32 then (kk_26_30 n_numbers_33) else wr 23256 n_numbers_33 ((p2 * 9) + v3_32) (0 : Int64) (fun n_numbers_35 => (f_X1_countFor_L2 p2 kk_26_30 n (v3_32 + 1) n_numbers_35)))
def f_X1_countFor (F : Nat) (p2 : Int32) (n_several : Nat → Int32) (n_numbers : Nat → Int64) (r_slots : Nat → Int32) (r_slotOf : Nat → Int32) (r_sets : Nat → Int32) (r_later : Nat → Int32) (r_laters : Nat → Int32) (r_amount : Int32) : Option ((Nat → Int64)) :=
  (jn (fun (n_numbers_1 : Nat → Int64) => rd 2584 r_sets p2 (fun y_2 => (if y_2 = 0 then wr 23256 n_numbers_1 (p2 * 9) (1 : Int64) (fun n_numbers_30 => some n_numbers_30) else (f_X7_placeOf F (y_2 &&& (y_2 - 1)) r_slots r_slotOf r_sets r_amount).bind (fun r_6 => (f_X1_add F p2 r_6 0 (1 : Int64) n_numbers_1).bind (fun n_numbers_8 => (jn (fun (n_numbers_10 : Nat → Int64) => some n_numbers_10) (fun kk_155_10 => (f_X1_countFor_L77 F n_several r_slots r_slotOf r_sets r_later r_laters r_amount p2 y_2 kk_155_10 F 0 n_numbers_8)))))))) (fun kk_26_30 => (f_X1_countFor_L2 p2 kk_26_30 F 0 n_numbers)))
set_option maxHeartbeats 4000000 in
set_option maxRecDepth 100000 in
theorem c_X1_countFor (l : Launch) (E : Ev) (F : Nat) (a_g : Nat) (n_several : Nat → Int32) (a_n_several : Nat) (n_numbers : Nat → Int64) (a_n_numbers : Nat) (n_last : Int32) (n_age : Int32) (a_n : Nat) (r_slots : Nat → Int32) (a_r_slots : Nat) (r_slotOf : Nat → Int32) (a_r_slotOf : Nat) (r_sets : Nat → Int32) (a_r_sets : Nat) (r_later : Nat → Int32) (a_r_later : Nat) (r_laters : Nat → Int32) (a_r_laters : Nat) (r_mayLeave : Int32) (r_amount : Int32) (a_r : Nat) (p2 : Int32) (u_n_numbers : Nat → Int64) (hf : f_X1_countFor F p2 n_several n_numbers r_slots r_slotOf r_sets r_later r_laters r_amount = some u_n_numbers) :
    CtV l yX1_countFor wsX1_countFor (Rm 2) E [.ref a_n, .ref a_r, .int p2] [oC a_n 1 [.ref a_g, .ref a_n_several, .ref a_n_numbers, .int n_last, .int n_age], aI E a_n_several 256 n_several, aJ E a_n_numbers 23256 n_numbers, oC a_r 7 [.ref a_r_slots, .ref a_r_slotOf, .ref a_r_sets, .ref a_r_later, .ref a_r_laters, .int r_mayLeave, .int r_amount], aI E a_r_slots 4096 r_slots, aI E a_r_slotOf 2584 r_slotOf, aI E a_r_sets 2584 r_sets, aI E a_r_later 256 r_later, aI E a_r_laters 16 r_laters] [oC a_n 1 [.ref a_g, .ref a_n_several, .ref a_n_numbers, .int n_last, .int n_age], aI E a_n_several 256 n_several, aJ E a_n_numbers 23256 u_n_numbers, oC a_r 7 [.ref a_r_slots, .ref a_r_slotOf, .ref a_r_sets, .ref a_r_later, .ref a_r_laters, .int r_mayLeave, .int r_amount], aI E a_r_slots 4096 r_slots, aI E a_r_slotOf 2584 r_slotOf, aI E a_r_sets 2584 r_sets, aI E a_r_later 256 r_later, aI E a_r_laters 16 r_laters] := by
  refine ofV (cc := cX1_countFor) (maxL := 9) (own := RX1) rfl rfl (by decide) rfl rfl ?_
  intro p e s m below meth c A ls Q S hnm hN hw hA hl0 hE
  have hl : lv_has ls 9 [(0, .ref a_n), (1, .ref a_r), (2, .int p2)] := hl0 _ (lv_entry [.ref a_n, .ref a_r, .int p2] (n := 9) (Nat.le_of_ble_eq_true rfl))
  have iX1 : ∀ w ∈ wsX10, w ∈ wsX1_countFor := by decide +kernel
  have iX7 : ∀ w ∈ wsX70, w ∈ wsX1_countFor := by decide +kernel
  have k17 := S.2.2.2.2 (.fieldLink RX1 17 "PairMatching$Counts" "numbers" "[J") (by decide +kernel)
  have k9 := S.2.2.2.2 (.fieldLink RX1 9 "PairMatching$Counts" "several" "[I") (by decide +kernel)
  have kIX11 := S.2.2.2.2 (.initialized RX11) (by decide +kernel)
  have kSX11_cell := S.2.2.2.2 (.static yX11_cell) (by decide +kernel)
  have kSX11_has := S.2.2.2.2 (.static yX11_has) (by decide +kernel)
  have kSX11_leastNode := S.2.2.2.2 (.static yX11_leastNode) (by decide +kernel)
  have w64 : Cond.methodLinkNest RX1 64 yX11_cell "PairMatching" ∈ nestW := List.mem_of_getElem? (i := 79) rfl
  have w68 : Cond.fieldLinkNest RX1 68 "PairMatching$Rests" "sets" "[I" "PairMatching" ∈ nestW := List.mem_of_getElem? (i := 43) rfl
  have w71 : Cond.methodLinkNest RX1 71 yX11_leastNode "PairMatching" ∈ nestW := List.mem_of_getElem? (i := 80) rfl
  have w82 : Cond.fieldLinkNest RX1 82 "PairMatching$Rests" "laters" "[I" "PairMatching" ∈ nestW := List.mem_of_getElem? (i := 48) rfl
  have w85 : Cond.fieldLinkNest RX1 85 "PairMatching$Rests" "later" "[I" "PairMatching" ∈ nestW := List.mem_of_getElem? (i := 45) rfl
  have w88 : Cond.methodLinkNest RX1 88 yX11_has "PairMatching" ∈ nestW := List.mem_of_getElem? (i := 81) rfl
  unfold f_X1_countFor at hf
  refine lv_iconst (v := 0) S.1 S.2.1 dX1_countFor_0 (by decide) ?_
  refine lv_istore_n (lv' := [(3, .int 0), (0, .ref a_n), (1, .ref a_r), (2, .int p2)]) S.1 S.2.1 dX1_countFor_1 rfl hl (by decide) rfl (fun ls hl => ?_)
  obtain ⟨kk_26_30, ekk_26_30, hf⟩ := jn_s hf
  have hJ_kk_26_30 : ∀ (n_numbers_1 : Nat → Int64) (H : Heap) (locs : List Loc) (ls : Array Slot), Wo E A s [oC a_n 1 [.ref a_g, .ref a_n_several, .ref a_n_numbers, .int n_last, .int n_age], aI E a_n_several 256 n_several, aJ E a_n_numbers 23256 n_numbers_1, oC a_r 7 [.ref a_r_slots, .ref a_r_slotOf, .ref a_r_sets, .ref a_r_later, .ref a_r_laters, .int r_mayLeave, .int r_amount], aI E a_r_slots 4096 r_slots, aI E a_r_slotOf 2584 r_slotOf, aI E a_r_sets 2584 r_sets, aI E a_r_later 256 r_later, aI E a_r_laters 16 r_laters] H locs → lv_has ls 9 [(0, .ref a_n), (1, .ref a_r), (2, .int p2)] → kk_26_30 n_numbers_1 = some u_n_numbers → W p l e (Rm 2) s m (([.ref a_n, .ref a_r, .int p2] : List Value).toArray) below meth c H locs 0 0 Q (F0 m 26 ls []) := by
    intro n_numbers_1 H locs ls hw hl hf
    rw [ekk_26_30] at hf
    refine lv_aload_n S.1 S.2.1 dX1_countFor_26 rfl (lv_at hl 1 rfl) ?_
    refine g_getN S hN hw (C := RX7) (T := TX7) (N := 7) (ci := 7) (v := .ref a_r_sets) 3 2 iX7 w68 dX1_countFor_27 rfl rfl (by decide) rfl ?_
    refine lv_iload_n S.1 S.2.1 dX1_countFor_30 rfl (lv_at hl 2 rfl) ?_
    obtain ⟨hi_1, hf⟩ := rd_s hf
    refine g_iald (n := 2584) (f := r_sets) S hN hw 6 hi_1 dX1_countFor_31 rfl ?_
    generalize r_sets (p2 : Int32).toNatClampNeg = y_2 at hf ⊢
    refine lv_istore_n (lv' := [(3, .int y_2), (0, .ref a_n), (1, .ref a_r), (2, .int p2)]) S.1 S.2.1 dX1_countFor_32 rfl hl (by decide) rfl (fun ls hl => ?_)
    refine lv_iload_n S.1 S.2.1 dX1_countFor_33 rfl (lv_at hl 0 rfl) ?_
    refine lv_if_ne (tgt := 48) S.1 S.2.1 dX1_countFor_34 (by decide) (fun h_3 => ?_) (fun h_3 => ?_)
    · replace hf := if_f h_3 hf
      refine lv_iload_n S.1 S.2.1 dX1_countFor_48 rfl (lv_at hl 0 rfl) ?_
      refine g_calli (r := (f_X11_leastNode y_2)) (wc := []) (wr := [oC a_n 1 [.ref a_g, .ref a_n_several, .ref a_n_numbers, .int n_last, .int n_age], aI E a_n_several 256 n_several, aJ E a_n_numbers 23256 n_numbers_1, oC a_r 7 [.ref a_r_slots, .ref a_r_slotOf, .ref a_r_sets, .ref a_r_later, .ref a_r_laters, .int r_mayLeave, .int r_amount], aI E a_r_slots 4096 r_slots, aI E a_r_slotOf 2584 r_slotOf, aI E a_r_sets 2584 r_sets, aI E a_r_later 256 r_later, aI E a_r_laters 16 r_laters]) (w1 := []) (va_runSN (As := [.int y_2]) (rest := []) S (c_X11_leastNode l E y_2 (f_X11_leastNode y_2) rfl _) ⟨(va_cnB 1 S.2.2.2.2 gX1_countFor_X11_leastNode_n71 rfl rfl rfl (hN.2 _ w71) kIX11 (by decide +kernel) (rm_le (by omega) (by decide))), kSX11_leastNode, trivial⟩ (preS hN hw [] rfl rfl) rfl rfl hl.1 rfl (lv_room (Nat.le_of_ble_eq_true rfl)) dX1_countFor_49 ⟨Nat.le_refl _, Nat.le_refl _⟩) hw hA [] [0, 1, 2, 3, 4, 5, 6, 7, 8] rfl rfl rfl (by decide) (fun H locs hw => ?_)
      have hw : Wo E A s [oC a_n 1 [.ref a_g, .ref a_n_several, .ref a_n_numbers, .int n_last, .int n_age], aI E a_n_several 256 n_several, aJ E a_n_numbers 23256 n_numbers_1, oC a_r 7 [.ref a_r_slots, .ref a_r_slotOf, .ref a_r_sets, .ref a_r_later, .ref a_r_laters, .int r_mayLeave, .int r_amount], aI E a_r_slots 4096 r_slots, aI E a_r_slotOf 2584 r_slotOf, aI E a_r_sets 2584 r_sets, aI E a_r_later 256 r_later, aI E a_r_laters 16 r_laters] H _ := hw
      refine lv_istore (lv' := [(4, .int (f_X11_leastNode y_2)), (3, .int y_2), (0, .ref a_n), (1, .ref a_r), (2, .int p2)]) S.1 S.2.1 dX1_countFor_52 hl (by decide) rfl (fun ls hl => ?_)
      refine lv_iload_n S.1 S.2.1 dX1_countFor_54 rfl (lv_at hl 1 rfl) ?_
      refine lv_iload_n S.1 S.2.1 dX1_countFor_55 rfl (lv_at hl 1 rfl) ?_
      refine lv_iconst (v := 1) S.1 S.2.1 dX1_countFor_56 (by decide) ?_
      refine lv_isub S.1 S.2.1 dX1_countFor_57 ?_
      refine lv_iand S.1 S.2.1 dX1_countFor_58 ?_
      refine lv_istore (lv' := [(5, .int (y_2 &&& (y_2 - 1))), (4, .int (f_X11_leastNode y_2)), (3, .int y_2), (0, .ref a_n), (1, .ref a_r), (2, .int p2)]) S.1 S.2.1 dX1_countFor_59 hl (by decide) rfl (fun ls hl => ?_)
      refine lv_aload_n S.1 S.2.1 dX1_countFor_61 rfl (lv_at hl 3 rfl) ?_
      refine lv_iload_n S.1 S.2.1 dX1_countFor_62 rfl (lv_at hl 5 rfl) ?_
      refine lv_aload_n S.1 S.2.1 dX1_countFor_63 rfl (lv_at hl 4 rfl) ?_
      refine lv_iload S.1 S.2.1 dX1_countFor_64 (lv_at hl 0 rfl) ?_
      obtain ⟨r_6, hc_6, hf⟩ := bd_s hf
      refine g_calli (r := r_6) (wc := [oC a_r 7 [.ref a_r_slots, .ref a_r_slotOf, .ref a_r_sets, .ref a_r_later, .ref a_r_laters, .int r_mayLeave, .int r_amount], aI E a_r_slots 4096 r_slots, aI E a_r_slotOf 2584 r_slotOf, aI E a_r_sets 2584 r_sets]) (wr := [oC a_n 1 [.ref a_g, .ref a_n_several, .ref a_n_numbers, .int n_last, .int n_age], aI E a_n_several 256 n_several, aJ E a_n_numbers 23256 n_numbers_1, aI E a_r_later 256 r_later, aI E a_r_laters 16 r_laters]) (w1 := [oC a_r 7 [.ref a_r_slots, .ref a_r_slotOf, .ref a_r_sets, .ref a_r_later, .ref a_r_laters, .int r_mayLeave, .int r_amount], aI E a_r_slots 4096 r_slots, aI E a_r_slotOf 2584 r_slotOf, aI E a_r_sets 2584 r_sets]) (va_runV (As := [.int (y_2 &&& (y_2 - 1))]) (rest := [.int p2, .ref a_n]) S (c_X7_placeOf l E F r_slots a_r_slots r_slotOf a_r_slotOf r_sets a_r_sets a_r_later a_r_laters r_mayLeave r_amount a_r (y_2 &&& (y_2 - 1)) r_6 hc_6 _) (cwV 1 S.2.2.2.2 gX1_countFor_X7_placeOf rfl rfl rfl (by decide +kernel) (rm_le (by omega) (by decide))) (preV (q := (RX7, TX7, 7)) hN hw [3, 4, 5, 6] rfl rfl rfl rfl) rfl rfl hl.1 rfl (lv_room (Nat.le_of_ble_eq_true rfl)) dX1_countFor_66 ⟨Nat.le_refl _, Nat.le_refl _⟩) hw hA [3, 4, 5, 6] [0, 1, 2, 7, 8] rfl rfl rfl (by decide) (fun H locs hw => ?_)
      have hw : Wo E A s [oC a_n 1 [.ref a_g, .ref a_n_several, .ref a_n_numbers, .int n_last, .int n_age], aI E a_n_several 256 n_several, aJ E a_n_numbers 23256 n_numbers_1, aI E a_r_later 256 r_later, aI E a_r_laters 16 r_laters, oC a_r 7 [.ref a_r_slots, .ref a_r_slotOf, .ref a_r_sets, .ref a_r_later, .ref a_r_laters, .int r_mayLeave, .int r_amount], aI E a_r_slots 4096 r_slots, aI E a_r_slotOf 2584 r_slotOf, aI E a_r_sets 2584 r_sets] H _ := hw
      refine lv_iconst (v := 0) S.1 S.2.1 dX1_countFor_69 (by decide) ?_
      refine lv_lconst (v := 1) S.1 S.2.1 dX1_countFor_70 (by decide) ?_
      obtain ⟨n_numbers_8, hc_8, hf⟩ := bd_s hf
      refine g_callv (wc := [oC a_n 1 [.ref a_g, .ref a_n_several, .ref a_n_numbers, .int n_last, .int n_age], aJ E a_n_numbers 23256 n_numbers_1]) (wr := [aI E a_n_several 256 n_several, aI E a_r_later 256 r_later, aI E a_r_laters 16 r_laters, oC a_r 7 [.ref a_r_slots, .ref a_r_slotOf, .ref a_r_sets, .ref a_r_later, .ref a_r_laters, .int r_mayLeave, .int r_amount], aI E a_r_slots 4096 r_slots, aI E a_r_slotOf 2584 r_slotOf, aI E a_r_sets 2584 r_sets]) (w1 := [oC a_n 1 [.ref a_g, .ref a_n_several, .ref a_n_numbers, .int n_last, .int n_age], aJ E a_n_numbers 23256 n_numbers_8]) (va_runV (As := [.int p2, .int r_6, .int 0, .long (1 : Int64)]) (rest := []) S (c_X1_add l E F a_g a_n_several n_numbers_1 a_n_numbers n_last n_age a_n p2 r_6 0 (1 : Int64) n_numbers_8 hc_8 _) (cwV 4 S.2.2.2.2 gX1_countFor_X1_add rfl rfl rfl (by decide +kernel) (rm_le (by omega) (by decide))) (preV (q := (RX1, TX1, 5)) hN hw [0, 2] rfl rfl rfl rfl) rfl rfl hl.1 rfl (lv_room (Nat.le_of_ble_eq_true rfl)) dX1_countFor_71 ⟨Nat.le_refl _, Nat.le_refl _⟩) hw hA [0, 2] [1, 3, 4, 5, 6, 7, 8] rfl rfl rfl (by decide) (fun H locs hw => ?_)
      have hw : Wo E A s [aI E a_n_several 256 n_several, aI E a_r_later 256 r_later, aI E a_r_laters 16 r_laters, oC a_r 7 [.ref a_r_slots, .ref a_r_slotOf, .ref a_r_sets, .ref a_r_later, .ref a_r_laters, .int r_mayLeave, .int r_amount], aI E a_r_slots 4096 r_slots, aI E a_r_slotOf 2584 r_slotOf, aI E a_r_sets 2584 r_sets, oC a_n 1 [.ref a_g, .ref a_n_several, .ref a_n_numbers, .int n_last, .int n_age], aJ E a_n_numbers 23256 n_numbers_8] H _ := hw
      refine lv_iconst (v := 0) S.1 S.2.1 dX1_countFor_74 (by decide) ?_
      refine lv_istore (lv' := [(6, .int 0), (5, .int (y_2 &&& (y_2 - 1))), (4, .int (f_X11_leastNode y_2)), (3, .int y_2), (0, .ref a_n), (1, .ref a_r), (2, .int p2)]) S.1 S.2.1 dX1_countFor_75 hl (by decide) rfl (fun ls hl => ?_)
      obtain ⟨kk_155_10, ekk_155_10, hf⟩ := jn_s hf
      have hJ_kk_155_10 : ∀ (n_numbers_10 : Nat → Int64) (H : Heap) (locs : List Loc) (ls : Array Slot), Wo E A s [aI E a_n_several 256 n_several, aI E a_r_later 256 r_later, aI E a_r_laters 16 r_laters, oC a_r 7 [.ref a_r_slots, .ref a_r_slotOf, .ref a_r_sets, .ref a_r_later, .ref a_r_laters, .int r_mayLeave, .int r_amount], aI E a_r_slots 4096 r_slots, aI E a_r_slotOf 2584 r_slotOf, aI E a_r_sets 2584 r_sets, oC a_n 1 [.ref a_g, .ref a_n_several, .ref a_n_numbers, .int n_last, .int n_age], aJ E a_n_numbers 23256 n_numbers_10] H locs → lv_has ls 9 [] → kk_155_10 n_numbers_10 = some u_n_numbers → W p l e (Rm 2) s m (([.ref a_n, .ref a_r, .int p2] : List Value).toArray) below meth c H locs 0 0 Q (F0 m 155 ls []) := by
        intro n_numbers_10 H locs ls hw hl hf
        rw [ekk_155_10] at hf
        cases hf
        exact hE _ _ _ _ (hw.sub [7, 0, 8, 3, 4, 5, 6, 1, 2] rfl rfl) dX1_countFor_155
      have hL_77_28 : ∀ (n : Nat) (v6_12 : Int32) (n_numbers_13 : Nat → Int64) (H : Heap) (locs : List Loc) (ls : Array Slot), Wo E A s [aI E a_n_several 256 n_several, aI E a_r_later 256 r_later, aI E a_r_laters 16 r_laters, oC a_r 7 [.ref a_r_slots, .ref a_r_slotOf, .ref a_r_sets, .ref a_r_later, .ref a_r_laters, .int r_mayLeave, .int r_amount], aI E a_r_slots 4096 r_slots, aI E a_r_slotOf 2584 r_slotOf, aI E a_r_sets 2584 r_sets, oC a_n 1 [.ref a_g, .ref a_n_several, .ref a_n_numbers, .int n_last, .int n_age], aJ E a_n_numbers 23256 n_numbers_13] H locs → lv_has ls 9 [(0, .ref a_n), (1, .ref a_r), (2, .int p2), (4, .int (f_X11_leastNode y_2)), (5, .int (y_2 &&& (y_2 - 1))), (6, .int v6_12)] → f_X1_countFor_L77 F n_several r_slots r_slotOf r_sets r_later r_laters r_amount p2 y_2 kk_155_10 n v6_12 n_numbers_13 = some u_n_numbers → W p l e (Rm 2) s m (([.ref a_n, .ref a_r, .int p2] : List Value).toArray) below meth c H locs 0 0 Q (F0 m 77 ls []) := by
        intro n
        induction n with
        | zero => intro v6_12 n_numbers_13 H locs ls hw hl hf; unfold f_X1_countFor_L77 at hf; cases hf
        | succ n ih =>
          intro v6_12 n_numbers_13 H locs ls hw hl hf
          unfold f_X1_countFor_L77 at hf
          refine lv_iload S.1 S.2.1 dX1_countFor_77 (lv_at hl 5 rfl) ?_
          refine lv_aload_n S.1 S.2.1 dX1_countFor_79 rfl (lv_at hl 1 rfl) ?_
          refine g_getN S hN hw (C := RX7) (T := TX7) (N := 7) (ci := 7) (v := .ref a_r_laters) 3 4 iX7 w82 dX1_countFor_80 rfl rfl (by decide) rfl ?_
          refine lv_iload S.1 S.2.1 dX1_countFor_83 (lv_at hl 3 rfl) ?_
          obtain ⟨hi_13, hf⟩ := rd_s hf
          refine g_iald (n := 16) (f := r_laters) S hN hw 2 hi_13 dX1_countFor_85 rfl ?_
          generalize r_laters ((f_X11_leastNode y_2) : Int32).toNatClampNeg = y_14 at hf ⊢
          refine lv_icmp_ge (tgt := 155) S.1 S.2.1 dX1_countFor_86 (by decide) (fun h_15 => ?_) (fun h_15 => ?_)
          · replace hf := if_t h_15 hf
            exact hJ_kk_155_10 n_numbers_13 _ _ _ hw (lv_sub hl [] rfl) hf
          · replace hf := if_f h_15 hf
            refine lv_aload_n S.1 S.2.1 dX1_countFor_89 rfl (lv_at hl 1 rfl) ?_
            refine g_getN S hN hw (C := RX7) (T := TX7) (N := 7) (ci := 7) (v := .ref a_r_later) 3 3 iX7 w85 dX1_countFor_90 rfl rfl (by decide) rfl ?_
            refine lv_iload S.1 S.2.1 dX1_countFor_93 (lv_at hl 3 rfl) ?_
            refine lv_iload S.1 S.2.1 dX1_countFor_95 (lv_at hl 5 rfl) ?_
            refine g_calli (r := (f_X11_cell (f_X11_leastNode y_2) v6_12)) (wc := []) (wr := [aI E a_n_several 256 n_several, aI E a_r_later 256 r_later, aI E a_r_laters 16 r_laters, oC a_r 7 [.ref a_r_slots, .ref a_r_slotOf, .ref a_r_sets, .ref a_r_later, .ref a_r_laters, .int r_mayLeave, .int r_amount], aI E a_r_slots 4096 r_slots, aI E a_r_slotOf 2584 r_slotOf, aI E a_r_sets 2584 r_sets, oC a_n 1 [.ref a_g, .ref a_n_several, .ref a_n_numbers, .int n_last, .int n_age], aJ E a_n_numbers 23256 n_numbers_13]) (w1 := []) (va_runSN (As := [.int (f_X11_leastNode y_2), .int v6_12]) (rest := [.ref a_r_later]) S (c_X11_cell l E (f_X11_leastNode y_2) v6_12 (f_X11_cell (f_X11_leastNode y_2) v6_12) rfl _) ⟨(va_cnB 2 S.2.2.2.2 gX1_countFor_X11_cell_n64 rfl rfl rfl (hN.2 _ w64) kIX11 (by decide +kernel) (rm_le (by omega) (by decide))), kSX11_cell, trivial⟩ (preS hN hw [] rfl rfl) rfl rfl hl.1 rfl (lv_room (Nat.le_of_ble_eq_true rfl)) dX1_countFor_97 ⟨Nat.le_refl _, Nat.le_refl _⟩) hw hA [] [0, 1, 2, 3, 4, 5, 6, 7, 8] rfl rfl rfl (by decide) (fun H locs hw => ?_)
            have hw : Wo E A s [aI E a_n_several 256 n_several, aI E a_r_later 256 r_later, aI E a_r_laters 16 r_laters, oC a_r 7 [.ref a_r_slots, .ref a_r_slotOf, .ref a_r_sets, .ref a_r_later, .ref a_r_laters, .int r_mayLeave, .int r_amount], aI E a_r_slots 4096 r_slots, aI E a_r_slotOf 2584 r_slotOf, aI E a_r_sets 2584 r_sets, oC a_n 1 [.ref a_g, .ref a_n_several, .ref a_n_numbers, .int n_last, .int n_age], aJ E a_n_numbers 23256 n_numbers_13] H _ := hw
            obtain ⟨hi_17, hf⟩ := rd_s hf
            refine g_iald (n := 256) (f := r_later) S hN hw 1 hi_17 dX1_countFor_100 rfl ?_
            generalize r_later ((f_X11_cell (f_X11_leastNode y_2) v6_12) : Int32).toNatClampNeg = y_18 at hf ⊢
            refine lv_istore (lv' := [(7, .int y_18), (0, .ref a_n), (1, .ref a_r), (2, .int p2), (4, .int (f_X11_leastNode y_2)), (5, .int (y_2 &&& (y_2 - 1))), (6, .int v6_12)]) S.1 S.2.1 dX1_countFor_101 hl (by decide) rfl (fun ls hl => ?_)
            refine lv_iload S.1 S.2.1 dX1_countFor_103 (lv_at hl 5 rfl) ?_
            refine lv_iload S.1 S.2.1 dX1_countFor_105 (lv_at hl 0 rfl) ?_
            refine g_calli (r := (f_X11_has (y_2 &&& (y_2 - 1)) y_18)) (wc := []) (wr := [aI E a_n_several 256 n_several, aI E a_r_later 256 r_later, aI E a_r_laters 16 r_laters, oC a_r 7 [.ref a_r_slots, .ref a_r_slotOf, .ref a_r_sets, .ref a_r_later, .ref a_r_laters, .int r_mayLeave, .int r_amount], aI E a_r_slots 4096 r_slots, aI E a_r_slotOf 2584 r_slotOf, aI E a_r_sets 2584 r_sets, oC a_n 1 [.ref a_g, .ref a_n_several, .ref a_n_numbers, .int n_last, .int n_age], aJ E a_n_numbers 23256 n_numbers_13]) (w1 := []) (va_runSN (As := [.int (y_2 &&& (y_2 - 1)), .int y_18]) (rest := []) S (c_X11_has l E (y_2 &&& (y_2 - 1)) y_18 (f_X11_has (y_2 &&& (y_2 - 1)) y_18) rfl _) ⟨(va_cnB 2 S.2.2.2.2 gX1_countFor_X11_has_n88 rfl rfl rfl (hN.2 _ w88) kIX11 (by decide +kernel) (rm_le (by omega) (by decide))), kSX11_has, trivial⟩ (preS hN hw [] rfl rfl) rfl rfl hl.1 rfl (lv_room (Nat.le_of_ble_eq_true rfl)) dX1_countFor_107 ⟨Nat.le_refl _, Nat.le_refl _⟩) hw hA [] [0, 1, 2, 3, 4, 5, 6, 7, 8] rfl rfl rfl (by decide) (fun H locs hw => ?_)
            have hw : Wo E A s [aI E a_n_several 256 n_several, aI E a_r_later 256 r_later, aI E a_r_laters 16 r_laters, oC a_r 7 [.ref a_r_slots, .ref a_r_slotOf, .ref a_r_sets, .ref a_r_later, .ref a_r_laters, .int r_mayLeave, .int r_amount], aI E a_r_slots 4096 r_slots, aI E a_r_slotOf 2584 r_slotOf, aI E a_r_sets 2584 r_sets, oC a_n 1 [.ref a_g, .ref a_n_several, .ref a_n_numbers, .int n_last, .int n_age], aJ E a_n_numbers 23256 n_numbers_13] H _ := hw
            refine lv_if_eq (tgt := 149) S.1 S.2.1 dX1_countFor_110 (by decide) (fun h_21 => ?_) (fun h_21 => ?_)
            · replace hf := if_t h_21 hf
              refine lv_iinc (v := (v6_12 + 1)) (lv' := [(6, .int (v6_12 + 1)), (7, .int y_18), (0, .ref a_n), (1, .ref a_r), (2, .int p2), (4, .int (f_X11_leastNode y_2)), (5, .int (y_2 &&& (y_2 - 1)))]) S.1 S.2.1 dX1_countFor_149 hl (k := 6) rfl rfl (by decide) rfl (fun ls hl => ?_)
              refine lv_goto (tgt := 77) S.1 S.2.1 dX1_countFor_152 (by decide) ?_
              exact ih (v6_12 + 1) n_numbers_13 _ _ _ hw (lv_sub hl [2, 3, 4, 5, 6, 0] rfl) hf
            · replace hf := if_f h_21 hf
              refine lv_aload_n S.1 S.2.1 dX1_countFor_113 rfl (lv_at hl 2 rfl) ?_
              refine lv_iload S.1 S.2.1 dX1_countFor_114 (lv_at hl 5 rfl) ?_
              refine lv_iconst (v := 1) S.1 S.2.1 dX1_countFor_116 (by decide) ?_
              refine lv_iload S.1 S.2.1 dX1_countFor_117 (lv_at hl 0 rfl) ?_
              refine lv_ishl S.1 S.2.1 dX1_countFor_119 ?_
              refine lv_iconst (v := (-1)) S.1 S.2.1 dX1_countFor_120 (by decide) ?_
              refine lv_ixor S.1 S.2.1 dX1_countFor_121 ?_
              refine lv_iand S.1 S.2.1 dX1_countFor_122 ?_
              obtain ⟨r_22, hc_22, hf⟩ := bd_s hf
              refine g_calli (r := r_22) (wc := [oC a_r 7 [.ref a_r_slots, .ref a_r_slotOf, .ref a_r_sets, .ref a_r_later, .ref a_r_laters, .int r_mayLeave, .int r_amount], aI E a_r_slots 4096 r_slots, aI E a_r_slotOf 2584 r_slotOf, aI E a_r_sets 2584 r_sets]) (wr := [aI E a_n_several 256 n_several, aI E a_r_later 256 r_later, aI E a_r_laters 16 r_laters, oC a_n 1 [.ref a_g, .ref a_n_several, .ref a_n_numbers, .int n_last, .int n_age], aJ E a_n_numbers 23256 n_numbers_13]) (w1 := [oC a_r 7 [.ref a_r_slots, .ref a_r_slotOf, .ref a_r_sets, .ref a_r_later, .ref a_r_laters, .int r_mayLeave, .int r_amount], aI E a_r_slots 4096 r_slots, aI E a_r_slotOf 2584 r_slotOf, aI E a_r_sets 2584 r_sets]) (va_runV (As := [.int ((y_2 &&& (y_2 - 1)) &&& (((1 : Int32) <<< (y_18 &&& 31)) ^^^ (-1)))]) (rest := []) S (c_X7_placeOf l E F r_slots a_r_slots r_slotOf a_r_slotOf r_sets a_r_sets a_r_later a_r_laters r_mayLeave r_amount a_r ((y_2 &&& (y_2 - 1)) &&& (((1 : Int32) <<< (y_18 &&& 31)) ^^^ (-1))) r_22 hc_22 _) (cwV 1 S.2.2.2.2 gX1_countFor_X7_placeOf rfl rfl rfl (by decide +kernel) (rm_le (by omega) (by decide))) (preV (q := (RX7, TX7, 7)) hN hw [3, 4, 5, 6] rfl rfl rfl rfl) rfl rfl hl.1 rfl (lv_room (Nat.le_of_ble_eq_true rfl)) dX1_countFor_123 ⟨Nat.le_refl _, Nat.le_refl _⟩) hw hA [3, 4, 5, 6] [0, 1, 2, 7, 8] rfl rfl rfl (by decide) (fun H locs hw => ?_)
              have hw : Wo E A s [aI E a_n_several 256 n_several, aI E a_r_later 256 r_later, aI E a_r_laters 16 r_laters, oC a_n 1 [.ref a_g, .ref a_n_several, .ref a_n_numbers, .int n_last, .int n_age], aJ E a_n_numbers 23256 n_numbers_13, oC a_r 7 [.ref a_r_slots, .ref a_r_slotOf, .ref a_r_sets, .ref a_r_later, .ref a_r_laters, .int r_mayLeave, .int r_amount], aI E a_r_slots 4096 r_slots, aI E a_r_slotOf 2584 r_slotOf, aI E a_r_sets 2584 r_sets] H _ := hw
              refine lv_istore (lv' := [(8, .int r_22), (7, .int y_18), (0, .ref a_n), (1, .ref a_r), (2, .int p2), (4, .int (f_X11_leastNode y_2)), (5, .int (y_2 &&& (y_2 - 1))), (6, .int v6_12)]) S.1 S.2.1 dX1_countFor_126 hl (by decide) rfl (fun ls hl => ?_)
              refine lv_aload_n S.1 S.2.1 dX1_countFor_128 rfl (lv_at hl 2 rfl) ?_
              refine lv_iload_n S.1 S.2.1 dX1_countFor_129 rfl (lv_at hl 4 rfl) ?_
              refine lv_iload S.1 S.2.1 dX1_countFor_130 (lv_at hl 0 rfl) ?_
              refine lv_iconst (v := 1) S.1 S.2.1 dX1_countFor_132 (by decide) ?_
              refine lv_aload_n S.1 S.2.1 dX1_countFor_133 rfl (lv_at hl 2 rfl) ?_
              refine g_get S hN hw (C := RX1) (T := TX1) (N := 5) (ci := 1) (v := .ref a_n_several) 3 1 iX1 k9 dX1_countFor_134 rfl rfl (by decide) rfl ?_
              refine lv_iload S.1 S.2.1 dX1_countFor_137 (lv_at hl 5 rfl) ?_
              refine lv_iload S.1 S.2.1 dX1_countFor_139 (lv_at hl 1 rfl) ?_
              refine g_calli (r := (f_X11_cell (f_X11_leastNode y_2) y_18)) (wc := []) (wr := [aI E a_n_several 256 n_several, aI E a_r_later 256 r_later, aI E a_r_laters 16 r_laters, oC a_n 1 [.ref a_g, .ref a_n_several, .ref a_n_numbers, .int n_last, .int n_age], aJ E a_n_numbers 23256 n_numbers_13, oC a_r 7 [.ref a_r_slots, .ref a_r_slotOf, .ref a_r_sets, .ref a_r_later, .ref a_r_laters, .int r_mayLeave, .int r_amount], aI E a_r_slots 4096 r_slots, aI E a_r_slotOf 2584 r_slotOf, aI E a_r_sets 2584 r_sets]) (w1 := []) (va_runSN (As := [.int (f_X11_leastNode y_2), .int y_18]) (rest := [.ref a_n_several, .int 1, .int r_22, .int p2, .ref a_n]) S (c_X11_cell l E (f_X11_leastNode y_2) y_18 (f_X11_cell (f_X11_leastNode y_2) y_18) rfl _) ⟨(va_cnB 2 S.2.2.2.2 gX1_countFor_X11_cell_n64 rfl rfl rfl (hN.2 _ w64) kIX11 (by decide +kernel) (rm_le (by omega) (by decide))), kSX11_cell, trivial⟩ (preS hN hw [] rfl rfl) rfl rfl hl.1 rfl (lv_room (Nat.le_of_ble_eq_true rfl)) dX1_countFor_141 ⟨Nat.le_refl _, Nat.le_refl _⟩) hw hA [] [0, 1, 2, 3, 4, 5, 6, 7, 8] rfl rfl rfl (by decide) (fun H locs hw => ?_)
              have hw : Wo E A s [aI E a_n_several 256 n_several, aI E a_r_later 256 r_later, aI E a_r_laters 16 r_laters, oC a_n 1 [.ref a_g, .ref a_n_several, .ref a_n_numbers, .int n_last, .int n_age], aJ E a_n_numbers 23256 n_numbers_13, oC a_r 7 [.ref a_r_slots, .ref a_r_slotOf, .ref a_r_sets, .ref a_r_later, .ref a_r_laters, .int r_mayLeave, .int r_amount], aI E a_r_slots 4096 r_slots, aI E a_r_slotOf 2584 r_slotOf, aI E a_r_sets 2584 r_sets] H _ := hw
              obtain ⟨hi_25, hf⟩ := rd_s hf
              refine g_iald (n := 256) (f := n_several) S hN hw 0 hi_25 dX1_countFor_144 rfl ?_
              generalize n_several ((f_X11_cell (f_X11_leastNode y_2) y_18) : Int32).toNatClampNeg = y_26 at hf ⊢
              refine lv_i2l S.1 S.2.1 dX1_countFor_145 rfl ?_
              obtain ⟨n_numbers_27, hc_27, hf⟩ := bd_s hf
              refine g_callv (wc := [oC a_n 1 [.ref a_g, .ref a_n_several, .ref a_n_numbers, .int n_last, .int n_age], aJ E a_n_numbers 23256 n_numbers_13]) (wr := [aI E a_n_several 256 n_several, aI E a_r_later 256 r_later, aI E a_r_laters 16 r_laters, oC a_r 7 [.ref a_r_slots, .ref a_r_slotOf, .ref a_r_sets, .ref a_r_later, .ref a_r_laters, .int r_mayLeave, .int r_amount], aI E a_r_slots 4096 r_slots, aI E a_r_slotOf 2584 r_slotOf, aI E a_r_sets 2584 r_sets]) (w1 := [oC a_n 1 [.ref a_g, .ref a_n_several, .ref a_n_numbers, .int n_last, .int n_age], aJ E a_n_numbers 23256 n_numbers_27]) (va_runV (As := [.int p2, .int r_22, .int 1, .long ((y_26 : Int32).toInt64)]) (rest := []) S (c_X1_add l E F a_g a_n_several n_numbers_13 a_n_numbers n_last n_age a_n p2 r_22 1 ((y_26 : Int32).toInt64) n_numbers_27 hc_27 _) (cwV 4 S.2.2.2.2 gX1_countFor_X1_add rfl rfl rfl (by decide +kernel) (rm_le (by omega) (by decide))) (preV (q := (RX1, TX1, 5)) hN hw [3, 4] rfl rfl rfl rfl) rfl rfl hl.1 rfl (lv_room (Nat.le_of_ble_eq_true rfl)) dX1_countFor_146 ⟨Nat.le_refl _, Nat.le_refl _⟩) hw hA [3, 4] [0, 1, 2, 5, 6, 7, 8] rfl rfl rfl (by decide) (fun H locs hw => ?_)
              have hw : Wo E A s [aI E a_n_several 256 n_several, aI E a_r_later 256 r_later, aI E a_r_laters 16 r_laters, oC a_r 7 [.ref a_r_slots, .ref a_r_slotOf, .ref a_r_sets, .ref a_r_later, .ref a_r_laters, .int r_mayLeave, .int r_amount], aI E a_r_slots 4096 r_slots, aI E a_r_slotOf 2584 r_slotOf, aI E a_r_sets 2584 r_sets, oC a_n 1 [.ref a_g, .ref a_n_several, .ref a_n_numbers, .int n_last, .int n_age], aJ E a_n_numbers 23256 n_numbers_27] H _ := hw
              refine lv_iinc (v := (v6_12 + 1)) (lv' := [(6, .int (v6_12 + 1)), (8, .int r_22), (7, .int y_18), (0, .ref a_n), (1, .ref a_r), (2, .int p2), (4, .int (f_X11_leastNode y_2)), (5, .int (y_2 &&& (y_2 - 1)))]) S.1 S.2.1 dX1_countFor_149 hl (k := 7) rfl rfl (by decide) rfl (fun ls hl => ?_)
              refine lv_goto (tgt := 77) S.1 S.2.1 dX1_countFor_152 (by decide) ?_
              exact ih (v6_12 + 1) n_numbers_27 _ _ _ hw (lv_sub hl [3, 4, 5, 6, 7, 0] rfl) hf
      exact hL_77_28 F 0 n_numbers_8 _ _ _ hw (lv_sub hl [4, 5, 6, 2, 1, 0] rfl) hf
    · replace hf := if_t h_3 hf
      refine lv_aload_n S.1 S.2.1 dX1_countFor_37 rfl (lv_at hl 1 rfl) ?_
      refine g_get S hN hw (C := RX1) (T := TX1) (N := 5) (ci := 1) (v := .ref a_n_numbers) 0 2 iX1 k17 dX1_countFor_38 rfl rfl (by decide) rfl ?_
      refine lv_iload_n S.1 S.2.1 dX1_countFor_41 rfl (lv_at hl 3 rfl) ?_
      refine lv_bipush (v := 9) S.1 S.2.1 dX1_countFor_42 (by decide) ?_
      refine lv_imul S.1 S.2.1 dX1_countFor_44 ?_
      refine lv_lconst (v := 1) S.1 S.2.1 dX1_countFor_45 (by decide) ?_
      obtain ⟨hi_29, hf⟩ := wr_s hf
      refine g_last (n := 23256) (f := n_numbers_1) (w1 := [oC a_n 1 [.ref a_g, .ref a_n_several, .ref a_n_numbers, .int n_last, .int n_age], aI E a_n_several 256 n_several, aJ E a_n_numbers 23256 (va_up n_numbers_1 ((p2 * 9) : Int32).toNatClampNeg (1 : Int64)), oC a_r 7 [.ref a_r_slots, .ref a_r_slotOf, .ref a_r_sets, .ref a_r_later, .ref a_r_laters, .int r_mayLeave, .int r_amount], aI E a_r_slots 4096 r_slots, aI E a_r_slotOf 2584 r_slotOf, aI E a_r_sets 2584 r_sets, aI E a_r_later 256 r_later, aI E a_r_laters 16 r_laters]) S hN hw 2 hi_29 dX1_countFor_46 rfl rfl (fun H locs hw => ?_)
      generalize va_up n_numbers_1 ((p2 * 9) : Int32).toNatClampNeg (1 : Int64) = n_numbers_30 at hf hw
      cases hf
      exact hE _ _ _ _ hw dX1_countFor_47
  have hL_2_35 : ∀ (n : Nat) (v3_32 : Int32) (n_numbers_33 : Nat → Int64) (H : Heap) (locs : List Loc) (ls : Array Slot), Wo E A s [oC a_n 1 [.ref a_g, .ref a_n_several, .ref a_n_numbers, .int n_last, .int n_age], aI E a_n_several 256 n_several, aJ E a_n_numbers 23256 n_numbers_33, oC a_r 7 [.ref a_r_slots, .ref a_r_slotOf, .ref a_r_sets, .ref a_r_later, .ref a_r_laters, .int r_mayLeave, .int r_amount], aI E a_r_slots 4096 r_slots, aI E a_r_slotOf 2584 r_slotOf, aI E a_r_sets 2584 r_sets, aI E a_r_later 256 r_later, aI E a_r_laters 16 r_laters] H locs → lv_has ls 9 [(0, .ref a_n), (1, .ref a_r), (2, .int p2), (3, .int v3_32)] → f_X1_countFor_L2 p2 kk_26_30 n v3_32 n_numbers_33 = some u_n_numbers → W p l e (Rm 2) s m (([.ref a_n, .ref a_r, .int p2] : List Value).toArray) below meth c H locs 0 0 Q (F0 m 2 ls []) := by
    intro n
    induction n with
    | zero => intro v3_32 n_numbers_33 H locs ls hw hl hf; unfold f_X1_countFor_L2 at hf; cases hf
    | succ n ih =>
      intro v3_32 n_numbers_33 H locs ls hw hl hf
      unfold f_X1_countFor_L2 at hf
      refine lv_iload_n S.1 S.2.1 dX1_countFor_2 rfl (lv_at hl 3 rfl) ?_
      refine lv_bipush (v := 9) S.1 S.2.1 dX1_countFor_3 (by decide) ?_
      refine lv_icmp_ge (tgt := 26) S.1 S.2.1 dX1_countFor_5 (by decide) (fun h_34 => ?_) (fun h_34 => ?_)
      · replace hf := if_t h_34 hf
        exact hJ_kk_26_30 n_numbers_33 _ _ _ hw (lv_sub hl [0, 1, 2] rfl) hf
      · replace hf := if_f h_34 hf
        refine lv_aload_n S.1 S.2.1 dX1_countFor_8 rfl (lv_at hl 0 rfl) ?_
        refine g_get S hN hw (C := RX1) (T := TX1) (N := 5) (ci := 1) (v := .ref a_n_numbers) 0 2 iX1 k17 dX1_countFor_9 rfl rfl (by decide) rfl ?_
        refine lv_iload_n S.1 S.2.1 dX1_countFor_12 rfl (lv_at hl 2 rfl) ?_
        refine lv_bipush (v := 9) S.1 S.2.1 dX1_countFor_13 (by decide) ?_
        refine lv_imul S.1 S.2.1 dX1_countFor_15 ?_
        refine lv_iload_n S.1 S.2.1 dX1_countFor_16 rfl (lv_at hl 3 rfl) ?_
        refine lv_iadd S.1 S.2.1 dX1_countFor_17 ?_
        refine lv_lconst (v := 0) S.1 S.2.1 dX1_countFor_18 (by decide) ?_
        obtain ⟨hi_34, hf⟩ := wr_s hf
        refine g_last (n := 23256) (f := n_numbers_33) (w1 := [oC a_n 1 [.ref a_g, .ref a_n_several, .ref a_n_numbers, .int n_last, .int n_age], aI E a_n_several 256 n_several, aJ E a_n_numbers 23256 (va_up n_numbers_33 (((p2 * 9) + v3_32) : Int32).toNatClampNeg (0 : Int64)), oC a_r 7 [.ref a_r_slots, .ref a_r_slotOf, .ref a_r_sets, .ref a_r_later, .ref a_r_laters, .int r_mayLeave, .int r_amount], aI E a_r_slots 4096 r_slots, aI E a_r_slotOf 2584 r_slotOf, aI E a_r_sets 2584 r_sets, aI E a_r_later 256 r_later, aI E a_r_laters 16 r_laters]) S hN hw 2 hi_34 dX1_countFor_19 rfl rfl (fun H locs hw => ?_)
        generalize va_up n_numbers_33 (((p2 * 9) + v3_32) : Int32).toNatClampNeg (0 : Int64) = n_numbers_35 at hf hw
        refine lv_iinc (v := (v3_32 + 1)) (lv' := [(3, .int (v3_32 + 1)), (0, .ref a_n), (1, .ref a_r), (2, .int p2)]) S.1 S.2.1 dX1_countFor_20 hl (k := 3) rfl rfl (by decide) rfl (fun ls hl => ?_)
        refine lv_goto (tgt := 2) S.1 S.2.1 dX1_countFor_23 (by decide) ?_
        exact ih (v3_32 + 1) n_numbers_35 _ _ _ hw (lv_sub hl [1, 2, 3, 0] rfl) hf
  exact hL_2_35 F 0 n_numbers _ _ _ hw (lv_sub hl [1, 2, 3, 0] rfl) hf
