def f_X7_init  : Option (Unit) :=
  some ()
set_option maxHeartbeats 4000000 in
set_option maxRecDepth 100000 in
theorem c_X7_init (l : Launch) (E : Ev) (a_r : Nat)  (hf : f_X7_init = some ()) :
    CnV l yX7_init wsX7_init (Ra 1 5 9536) E [.ref a_r] [oC a_r 7 [.null, .null, .null, .null, .null, .int 0, .int 0]] 5 9536 (fun u => [oC a_r 7 [.ref (u 0), .ref (u 1), .ref (u 2), .ref (u 3), .ref (u 4), .int 0, .int 0], aI E (u 0) 4096 (fun _ => 0), aI E (u 1) 2584 (fun _ => 0), aI E (u 2) 2584 (fun _ => 0), aI E (u 3) 256 (fun _ => 0), aI E (u 4) 16 (fun _ => 0)]) := by
  refine onV (cc := cX7_init) (maxL := 1) (own := RX7) (by decide) rfl rfl ?_
  intro p e s m below meth c A ls Q S hnm hN hw hA hl0 hE
  have hl : lv_has ls 1 [(0, .ref a_r)] := hl0 _ (lv_entry [.ref a_r] (n := 1) (Nat.le_of_ble_eq_true rfl))
  have iX7 : ∀ w ∈ wsX70, w ∈ wsX7_init := by decide +kernel
  have k11 := S.2.2.2.2 (.fieldLink RX7 11 "PairMatching$Rests" "slots" "[I") (by decide +kernel)
  have k15 := S.2.2.2.2 (.fieldLink RX7 15 "PairMatching$Rests" "slotOf" "[I") (by decide +kernel)
  have k18 := S.2.2.2.2 (.fieldLink RX7 18 "PairMatching$Rests" "sets" "[I") (by decide +kernel)
  have k21 := S.2.2.2.2 (.fieldLink RX7 21 "PairMatching$Rests" "later" "[I") (by decide +kernel)
  have k24 := S.2.2.2.2 (.fieldLink RX7 24 "PairMatching$Rests" "laters" "[I") (by decide +kernel)
  have kAI := S.2.2.2.2 (.arrayClass .int) (by decide +kernel)
  have kOb1 := S.2.2.2.2 (.methodLink RX7 3 objectInit) (by decide +kernel)
  have kOb2 := S.2.2.2.2 (.instanceMethod objectInit) (by decide +kernel)
  have kOb3 := S.2.2.2.2 (.code objectInit ⟨#[0xb1]⟩ 1 none) (by decide +kernel)
  unfold f_X7_init at hf
  refine lv_aload_n S.1 S.2.1 dX7_init_0 rfl (lv_at hl 0 rfl) ?_
  refine W.objInit S.1 S.2.1 S.2.2.2.1 kOb1 kOb2 kOb3 rfl (by rw [S.2.2.1]; exact hl.1) rfl dX7_init_1 (rm_f (by omega)) (Nat.le_trans (Nat.le_of_ble_eq_true rfl : _ ≤ 40) (rm_l (by omega))) ?_
  refine W.eq (g2 := F0 m 4 ls []) rfl ?_
  refine lv_aload_n S.1 S.2.1 dX7_init_4 rfl (lv_at hl 0 rfl) ?_
  refine lv_sipush (v := 4096) S.1 S.2.1 dX7_init_5 (by decide) ?_
  refine g_newaI (N := 4096) S hN hw hA kAI (by decide) (by decide) (by decide) (by decide) (by decide) dX7_init_8 (fun q_1 H hw => ?_)
  have hw : Wo E A s [oC a_r 7 [.null, .null, .null, .null, .null, .int 0, .int 0], aI E q_1 4096 (fun _ => 0)] H _ := hw
  refine g_putF S hN hw (C := RX7) (T := TX7) (N := 7) (ci := 7) (ty := (.array .int)) (w1 := [oC a_r 7 [.ref q_1, .null, .null, .null, .null, .int 0, .int 0], aI E q_1 4096 (fun _ => 0)]) 0 0 iX7 k11 tyX7 tyX7_ok nmX7 dX7_init_10 hnm rfl rfl (by decide) rfl rfl (by decide +kernel) rfl rfl (Nat.le_of_ble_eq_true rfl) rfl (fun H locs hw => ?_)
  refine lv_aload_n S.1 S.2.1 dX7_init_13 rfl (lv_at hl 0 rfl) ?_
  refine lv_sipush (v := 2584) S.1 S.2.1 dX7_init_14 (by decide) ?_
  refine g_newaI (N := 2584) S hN hw hA kAI (by decide) (by decide) (by decide) (by decide) (by decide) dX7_init_17 (fun q_2 H hw => ?_)
  have hw : Wo E A s [oC a_r 7 [.ref q_1, .null, .null, .null, .null, .int 0, .int 0], aI E q_1 4096 (fun _ => 0), aI E q_2 2584 (fun _ => 0)] H _ := hw
  refine g_putF S hN hw (C := RX7) (T := TX7) (N := 7) (ci := 7) (ty := (.array .int)) (w1 := [oC a_r 7 [.ref q_1, .ref q_2, .null, .null, .null, .int 0, .int 0], aI E q_1 4096 (fun _ => 0), aI E q_2 2584 (fun _ => 0)]) 0 1 iX7 k15 tyX7 tyX7_ok nmX7 dX7_init_19 hnm rfl rfl (by decide) rfl rfl (by decide +kernel) rfl rfl (Nat.le_of_ble_eq_true rfl) rfl (fun H locs hw => ?_)
  refine lv_aload_n S.1 S.2.1 dX7_init_22 rfl (lv_at hl 0 rfl) ?_
  refine lv_sipush (v := 2584) S.1 S.2.1 dX7_init_23 (by decide) ?_
  refine g_newaI (N := 2584) S hN hw hA kAI (by decide) (by decide) (by decide) (by decide) (by decide) dX7_init_26 (fun q_3 H hw => ?_)
  have hw : Wo E A s [oC a_r 7 [.ref q_1, .ref q_2, .null, .null, .null, .int 0, .int 0], aI E q_1 4096 (fun _ => 0), aI E q_2 2584 (fun _ => 0), aI E q_3 2584 (fun _ => 0)] H _ := hw
  refine g_putF S hN hw (C := RX7) (T := TX7) (N := 7) (ci := 7) (ty := (.array .int)) (w1 := [oC a_r 7 [.ref q_1, .ref q_2, .ref q_3, .null, .null, .int 0, .int 0], aI E q_1 4096 (fun _ => 0), aI E q_2 2584 (fun _ => 0), aI E q_3 2584 (fun _ => 0)]) 0 2 iX7 k18 tyX7 tyX7_ok nmX7 dX7_init_28 hnm rfl rfl (by decide) rfl rfl (by decide +kernel) rfl rfl (Nat.le_of_ble_eq_true rfl) rfl (fun H locs hw => ?_)
  refine lv_aload_n S.1 S.2.1 dX7_init_31 rfl (lv_at hl 0 rfl) ?_
  refine lv_sipush (v := 256) S.1 S.2.1 dX7_init_32 (by decide) ?_
  refine g_newaI (N := 256) S hN hw hA kAI (by decide) (by decide) (by decide) (by decide) (by decide) dX7_init_35 (fun q_4 H hw => ?_)
  have hw : Wo E A s [oC a_r 7 [.ref q_1, .ref q_2, .ref q_3, .null, .null, .int 0, .int 0], aI E q_1 4096 (fun _ => 0), aI E q_2 2584 (fun _ => 0), aI E q_3 2584 (fun _ => 0), aI E q_4 256 (fun _ => 0)] H _ := hw
  refine g_putF S hN hw (C := RX7) (T := TX7) (N := 7) (ci := 7) (ty := (.array .int)) (w1 := [oC a_r 7 [.ref q_1, .ref q_2, .ref q_3, .ref q_4, .null, .int 0, .int 0], aI E q_1 4096 (fun _ => 0), aI E q_2 2584 (fun _ => 0), aI E q_3 2584 (fun _ => 0), aI E q_4 256 (fun _ => 0)]) 0 3 iX7 k21 tyX7 tyX7_ok nmX7 dX7_init_37 hnm rfl rfl (by decide) rfl rfl (by decide +kernel) rfl rfl (Nat.le_of_ble_eq_true rfl) rfl (fun H locs hw => ?_)
  refine lv_aload_n S.1 S.2.1 dX7_init_40 rfl (lv_at hl 0 rfl) ?_
  refine lv_bipush (v := 16) S.1 S.2.1 dX7_init_41 (by decide) ?_
  refine g_newaI (N := 16) S hN hw hA kAI (by decide) (by decide) (by decide) (by decide) (by decide) dX7_init_43 (fun q_5 H hw => ?_)
  have hw : Wo E A s [oC a_r 7 [.ref q_1, .ref q_2, .ref q_3, .ref q_4, .null, .int 0, .int 0], aI E q_1 4096 (fun _ => 0), aI E q_2 2584 (fun _ => 0), aI E q_3 2584 (fun _ => 0), aI E q_4 256 (fun _ => 0), aI E q_5 16 (fun _ => 0)] H _ := hw
  refine g_putF S hN hw (C := RX7) (T := TX7) (N := 7) (ci := 7) (ty := (.array .int)) (w1 := [oC a_r 7 [.ref q_1, .ref q_2, .ref q_3, .ref q_4, .ref q_5, .int 0, .int 0], aI E q_1 4096 (fun _ => 0), aI E q_2 2584 (fun _ => 0), aI E q_3 2584 (fun _ => 0), aI E q_4 256 (fun _ => 0), aI E q_5 16 (fun _ => 0)]) 0 4 iX7 k24 tyX7 tyX7_ok nmX7 dX7_init_45 hnm rfl rfl (by decide) rfl rfl (by decide +kernel) rfl rfl (Nat.le_of_ble_eq_true rfl) rfl (fun H locs hw => ?_)
  cases hf
  exact hE (fun i => ([q_1, q_2, q_3, q_4, q_5] : List Nat).getD i 0) _ _ _ _ hw dX7_init_48
def f_X0_init  : Option (Unit) :=
  (f_X7_init).bind (fun _ => some ())
set_option maxHeartbeats 4000000 in
set_option maxRecDepth 100000 in
theorem c_X0_init (l : Launch) (E : Ev) (a_c : Nat)  (hf : f_X0_init = some ()) :
    CnV l yX0_init wsX0_init (Ra 2 10 15223) E [.ref a_c] [oC a_c 0 [.null, .null, .null, .null, .null]] 10 15223 (fun u => [oC a_c 0 [.ref (u 0), .ref (u 6), .ref (u 7), .ref (u 8), .ref (u 9)], oC (u 0) 7 [.ref (u 1), .ref (u 2), .ref (u 3), .ref (u 4), .ref (u 5), .int 0, .int 0], aI E (u 1) 4096 (fun _ => 0), aI E (u 2) 2584 (fun _ => 0), aI E (u 3) 2584 (fun _ => 0), aI E (u 4) 256 (fun _ => 0), aI E (u 5) 16 (fun _ => 0), aI E (u 6) 256 (fun _ => 0), aJ E (u 7) 256 (fun _ => 0), aI E (u 8) 2584 (fun _ => 0), aJ E (u 9) 2584 (fun _ => 0)]) := by
  refine onV (cc := cX0_init) (maxL := 1) (own := RX0) (by decide) rfl rfl ?_
  intro p e s m below meth c A ls Q S hnm hN hw hA hl0 hE
  have hl : lv_has ls 1 [(0, .ref a_c)] := hl0 _ (lv_entry [.ref a_c] (n := 1) (Nat.le_of_ble_eq_true rfl))
  have iX0 : ∀ w ∈ wsX00, w ∈ wsX0_init := by decide +kernel
  have iX7 : ∀ w ∈ wsX70, w ∈ wsX0_init := by decide +kernel
  have k12 := S.2.2.2.2 (.fieldLink RX0 12 "PairMatching$Chooser" "rests" "LPairMatching$Rests;") (by decide +kernel)
  have k18 := S.2.2.2.2 (.fieldLink RX0 18 "PairMatching$Chooser" "gain" "[I") (by decide +kernel)
  have k22 := S.2.2.2.2 (.fieldLink RX0 22 "PairMatching$Chooser" "mark" "[J") (by decide +kernel)
  have k26 := S.2.2.2.2 (.fieldLink RX0 26 "PairMatching$Chooser" "bestGain" "[I") (by decide +kernel)
  have k29 := S.2.2.2.2 (.fieldLink RX0 29 "PairMatching$Chooser" "bestMark" "[J") (by decide +kernel)
  have kAI := S.2.2.2.2 (.arrayClass .int) (by decide +kernel)
  have kAJ := S.2.2.2.2 (.arrayClass .long) (by decide +kernel)
  have kCX7 := S.2.2.2.2 (.classLink RX0 9 RX7) (by decide +kernel)
  have kIX7 := S.2.2.2.2 (.initialized RX7) (by decide +kernel)
  have kNX7 := S.2.2.2.2 (.instantiable RX7 7) (by decide +kernel)
  have kOb1 := S.2.2.2.2 (.methodLink RX0 3 objectInit) (by decide +kernel)
  have kOb2 := S.2.2.2.2 (.instanceMethod objectInit) (by decide +kernel)
  have kOb3 := S.2.2.2.2 (.code objectInit ⟨#[0xb1]⟩ 1 none) (by decide +kernel)
  have kSX7_init := S.2.2.2.2 (.instanceMethod yX7_init) (by decide +kernel)
  have w11 : Cond.methodLinkNest RX0 11 yX7_init "PairMatching" ∈ nestW := List.mem_of_getElem? (i := 40) rfl
  unfold f_X0_init at hf
  refine lv_aload_n S.1 S.2.1 dX0_init_0 rfl (lv_at hl 0 rfl) ?_
  refine W.objInit S.1 S.2.1 S.2.2.2.1 kOb1 kOb2 kOb3 rfl (by rw [S.2.2.1]; exact hl.1) rfl dX0_init_1 (rm_f (by omega)) (Nat.le_trans (Nat.le_of_ble_eq_true rfl : _ ≤ 40) (rm_l (by omega))) ?_
  refine W.eq (g2 := F0 m 4 ls []) rfl ?_
  refine lv_aload_n S.1 S.2.1 dX0_init_4 rfl (lv_at hl 0 rfl) ?_
  refine g_new S hN hw hA (C := RX7) (T := TX7) (N := 7) (ci := 7) (fs := [.null, .null, .null, .null, .null, .int 0, .int 0]) iX7 tyX7 tyX7_ok kCX7 kNX7 kIX7 rfl (fun j hj => by rcases (show j = 0 ∨ j = 1 ∨ j = 2 ∨ j = 3 ∨ j = 4 ∨ j = 5 ∨ j = 6 by omega) with rfl | rfl | rfl | rfl | rfl | rfl | rfl <;> rfl) (by decide) (by decide) dX0_init_5 (fun q_1 H hw => ?_)
  have hw : Wo E A s [oC a_c 0 [.null, .null, .null, .null, .null], oC q_1 7 [.null, .null, .null, .null, .null, .int 0, .int 0]] H _ := hw
  refine lv_dup S.1 S.2.1 dX0_init_8 rfl ?_
  obtain ⟨_, hc_1, hf⟩ := bd_s hf
  refine g_ncallv (wc := [oC q_1 7 [.null, .null, .null, .null, .null, .int 0, .int 0]]) (wr := [oC a_c 0 [.null, .null, .null, .null, .null]]) (w1 := (fun u_3 => [oC q_1 7 [.ref (u_3 0), .ref (u_3 1), .ref (u_3 2), .ref (u_3 3), .ref (u_3 4), .int 0, .int 0], aI E (u_3 0) 4096 (fun _ => 0), aI E (u_3 1) 2584 (fun _ => 0), aI E (u_3 2) 2584 (fun _ => 0), aI E (u_3 3) 256 (fun _ => 0), aI E (u_3 4) 16 (fun _ => 0)])) (va_runIN (As := []) (rest := [.ref q_1, .ref a_c]) S (c_X7_init l E q_1 hc_1 _) ⟨(va_cnB 0 S.2.2.2.2 gX0_init_X7_init_n11 rfl rfl rfl (hN.2 _ w11) kIX7 (by decide +kernel) (rm_le (by omega) (by decide))), rfl, kSX7_init⟩ (preS hN hw [1] rfl rfl) rfl rfl hl.1 rfl (lv_room (Nat.le_of_ble_eq_true rfl)) dX0_init_9 ⟨by decide, by decide⟩) hw hA [1] [0] rfl rfl rfl (by decide) (fun u_3 H locs hw => ?_)
  have hw : Wo E A s [oC a_c 0 [.null, .null, .null, .null, .null], oC q_1 7 [.ref (u_3 0), .ref (u_3 1), .ref (u_3 2), .ref (u_3 3), .ref (u_3 4), .int 0, .int 0], aI E (u_3 0) 4096 (fun _ => 0), aI E (u_3 1) 2584 (fun _ => 0), aI E (u_3 2) 2584 (fun _ => 0), aI E (u_3 3) 256 (fun _ => 0), aI E (u_3 4) 16 (fun _ => 0)] H _ := hw
  refine g_putF S hN hw (C := RX0) (T := TX0) (N := 5) (ci := 0) (ty := (.object "PairMatching$Rests")) (w1 := [oC a_c 0 [.ref q_1, .null, .null, .null, .null], oC q_1 7 [.ref (u_3 0), .ref (u_3 1), .ref (u_3 2), .ref (u_3 3), .ref (u_3 4), .int 0, .int 0], aI E (u_3 0) 4096 (fun _ => 0), aI E (u_3 1) 2584 (fun _ => 0), aI E (u_3 2) 2584 (fun _ => 0), aI E (u_3 3) 256 (fun _ => 0), aI E (u_3 4) 16 (fun _ => 0)]) 0 0 iX0 k12 tyX0 tyX0_ok nmX0 dX0_init_12 hnm rfl rfl (by decide) rfl rfl (by decide +kernel) rfl rfl (Nat.le_of_ble_eq_true rfl) rfl (fun H locs hw => ?_)
  refine lv_aload_n S.1 S.2.1 dX0_init_15 rfl (lv_at hl 0 rfl) ?_
  refine lv_sipush (v := 256) S.1 S.2.1 dX0_init_16 (by decide) ?_
  refine g_newaI (N := 256) S hN hw hA kAI (by decide) (by decide) (by decide) (by decide) (by decide) dX0_init_19 (fun q_4 H hw => ?_)
  have hw : Wo E A s [oC a_c 0 [.ref q_1, .null, .null, .null, .null], oC q_1 7 [.ref (u_3 0), .ref (u_3 1), .ref (u_3 2), .ref (u_3 3), .ref (u_3 4), .int 0, .int 0], aI E (u_3 0) 4096 (fun _ => 0), aI E (u_3 1) 2584 (fun _ => 0), aI E (u_3 2) 2584 (fun _ => 0), aI E (u_3 3) 256 (fun _ => 0), aI E (u_3 4) 16 (fun _ => 0), aI E q_4 256 (fun _ => 0)] H _ := hw
  refine g_putF S hN hw (C := RX0) (T := TX0) (N := 5) (ci := 0) (ty := (.array .int)) (w1 := [oC a_c 0 [.ref q_1, .ref q_4, .null, .null, .null], oC q_1 7 [.ref (u_3 0), .ref (u_3 1), .ref (u_3 2), .ref (u_3 3), .ref (u_3 4), .int 0, .int 0], aI E (u_3 0) 4096 (fun _ => 0), aI E (u_3 1) 2584 (fun _ => 0), aI E (u_3 2) 2584 (fun _ => 0), aI E (u_3 3) 256 (fun _ => 0), aI E (u_3 4) 16 (fun _ => 0), aI E q_4 256 (fun _ => 0)]) 0 1 iX0 k18 tyX0 tyX0_ok nmX0 dX0_init_21 hnm rfl rfl (by decide) rfl rfl (by decide +kernel) rfl rfl (Nat.le_of_ble_eq_true rfl) rfl (fun H locs hw => ?_)
  refine lv_aload_n S.1 S.2.1 dX0_init_24 rfl (lv_at hl 0 rfl) ?_
  refine lv_sipush (v := 256) S.1 S.2.1 dX0_init_25 (by decide) ?_
  refine g_newaJ (N := 256) S hN hw hA kAJ (by decide) (by decide) (by decide) (by decide) (by decide) dX0_init_28 (fun q_5 H hw => ?_)
  have hw : Wo E A s [oC a_c 0 [.ref q_1, .ref q_4, .null, .null, .null], oC q_1 7 [.ref (u_3 0), .ref (u_3 1), .ref (u_3 2), .ref (u_3 3), .ref (u_3 4), .int 0, .int 0], aI E (u_3 0) 4096 (fun _ => 0), aI E (u_3 1) 2584 (fun _ => 0), aI E (u_3 2) 2584 (fun _ => 0), aI E (u_3 3) 256 (fun _ => 0), aI E (u_3 4) 16 (fun _ => 0), aI E q_4 256 (fun _ => 0), aJ E q_5 256 (fun _ => 0)] H _ := hw
  refine g_putF S hN hw (C := RX0) (T := TX0) (N := 5) (ci := 0) (ty := (.array .long)) (w1 := [oC a_c 0 [.ref q_1, .ref q_4, .ref q_5, .null, .null], oC q_1 7 [.ref (u_3 0), .ref (u_3 1), .ref (u_3 2), .ref (u_3 3), .ref (u_3 4), .int 0, .int 0], aI E (u_3 0) 4096 (fun _ => 0), aI E (u_3 1) 2584 (fun _ => 0), aI E (u_3 2) 2584 (fun _ => 0), aI E (u_3 3) 256 (fun _ => 0), aI E (u_3 4) 16 (fun _ => 0), aI E q_4 256 (fun _ => 0), aJ E q_5 256 (fun _ => 0)]) 0 2 iX0 k22 tyX0 tyX0_ok nmX0 dX0_init_30 hnm rfl rfl (by decide) rfl rfl (by decide +kernel) rfl rfl (Nat.le_of_ble_eq_true rfl) rfl (fun H locs hw => ?_)
  refine lv_aload_n S.1 S.2.1 dX0_init_33 rfl (lv_at hl 0 rfl) ?_
  refine lv_sipush (v := 2584) S.1 S.2.1 dX0_init_34 (by decide) ?_
  refine g_newaI (N := 2584) S hN hw hA kAI (by decide) (by decide) (by decide) (by decide) (by decide) dX0_init_37 (fun q_6 H hw => ?_)
  have hw : Wo E A s [oC a_c 0 [.ref q_1, .ref q_4, .ref q_5, .null, .null], oC q_1 7 [.ref (u_3 0), .ref (u_3 1), .ref (u_3 2), .ref (u_3 3), .ref (u_3 4), .int 0, .int 0], aI E (u_3 0) 4096 (fun _ => 0), aI E (u_3 1) 2584 (fun _ => 0), aI E (u_3 2) 2584 (fun _ => 0), aI E (u_3 3) 256 (fun _ => 0), aI E (u_3 4) 16 (fun _ => 0), aI E q_4 256 (fun _ => 0), aJ E q_5 256 (fun _ => 0), aI E q_6 2584 (fun _ => 0)] H _ := hw
  refine g_putF S hN hw (C := RX0) (T := TX0) (N := 5) (ci := 0) (ty := (.array .int)) (w1 := [oC a_c 0 [.ref q_1, .ref q_4, .ref q_5, .ref q_6, .null], oC q_1 7 [.ref (u_3 0), .ref (u_3 1), .ref (u_3 2), .ref (u_3 3), .ref (u_3 4), .int 0, .int 0], aI E (u_3 0) 4096 (fun _ => 0), aI E (u_3 1) 2584 (fun _ => 0), aI E (u_3 2) 2584 (fun _ => 0), aI E (u_3 3) 256 (fun _ => 0), aI E (u_3 4) 16 (fun _ => 0), aI E q_4 256 (fun _ => 0), aJ E q_5 256 (fun _ => 0), aI E q_6 2584 (fun _ => 0)]) 0 3 iX0 k26 tyX0 tyX0_ok nmX0 dX0_init_39 hnm rfl rfl (by decide) rfl rfl (by decide +kernel) rfl rfl (Nat.le_of_ble_eq_true rfl) rfl (fun H locs hw => ?_)
  refine lv_aload_n S.1 S.2.1 dX0_init_42 rfl (lv_at hl 0 rfl) ?_
  refine lv_sipush (v := 2584) S.1 S.2.1 dX0_init_43 (by decide) ?_
  refine g_newaJ (N := 2584) S hN hw hA kAJ (by decide) (by decide) (by decide) (by decide) (by decide) dX0_init_46 (fun q_7 H hw => ?_)
  have hw : Wo E A s [oC a_c 0 [.ref q_1, .ref q_4, .ref q_5, .ref q_6, .null], oC q_1 7 [.ref (u_3 0), .ref (u_3 1), .ref (u_3 2), .ref (u_3 3), .ref (u_3 4), .int 0, .int 0], aI E (u_3 0) 4096 (fun _ => 0), aI E (u_3 1) 2584 (fun _ => 0), aI E (u_3 2) 2584 (fun _ => 0), aI E (u_3 3) 256 (fun _ => 0), aI E (u_3 4) 16 (fun _ => 0), aI E q_4 256 (fun _ => 0), aJ E q_5 256 (fun _ => 0), aI E q_6 2584 (fun _ => 0), aJ E q_7 2584 (fun _ => 0)] H _ := hw
  refine g_putF S hN hw (C := RX0) (T := TX0) (N := 5) (ci := 0) (ty := (.array .long)) (w1 := [oC a_c 0 [.ref q_1, .ref q_4, .ref q_5, .ref q_6, .ref q_7], oC q_1 7 [.ref (u_3 0), .ref (u_3 1), .ref (u_3 2), .ref (u_3 3), .ref (u_3 4), .int 0, .int 0], aI E (u_3 0) 4096 (fun _ => 0), aI E (u_3 1) 2584 (fun _ => 0), aI E (u_3 2) 2584 (fun _ => 0), aI E (u_3 3) 256 (fun _ => 0), aI E (u_3 4) 16 (fun _ => 0), aI E q_4 256 (fun _ => 0), aJ E q_5 256 (fun _ => 0), aI E q_6 2584 (fun _ => 0), aJ E q_7 2584 (fun _ => 0)]) 0 4 iX0 k29 tyX0 tyX0_ok nmX0 dX0_init_48 hnm rfl rfl (by decide) rfl rfl (by decide +kernel) rfl rfl (Nat.le_of_ble_eq_true rfl) rfl (fun H locs hw => ?_)
  cases hf
  exact hE (fun i => ([q_1, (u_3 0), (u_3 1), (u_3 2), (u_3 3), (u_3 4), q_4, q_5, q_6, q_7] : List Nat).getD i 0) _ _ _ _ hw dX0_init_51
def f_X2_init  : Option (Unit) :=
  some ()
set_option maxHeartbeats 4000000 in
set_option maxRecDepth 100000 in
theorem c_X2_init (l : Launch) (E : Ev) (a_g : Nat)  (hf : f_X2_init = some ()) :
    CnV l yX2_init wsX2_init (Ra 1 5 256) E [.ref a_g] [oC a_g 2 [.int 0, .int 0, .int 0, .int 0, .null, .null, .null, .null, .null]] 5 256 (fun u => [oC a_g 2 [.int 0, .int 0, .int 0, .int 0, .ref (u 0), .ref (u 1), .ref (u 2), .ref (u 3), .ref (u 4)], aI E (u 0) 60 (fun _ => 0), aI E (u 1) 60 (fun _ => 0), aI E (u 2) 60 (fun _ => 0), aZ E (u 3) 60 (fun _ => 0), aI E (u 4) 16 (fun _ => 0)]) := by
  refine onV (cc := cX2_init) (maxL := 1) (own := RX2) (by decide) rfl rfl ?_
  intro p e s m below meth c A ls Q S hnm hN hw hA hl0 hE
  have hl : lv_has ls 1 [(0, .ref a_g)] := hl0 _ (lv_entry [.ref a_g] (n := 1) (Nat.le_of_ble_eq_true rfl))
  have iX2 : ∀ w ∈ wsX20, w ∈ wsX2_init := by decide +kernel
  have k15 := S.2.2.2.2 (.fieldLink RX2 15 "PairMatching$Graph" "otherEnd" "[I") (by decide +kernel)
  have k18 := S.2.2.2.2 (.fieldLink RX2 18 "PairMatching$Graph" "weights" "[I") (by decide +kernel)
  have k21 := S.2.2.2.2 (.fieldLink RX2 21 "PairMatching$Graph" "alive" "[Z") (by decide +kernel)
  have k25 := S.2.2.2.2 (.fieldLink RX2 25 "PairMatching$Graph" "joined" "[I") (by decide +kernel)
  have k9 := S.2.2.2.2 (.fieldLink RX2 9 "PairMatching$Graph" "oneEnd" "[I") (by decide +kernel)
  have kAI := S.2.2.2.2 (.arrayClass .int) (by decide +kernel)
  have kAZ := S.2.2.2.2 (.arrayClass .boolean) (by decide +kernel)
  have kOb1 := S.2.2.2.2 (.methodLink RX2 3 objectInit) (by decide +kernel)
  have kOb2 := S.2.2.2.2 (.instanceMethod objectInit) (by decide +kernel)
  have kOb3 := S.2.2.2.2 (.code objectInit ⟨#[0xb1]⟩ 1 none) (by decide +kernel)
  unfold f_X2_init at hf
  refine lv_aload_n S.1 S.2.1 dX2_init_0 rfl (lv_at hl 0 rfl) ?_
  refine W.objInit S.1 S.2.1 S.2.2.2.1 kOb1 kOb2 kOb3 rfl (by rw [S.2.2.1]; exact hl.1) rfl dX2_init_1 (rm_f (by omega)) (Nat.le_trans (Nat.le_of_ble_eq_true rfl : _ ≤ 40) (rm_l (by omega))) ?_
  refine W.eq (g2 := F0 m 4 ls []) rfl ?_
  refine lv_aload_n S.1 S.2.1 dX2_init_4 rfl (lv_at hl 0 rfl) ?_
  refine lv_bipush (v := 60) S.1 S.2.1 dX2_init_5 (by decide) ?_
  refine g_newaI (N := 60) S hN hw hA kAI (by decide) (by decide) (by decide) (by decide) (by decide) dX2_init_7 (fun q_1 H hw => ?_)
  have hw : Wo E A s [oC a_g 2 [.int 0, .int 0, .int 0, .int 0, .null, .null, .null, .null, .null], aI E q_1 60 (fun _ => 0)] H _ := hw
  refine g_putF S hN hw (C := RX2) (T := TX2) (N := 9) (ci := 2) (ty := (.array .int)) (w1 := [oC a_g 2 [.int 0, .int 0, .int 0, .int 0, .ref q_1, .null, .null, .null, .null], aI E q_1 60 (fun _ => 0)]) 0 4 iX2 k9 tyX2 tyX2_ok nmX2 dX2_init_9 hnm rfl rfl (by decide) rfl rfl (by decide +kernel) rfl rfl (Nat.le_of_ble_eq_true rfl) rfl (fun H locs hw => ?_)
  refine lv_aload_n S.1 S.2.1 dX2_init_12 rfl (lv_at hl 0 rfl) ?_
  refine lv_bipush (v := 60) S.1 S.2.1 dX2_init_13 (by decide) ?_
  refine g_newaI (N := 60) S hN hw hA kAI (by decide) (by decide) (by decide) (by decide) (by decide) dX2_init_15 (fun q_2 H hw => ?_)
  have hw : Wo E A s [oC a_g 2 [.int 0, .int 0, .int 0, .int 0, .ref q_1, .null, .null, .null, .null], aI E q_1 60 (fun _ => 0), aI E q_2 60 (fun _ => 0)] H _ := hw
  refine g_putF S hN hw (C := RX2) (T := TX2) (N := 9) (ci := 2) (ty := (.array .int)) (w1 := [oC a_g 2 [.int 0, .int 0, .int 0, .int 0, .ref q_1, .ref q_2, .null, .null, .null], aI E q_1 60 (fun _ => 0), aI E q_2 60 (fun _ => 0)]) 0 5 iX2 k15 tyX2 tyX2_ok nmX2 dX2_init_17 hnm rfl rfl (by decide) rfl rfl (by decide +kernel) rfl rfl (Nat.le_of_ble_eq_true rfl) rfl (fun H locs hw => ?_)
  refine lv_aload_n S.1 S.2.1 dX2_init_20 rfl (lv_at hl 0 rfl) ?_
  refine lv_bipush (v := 60) S.1 S.2.1 dX2_init_21 (by decide) ?_
  refine g_newaI (N := 60) S hN hw hA kAI (by decide) (by decide) (by decide) (by decide) (by decide) dX2_init_23 (fun q_3 H hw => ?_)
  have hw : Wo E A s [oC a_g 2 [.int 0, .int 0, .int 0, .int 0, .ref q_1, .ref q_2, .null, .null, .null], aI E q_1 60 (fun _ => 0), aI E q_2 60 (fun _ => 0), aI E q_3 60 (fun _ => 0)] H _ := hw
  refine g_putF S hN hw (C := RX2) (T := TX2) (N := 9) (ci := 2) (ty := (.array .int)) (w1 := [oC a_g 2 [.int 0, .int 0, .int 0, .int 0, .ref q_1, .ref q_2, .ref q_3, .null, .null], aI E q_1 60 (fun _ => 0), aI E q_2 60 (fun _ => 0), aI E q_3 60 (fun _ => 0)]) 0 6 iX2 k18 tyX2 tyX2_ok nmX2 dX2_init_25 hnm rfl rfl (by decide) rfl rfl (by decide +kernel) rfl rfl (Nat.le_of_ble_eq_true rfl) rfl (fun H locs hw => ?_)
  refine lv_aload_n S.1 S.2.1 dX2_init_28 rfl (lv_at hl 0 rfl) ?_
  refine lv_bipush (v := 60) S.1 S.2.1 dX2_init_29 (by decide) ?_
  refine g_newaZ (N := 60) S hN hw hA kAZ (by decide) (by decide) (by decide) (by decide) (by decide) dX2_init_31 (fun q_4 H hw => ?_)
  have hw : Wo E A s [oC a_g 2 [.int 0, .int 0, .int 0, .int 0, .ref q_1, .ref q_2, .ref q_3, .null, .null], aI E q_1 60 (fun _ => 0), aI E q_2 60 (fun _ => 0), aI E q_3 60 (fun _ => 0), aZ E q_4 60 (fun _ => 0)] H _ := hw
  refine g_putF S hN hw (C := RX2) (T := TX2) (N := 9) (ci := 2) (ty := (.array .boolean)) (w1 := [oC a_g 2 [.int 0, .int 0, .int 0, .int 0, .ref q_1, .ref q_2, .ref q_3, .ref q_4, .null], aI E q_1 60 (fun _ => 0), aI E q_2 60 (fun _ => 0), aI E q_3 60 (fun _ => 0), aZ E q_4 60 (fun _ => 0)]) 0 7 iX2 k21 tyX2 tyX2_ok nmX2 dX2_init_33 hnm rfl rfl (by decide) rfl rfl (by decide +kernel) rfl rfl (Nat.le_of_ble_eq_true rfl) rfl (fun H locs hw => ?_)
  refine lv_aload_n S.1 S.2.1 dX2_init_36 rfl (lv_at hl 0 rfl) ?_
  refine lv_bipush (v := 16) S.1 S.2.1 dX2_init_37 (by decide) ?_
  refine g_newaI (N := 16) S hN hw hA kAI (by decide) (by decide) (by decide) (by decide) (by decide) dX2_init_39 (fun q_5 H hw => ?_)
  have hw : Wo E A s [oC a_g 2 [.int 0, .int 0, .int 0, .int 0, .ref q_1, .ref q_2, .ref q_3, .ref q_4, .null], aI E q_1 60 (fun _ => 0), aI E q_2 60 (fun _ => 0), aI E q_3 60 (fun _ => 0), aZ E q_4 60 (fun _ => 0), aI E q_5 16 (fun _ => 0)] H _ := hw
  refine g_putF S hN hw (C := RX2) (T := TX2) (N := 9) (ci := 2) (ty := (.array .int)) (w1 := [oC a_g 2 [.int 0, .int 0, .int 0, .int 0, .ref q_1, .ref q_2, .ref q_3, .ref q_4, .ref q_5], aI E q_1 60 (fun _ => 0), aI E q_2 60 (fun _ => 0), aI E q_3 60 (fun _ => 0), aZ E q_4 60 (fun _ => 0), aI E q_5 16 (fun _ => 0)]) 0 8 iX2 k25 tyX2 tyX2_ok nmX2 dX2_init_41 hnm rfl rfl (by decide) rfl rfl (by decide +kernel) rfl rfl (Nat.le_of_ble_eq_true rfl) rfl (fun H locs hw => ?_)
  cases hf
  exact hE (fun i => ([q_1, q_2, q_3, q_4, q_5] : List Nat).getD i 0) _ _ _ _ hw dX2_init_44
def f_X6_init  : Option ((Nat → Int32)) :=
  (f_J7_fill_53178 (-1) (fun _ => 0) 256).bind (fun p1_2 => some p1_2)
set_option maxHeartbeats 4000000 in
set_option maxRecDepth 100000 in
theorem c_X6_init (l : Launch) (E : Ev) (a_k : Nat) (u_k_given : Nat → Int32) (hf : f_X6_init = some u_k_given) :
    CnV l yX6_init wsX6_init (Ra 1 1 256) E [.ref a_k] [oC a_k 6 [.int 0, .null]] 1 256 (fun u => [oC a_k 6 [.int 0, .ref (u 0)], aI E (u 0) 256 u_k_given]) := by
  refine onV (cc := cX6_init) (maxL := 1) (own := RX6) (by decide) rfl rfl ?_
  intro p e s m below meth c A ls Q S hnm hN hw hA hl0 hE
  have hl : lv_has ls 1 [(0, .ref a_k)] := hl0 _ (lv_entry [.ref a_k] (n := 1) (Nat.le_of_ble_eq_true rfl))
  have iX6 : ∀ w ∈ wsX60, w ∈ wsX6_init := by decide +kernel
  have k9 := S.2.2.2.2 (.fieldLink RX6 9 "PairMatching$Ranks" "given" "[I") (by decide +kernel)
  have kAI := S.2.2.2.2 (.arrayClass .int) (by decide +kernel)
  have kOb1 := S.2.2.2.2 (.methodLink RX6 3 objectInit) (by decide +kernel)
  have kOb2 := S.2.2.2.2 (.instanceMethod objectInit) (by decide +kernel)
  have kOb3 := S.2.2.2.2 (.code objectInit ⟨#[0xb1]⟩ 1 none) (by decide +kernel)
  unfold f_X6_init at hf
  refine lv_aload_n S.1 S.2.1 dX6_init_0 rfl (lv_at hl 0 rfl) ?_
  refine W.objInit S.1 S.2.1 S.2.2.2.1 kOb1 kOb2 kOb3 rfl (by rw [S.2.2.1]; exact hl.1) rfl dX6_init_1 (rm_f (by omega)) (Nat.le_trans (Nat.le_of_ble_eq_true rfl : _ ≤ 40) (rm_l (by omega))) ?_
  refine W.eq (g2 := F0 m 4 ls []) rfl ?_
  refine lv_aload_n S.1 S.2.1 dX6_init_4 rfl (lv_at hl 0 rfl) ?_
  refine lv_sipush (v := 256) S.1 S.2.1 dX6_init_5 (by decide) ?_
  refine g_newaI (N := 256) S hN hw hA kAI (by decide) (by decide) (by decide) (by decide) (by decide) dX6_init_8 (fun q_1 H hw => ?_)
  have hw : Wo E A s [oC a_k 6 [.int 0, .null], aI E q_1 256 (fun _ => 0)] H _ := hw
  refine g_putF S hN hw (C := RX6) (T := TX6) (N := 2) (ci := 6) (ty := (.array .int)) (w1 := [oC a_k 6 [.int 0, .ref q_1], aI E q_1 256 (fun _ => 0)]) 0 1 iX6 k9 tyX6 tyX6_ok nmX6 dX6_init_10 hnm rfl rfl (by decide) rfl rfl (by decide +kernel) rfl rfl (Nat.le_of_ble_eq_true rfl) rfl (fun H locs hw => ?_)
  refine lv_aload_n S.1 S.2.1 dX6_init_13 rfl (lv_at hl 0 rfl) ?_
  refine g_get S hN hw (C := RX6) (T := TX6) (N := 2) (ci := 6) (v := .ref q_1) 0 1 iX6 k9 dX6_init_14 rfl rfl (by decide) rfl ?_
  refine lv_iconst (v := (-1)) S.1 S.2.1 dX6_init_17 (by decide) ?_
  obtain ⟨p1_2, hc_2, hf⟩ := bd_s hf
  refine g_callv (wc := [aI E q_1 256 (fun _ => 0)]) (wr := [oC a_k 6 [.int 0, .ref q_1]]) (w1 := [aI E q_1 256 p1_2]) (va_runS (As := [.ref q_1, .int (-1)]) (rest := []) S (c_J7_fill_53178 l E q_1 (fun _ => 0) 256 (-1) p1_2 hc_2 _) (va_cwS 2 S.2.2.2.2 gX6_init_J7_fill_53178 rfl rfl rfl (by decide +kernel) (rm_le (by omega) (by decide))) (preS hN hw [1] rfl rfl) rfl rfl hl.1 rfl (lv_room (Nat.le_of_ble_eq_true rfl)) dX6_init_18 ⟨by decide, by decide⟩) hw hA [1] [0] rfl rfl rfl (by decide) (fun H locs hw => ?_)
  have hw : Wo E A s [oC a_k 6 [.int 0, .ref q_1], aI E q_1 256 p1_2] H _ := hw
  cases hf
  exact hE (fun i => ([q_1] : List Nat).getD i 0) _ _ _ _ hw dX6_init_21
def f_X5_init  : Option (Unit) :=
  some ()
set_option maxHeartbeats 4000000 in
set_option maxRecDepth 100000 in
theorem c_X5_init (l : Launch) (E : Ev) (a_q : Nat)  (hf : f_X5_init = some ()) :
    CnV l yX5_init wsX5_init (Ra 1 1 16) E [.ref a_q] [oC a_q 5 [.null, .int 0, .int 0, .int 0]] 1 16 (fun u => [oC a_q 5 [.ref (u 0), .int 0, .int 0, .int 0], aI E (u 0) 16 (fun _ => 0)]) := by
  refine onV (cc := cX5_init) (maxL := 1) (own := RX5) (by decide) rfl rfl ?_
  intro p e s m below meth c A ls Q S hnm hN hw hA hl0 hE
  have hl : lv_has ls 1 [(0, .ref a_q)] := hl0 _ (lv_entry [.ref a_q] (n := 1) (Nat.le_of_ble_eq_true rfl))
  have iX5 : ∀ w ∈ wsX50, w ∈ wsX5_init := by decide +kernel
  have k9 := S.2.2.2.2 (.fieldLink RX5 9 "PairMatching$Parts" "part" "[I") (by decide +kernel)
  have kAI := S.2.2.2.2 (.arrayClass .int) (by decide +kernel)
  have kOb1 := S.2.2.2.2 (.methodLink RX5 3 objectInit) (by decide +kernel)
  have kOb2 := S.2.2.2.2 (.instanceMethod objectInit) (by decide +kernel)
  have kOb3 := S.2.2.2.2 (.code objectInit ⟨#[0xb1]⟩ 1 none) (by decide +kernel)
  unfold f_X5_init at hf
  refine lv_aload_n S.1 S.2.1 dX5_init_0 rfl (lv_at hl 0 rfl) ?_
  refine W.objInit S.1 S.2.1 S.2.2.2.1 kOb1 kOb2 kOb3 rfl (by rw [S.2.2.1]; exact hl.1) rfl dX5_init_1 (rm_f (by omega)) (Nat.le_trans (Nat.le_of_ble_eq_true rfl : _ ≤ 40) (rm_l (by omega))) ?_
  refine W.eq (g2 := F0 m 4 ls []) rfl ?_
  refine lv_aload_n S.1 S.2.1 dX5_init_4 rfl (lv_at hl 0 rfl) ?_
  refine lv_bipush (v := 16) S.1 S.2.1 dX5_init_5 (by decide) ?_
  refine g_newaI (N := 16) S hN hw hA kAI (by decide) (by decide) (by decide) (by decide) (by decide) dX5_init_7 (fun q_1 H hw => ?_)
  have hw : Wo E A s [oC a_q 5 [.null, .int 0, .int 0, .int 0], aI E q_1 16 (fun _ => 0)] H _ := hw
  refine g_putF S hN hw (C := RX5) (T := TX5) (N := 4) (ci := 5) (ty := (.array .int)) (w1 := [oC a_q 5 [.ref q_1, .int 0, .int 0, .int 0], aI E q_1 16 (fun _ => 0)]) 0 0 iX5 k9 tyX5 tyX5_ok nmX5 dX5_init_9 hnm rfl rfl (by decide) rfl rfl (by decide +kernel) rfl rfl (Nat.le_of_ble_eq_true rfl) rfl (fun H locs hw => ?_)
  cases hf
  exact hE (fun i => ([q_1] : List Nat).getD i 0) _ _ _ _ hw dX5_init_12
def f_X10_init  : Option (Unit) :=
  (f_X0_init).bind (fun _ => some ())
set_option maxHeartbeats 4000000 in
set_option maxRecDepth 100000 in
theorem c_X10_init (l : Launch) (E : Ev) (a_w : Nat) (a_g : Nat)  (hf : f_X10_init = some ()) :
    CnV l yX10_init wsX10_init (Ra 3 14 15243) E [.ref a_w, .ref a_g] [oC a_w 10 [.null, .null, .null, .null, .null, .int 0]] 14 15243 (fun u => [oC a_w 10 [.ref a_g, .ref (u 0), .ref (u 11), .ref (u 12), .ref (u 13), .int (-1)], oC (u 0) 0 [.ref (u 1), .ref (u 7), .ref (u 8), .ref (u 9), .ref (u 10)], oC (u 1) 7 [.ref (u 2), .ref (u 3), .ref (u 4), .ref (u 5), .ref (u 6), .int 0, .int 0], aI E (u 2) 4096 (fun _ => 0), aI E (u 3) 2584 (fun _ => 0), aI E (u 4) 2584 (fun _ => 0), aI E (u 5) 256 (fun _ => 0), aI E (u 6) 16 (fun _ => 0), aI E (u 7) 256 (fun _ => 0), aJ E (u 8) 256 (fun _ => 0), aI E (u 9) 2584 (fun _ => 0), aJ E (u 10) 2584 (fun _ => 0), aZ E (u 11) 5 (fun _ => 0), aZ E (u 12) 5 (fun _ => 0), aJ E (u 13) 5 (fun _ => 0)]) := by
  refine onV (cc := cX10_init) (maxL := 2) (own := RX10) (by decide) rfl rfl ?_
  intro p e s m below meth c A ls Q S hnm hN hw hA hl0 hE
  have hl : lv_has ls 2 [(0, .ref a_w), (1, .ref a_g)] := hl0 _ (lv_entry [.ref a_w, .ref a_g] (n := 2) (Nat.le_of_ble_eq_true rfl))
  have iX0 : ∀ w ∈ wsX00, w ∈ wsX10_init := by decide +kernel
  have iX10 : ∀ w ∈ wsX100, w ∈ wsX10_init := by decide +kernel
  have k12 := S.2.2.2.2 (.fieldLink RX10 12 "PairMatching$Ways" "chooser" "LPairMatching$Chooser;") (by decide +kernel)
  have k18 := S.2.2.2.2 (.fieldLink RX10 18 "PairMatching$Ways" "known" "[Z") (by decide +kernel)
  have k22 := S.2.2.2.2 (.fieldLink RX10 22 "PairMatching$Ways" "found" "[Z") (by decide +kernel)
  have k25 := S.2.2.2.2 (.fieldLink RX10 25 "PairMatching$Ways" "sets" "[J") (by decide +kernel)
  have k29 := S.2.2.2.2 (.fieldLink RX10 29 "PairMatching$Ways" "age" "I") (by decide +kernel)
  have k33 := S.2.2.2.2 (.fieldLink RX10 33 "PairMatching$Ways" "graph" "LPairMatching$Graph;") (by decide +kernel)
  have kAJ := S.2.2.2.2 (.arrayClass .long) (by decide +kernel)
  have kAZ := S.2.2.2.2 (.arrayClass .boolean) (by decide +kernel)
  have kCX0 := S.2.2.2.2 (.classLink RX10 9 RX0) (by decide +kernel)
  have kIX0 := S.2.2.2.2 (.initialized RX0) (by decide +kernel)
  have kNX0 := S.2.2.2.2 (.instantiable RX0 5) (by decide +kernel)
  have kOb1 := S.2.2.2.2 (.methodLink RX10 3 objectInit) (by decide +kernel)
  have kOb2 := S.2.2.2.2 (.instanceMethod objectInit) (by decide +kernel)
  have kOb3 := S.2.2.2.2 (.code objectInit ⟨#[0xb1]⟩ 1 none) (by decide +kernel)
  have kSX0_init := S.2.2.2.2 (.instanceMethod yX0_init) (by decide +kernel)
  have w11 : Cond.methodLinkNest RX10 11 yX0_init "PairMatching" ∈ nestW := List.mem_of_getElem? (i := 39) rfl
  unfold f_X10_init at hf
  refine lv_aload_n S.1 S.2.1 dX10_init_0 rfl (lv_at hl 0 rfl) ?_
  refine W.objInit S.1 S.2.1 S.2.2.2.1 kOb1 kOb2 kOb3 rfl (by rw [S.2.2.1]; exact hl.1) rfl dX10_init_1 (rm_f (by omega)) (Nat.le_trans (Nat.le_of_ble_eq_true rfl : _ ≤ 40) (rm_l (by omega))) ?_
  refine W.eq (g2 := F0 m 4 ls []) rfl ?_
  refine lv_aload_n S.1 S.2.1 dX10_init_4 rfl (lv_at hl 0 rfl) ?_
  refine g_new S hN hw hA (C := RX0) (T := TX0) (N := 5) (ci := 0) (fs := [.null, .null, .null, .null, .null]) iX0 tyX0 tyX0_ok kCX0 kNX0 kIX0 rfl (fun j hj => by rcases (show j = 0 ∨ j = 1 ∨ j = 2 ∨ j = 3 ∨ j = 4 by omega) with rfl | rfl | rfl | rfl | rfl <;> rfl) (by decide) (by decide) dX10_init_5 (fun q_1 H hw => ?_)
  have hw : Wo E A s [oC a_w 10 [.null, .null, .null, .null, .null, .int 0], oC q_1 0 [.null, .null, .null, .null, .null]] H _ := hw
  refine lv_dup S.1 S.2.1 dX10_init_8 rfl ?_
  obtain ⟨_, hc_1, hf⟩ := bd_s hf
  refine g_ncallv (wc := [oC q_1 0 [.null, .null, .null, .null, .null]]) (wr := [oC a_w 10 [.null, .null, .null, .null, .null, .int 0]]) (w1 := (fun u_3 => [oC q_1 0 [.ref (u_3 0), .ref (u_3 6), .ref (u_3 7), .ref (u_3 8), .ref (u_3 9)], oC (u_3 0) 7 [.ref (u_3 1), .ref (u_3 2), .ref (u_3 3), .ref (u_3 4), .ref (u_3 5), .int 0, .int 0], aI E (u_3 1) 4096 (fun _ => 0), aI E (u_3 2) 2584 (fun _ => 0), aI E (u_3 3) 2584 (fun _ => 0), aI E (u_3 4) 256 (fun _ => 0), aI E (u_3 5) 16 (fun _ => 0), aI E (u_3 6) 256 (fun _ => 0), aJ E (u_3 7) 256 (fun _ => 0), aI E (u_3 8) 2584 (fun _ => 0), aJ E (u_3 9) 2584 (fun _ => 0)])) (va_runIN (As := []) (rest := [.ref q_1, .ref a_w]) S (c_X0_init l E q_1 hc_1 _) ⟨(va_cnB 0 S.2.2.2.2 gX10_init_X0_init_n11 rfl rfl rfl (hN.2 _ w11) kIX0 (by decide +kernel) (rm_le (by omega) (by decide))), rfl, kSX0_init⟩ (preS hN hw [1] rfl rfl) rfl rfl hl.1 rfl (lv_room (Nat.le_of_ble_eq_true rfl)) dX10_init_9 ⟨by decide, by decide⟩) hw hA [1] [0] rfl rfl rfl (by decide) (fun u_3 H locs hw => ?_)
  have hw : Wo E A s [oC a_w 10 [.null, .null, .null, .null, .null, .int 0], oC q_1 0 [.ref (u_3 0), .ref (u_3 6), .ref (u_3 7), .ref (u_3 8), .ref (u_3 9)], oC (u_3 0) 7 [.ref (u_3 1), .ref (u_3 2), .ref (u_3 3), .ref (u_3 4), .ref (u_3 5), .int 0, .int 0], aI E (u_3 1) 4096 (fun _ => 0), aI E (u_3 2) 2584 (fun _ => 0), aI E (u_3 3) 2584 (fun _ => 0), aI E (u_3 4) 256 (fun _ => 0), aI E (u_3 5) 16 (fun _ => 0), aI E (u_3 6) 256 (fun _ => 0), aJ E (u_3 7) 256 (fun _ => 0), aI E (u_3 8) 2584 (fun _ => 0), aJ E (u_3 9) 2584 (fun _ => 0)] H _ := hw
  refine g_putF S hN hw (C := RX10) (T := TX10) (N := 6) (ci := 10) (ty := (.object "PairMatching$Chooser")) (w1 := [oC a_w 10 [.null, .ref q_1, .null, .null, .null, .int 0], oC q_1 0 [.ref (u_3 0), .ref (u_3 6), .ref (u_3 7), .ref (u_3 8), .ref (u_3 9)], oC (u_3 0) 7 [.ref (u_3 1), .ref (u_3 2), .ref (u_3 3), .ref (u_3 4), .ref (u_3 5), .int 0, .int 0], aI E (u_3 1) 4096 (fun _ => 0), aI E (u_3 2) 2584 (fun _ => 0), aI E (u_3 3) 2584 (fun _ => 0), aI E (u_3 4) 256 (fun _ => 0), aI E (u_3 5) 16 (fun _ => 0), aI E (u_3 6) 256 (fun _ => 0), aJ E (u_3 7) 256 (fun _ => 0), aI E (u_3 8) 2584 (fun _ => 0), aJ E (u_3 9) 2584 (fun _ => 0)]) 0 1 iX10 k12 tyX10 tyX10_ok nmX10 dX10_init_12 hnm rfl rfl (by decide) rfl rfl (by decide +kernel) rfl rfl (Nat.le_of_ble_eq_true rfl) rfl (fun H locs hw => ?_)
  refine lv_aload_n S.1 S.2.1 dX10_init_15 rfl (lv_at hl 0 rfl) ?_
  refine lv_iconst (v := 5) S.1 S.2.1 dX10_init_16 (by decide) ?_
  refine g_newaZ (N := 5) S hN hw hA kAZ (by decide) (by decide) (by decide) (by decide) (by decide) dX10_init_17 (fun q_4 H hw => ?_)
  have hw : Wo E A s [oC a_w 10 [.null, .ref q_1, .null, .null, .null, .int 0], oC q_1 0 [.ref (u_3 0), .ref (u_3 6), .ref (u_3 7), .ref (u_3 8), .ref (u_3 9)], oC (u_3 0) 7 [.ref (u_3 1), .ref (u_3 2), .ref (u_3 3), .ref (u_3 4), .ref (u_3 5), .int 0, .int 0], aI E (u_3 1) 4096 (fun _ => 0), aI E (u_3 2) 2584 (fun _ => 0), aI E (u_3 3) 2584 (fun _ => 0), aI E (u_3 4) 256 (fun _ => 0), aI E (u_3 5) 16 (fun _ => 0), aI E (u_3 6) 256 (fun _ => 0), aJ E (u_3 7) 256 (fun _ => 0), aI E (u_3 8) 2584 (fun _ => 0), aJ E (u_3 9) 2584 (fun _ => 0), aZ E q_4 5 (fun _ => 0)] H _ := hw
  refine g_putF S hN hw (C := RX10) (T := TX10) (N := 6) (ci := 10) (ty := (.array .boolean)) (w1 := [oC a_w 10 [.null, .ref q_1, .ref q_4, .null, .null, .int 0], oC q_1 0 [.ref (u_3 0), .ref (u_3 6), .ref (u_3 7), .ref (u_3 8), .ref (u_3 9)], oC (u_3 0) 7 [.ref (u_3 1), .ref (u_3 2), .ref (u_3 3), .ref (u_3 4), .ref (u_3 5), .int 0, .int 0], aI E (u_3 1) 4096 (fun _ => 0), aI E (u_3 2) 2584 (fun _ => 0), aI E (u_3 3) 2584 (fun _ => 0), aI E (u_3 4) 256 (fun _ => 0), aI E (u_3 5) 16 (fun _ => 0), aI E (u_3 6) 256 (fun _ => 0), aJ E (u_3 7) 256 (fun _ => 0), aI E (u_3 8) 2584 (fun _ => 0), aJ E (u_3 9) 2584 (fun _ => 0), aZ E q_4 5 (fun _ => 0)]) 0 2 iX10 k18 tyX10 tyX10_ok nmX10 dX10_init_19 hnm rfl rfl (by decide) rfl rfl (by decide +kernel) rfl rfl (Nat.le_of_ble_eq_true rfl) rfl (fun H locs hw => ?_)
  refine lv_aload_n S.1 S.2.1 dX10_init_22 rfl (lv_at hl 0 rfl) ?_
  refine lv_iconst (v := 5) S.1 S.2.1 dX10_init_23 (by decide) ?_
  refine g_newaZ (N := 5) S hN hw hA kAZ (by decide) (by decide) (by decide) (by decide) (by decide) dX10_init_24 (fun q_5 H hw => ?_)
  have hw : Wo E A s [oC a_w 10 [.null, .ref q_1, .ref q_4, .null, .null, .int 0], oC q_1 0 [.ref (u_3 0), .ref (u_3 6), .ref (u_3 7), .ref (u_3 8), .ref (u_3 9)], oC (u_3 0) 7 [.ref (u_3 1), .ref (u_3 2), .ref (u_3 3), .ref (u_3 4), .ref (u_3 5), .int 0, .int 0], aI E (u_3 1) 4096 (fun _ => 0), aI E (u_3 2) 2584 (fun _ => 0), aI E (u_3 3) 2584 (fun _ => 0), aI E (u_3 4) 256 (fun _ => 0), aI E (u_3 5) 16 (fun _ => 0), aI E (u_3 6) 256 (fun _ => 0), aJ E (u_3 7) 256 (fun _ => 0), aI E (u_3 8) 2584 (fun _ => 0), aJ E (u_3 9) 2584 (fun _ => 0), aZ E q_4 5 (fun _ => 0), aZ E q_5 5 (fun _ => 0)] H _ := hw
  refine g_putF S hN hw (C := RX10) (T := TX10) (N := 6) (ci := 10) (ty := (.array .boolean)) (w1 := [oC a_w 10 [.null, .ref q_1, .ref q_4, .ref q_5, .null, .int 0], oC q_1 0 [.ref (u_3 0), .ref (u_3 6), .ref (u_3 7), .ref (u_3 8), .ref (u_3 9)], oC (u_3 0) 7 [.ref (u_3 1), .ref (u_3 2), .ref (u_3 3), .ref (u_3 4), .ref (u_3 5), .int 0, .int 0], aI E (u_3 1) 4096 (fun _ => 0), aI E (u_3 2) 2584 (fun _ => 0), aI E (u_3 3) 2584 (fun _ => 0), aI E (u_3 4) 256 (fun _ => 0), aI E (u_3 5) 16 (fun _ => 0), aI E (u_3 6) 256 (fun _ => 0), aJ E (u_3 7) 256 (fun _ => 0), aI E (u_3 8) 2584 (fun _ => 0), aJ E (u_3 9) 2584 (fun _ => 0), aZ E q_4 5 (fun _ => 0), aZ E q_5 5 (fun _ => 0)]) 0 3 iX10 k22 tyX10 tyX10_ok nmX10 dX10_init_26 hnm rfl rfl (by decide) rfl rfl (by decide +kernel) rfl rfl (Nat.le_of_ble_eq_true rfl) rfl (fun H locs hw => ?_)
  refine lv_aload_n S.1 S.2.1 dX10_init_29 rfl (lv_at hl 0 rfl) ?_
  refine lv_iconst (v := 5) S.1 S.2.1 dX10_init_30 (by decide) ?_
  refine g_newaJ (N := 5) S hN hw hA kAJ (by decide) (by decide) (by decide) (by decide) (by decide) dX10_init_31 (fun q_6 H hw => ?_)
  have hw : Wo E A s [oC a_w 10 [.null, .ref q_1, .ref q_4, .ref q_5, .null, .int 0], oC q_1 0 [.ref (u_3 0), .ref (u_3 6), .ref (u_3 7), .ref (u_3 8), .ref (u_3 9)], oC (u_3 0) 7 [.ref (u_3 1), .ref (u_3 2), .ref (u_3 3), .ref (u_3 4), .ref (u_3 5), .int 0, .int 0], aI E (u_3 1) 4096 (fun _ => 0), aI E (u_3 2) 2584 (fun _ => 0), aI E (u_3 3) 2584 (fun _ => 0), aI E (u_3 4) 256 (fun _ => 0), aI E (u_3 5) 16 (fun _ => 0), aI E (u_3 6) 256 (fun _ => 0), aJ E (u_3 7) 256 (fun _ => 0), aI E (u_3 8) 2584 (fun _ => 0), aJ E (u_3 9) 2584 (fun _ => 0), aZ E q_4 5 (fun _ => 0), aZ E q_5 5 (fun _ => 0), aJ E q_6 5 (fun _ => 0)] H _ := hw
  refine g_putF S hN hw (C := RX10) (T := TX10) (N := 6) (ci := 10) (ty := (.array .long)) (w1 := [oC a_w 10 [.null, .ref q_1, .ref q_4, .ref q_5, .ref q_6, .int 0], oC q_1 0 [.ref (u_3 0), .ref (u_3 6), .ref (u_3 7), .ref (u_3 8), .ref (u_3 9)], oC (u_3 0) 7 [.ref (u_3 1), .ref (u_3 2), .ref (u_3 3), .ref (u_3 4), .ref (u_3 5), .int 0, .int 0], aI E (u_3 1) 4096 (fun _ => 0), aI E (u_3 2) 2584 (fun _ => 0), aI E (u_3 3) 2584 (fun _ => 0), aI E (u_3 4) 256 (fun _ => 0), aI E (u_3 5) 16 (fun _ => 0), aI E (u_3 6) 256 (fun _ => 0), aJ E (u_3 7) 256 (fun _ => 0), aI E (u_3 8) 2584 (fun _ => 0), aJ E (u_3 9) 2584 (fun _ => 0), aZ E q_4 5 (fun _ => 0), aZ E q_5 5 (fun _ => 0), aJ E q_6 5 (fun _ => 0)]) 0 4 iX10 k25 tyX10 tyX10_ok nmX10 dX10_init_33 hnm rfl rfl (by decide) rfl rfl (by decide +kernel) rfl rfl (Nat.le_of_ble_eq_true rfl) rfl (fun H locs hw => ?_)
  refine lv_aload_n S.1 S.2.1 dX10_init_36 rfl (lv_at hl 0 rfl) ?_
  refine lv_iconst (v := (-1)) S.1 S.2.1 dX10_init_37 (by decide) ?_
  refine g_put S hN hw (C := RX10) (T := TX10) (N := 6) (ci := 10) (ty := .int) (w1 := [oC a_w 10 [.null, .ref q_1, .ref q_4, .ref q_5, .ref q_6, .int (-1)], oC q_1 0 [.ref (u_3 0), .ref (u_3 6), .ref (u_3 7), .ref (u_3 8), .ref (u_3 9)], oC (u_3 0) 7 [.ref (u_3 1), .ref (u_3 2), .ref (u_3 3), .ref (u_3 4), .ref (u_3 5), .int 0, .int 0], aI E (u_3 1) 4096 (fun _ => 0), aI E (u_3 2) 2584 (fun _ => 0), aI E (u_3 3) 2584 (fun _ => 0), aI E (u_3 4) 256 (fun _ => 0), aI E (u_3 5) 16 (fun _ => 0), aI E (u_3 6) 256 (fun _ => 0), aJ E (u_3 7) 256 (fun _ => 0), aI E (u_3 8) 2584 (fun _ => 0), aJ E (u_3 9) 2584 (fun _ => 0), aZ E q_4 5 (fun _ => 0), aZ E q_5 5 (fun _ => 0), aJ E q_6 5 (fun _ => 0)]) 0 5 iX10 k29 tyX10 tyX10_ok nmX10 dX10_init_38 rfl rfl (by decide) rfl (by decide +kernel) rfl rfl (Nat.le_of_ble_eq_true rfl) rfl (fun H locs hw => ?_)
  refine lv_aload_n S.1 S.2.1 dX10_init_41 rfl (lv_at hl 0 rfl) ?_
  refine lv_aload_n S.1 S.2.1 dX10_init_42 rfl (lv_at hl 1 rfl) ?_
  refine g_putF S hN hw (C := RX10) (T := TX10) (N := 6) (ci := 10) (ty := (.object "PairMatching$Graph")) (w1 := [oC a_w 10 [.ref a_g, .ref q_1, .ref q_4, .ref q_5, .ref q_6, .int (-1)], oC q_1 0 [.ref (u_3 0), .ref (u_3 6), .ref (u_3 7), .ref (u_3 8), .ref (u_3 9)], oC (u_3 0) 7 [.ref (u_3 1), .ref (u_3 2), .ref (u_3 3), .ref (u_3 4), .ref (u_3 5), .int 0, .int 0], aI E (u_3 1) 4096 (fun _ => 0), aI E (u_3 2) 2584 (fun _ => 0), aI E (u_3 3) 2584 (fun _ => 0), aI E (u_3 4) 256 (fun _ => 0), aI E (u_3 5) 16 (fun _ => 0), aI E (u_3 6) 256 (fun _ => 0), aJ E (u_3 7) 256 (fun _ => 0), aI E (u_3 8) 2584 (fun _ => 0), aJ E (u_3 9) 2584 (fun _ => 0), aZ E q_4 5 (fun _ => 0), aZ E q_5 5 (fun _ => 0), aJ E q_6 5 (fun _ => 0)]) 0 0 iX10 k33 tyX10 tyX10_ok nmX10 dX10_init_43 hnm rfl rfl (by decide) rfl rfl (by decide +kernel) rfl rfl (Nat.le_of_ble_eq_true rfl) rfl (fun H locs hw => ?_)
  cases hf
  exact hE (fun i => ([q_1, (u_3 0), (u_3 1), (u_3 2), (u_3 3), (u_3 4), (u_3 5), (u_3 6), (u_3 7), (u_3 8), (u_3 9), q_4, q_5, q_6] : List Nat).getD i 0) _ _ _ _ hw dX10_init_46
def f_X8_init  : Option (Unit) :=
  (f_X5_init).bind (fun _ => (f_X5_init).bind (fun _ => some ()))
set_option maxHeartbeats 4000000 in
set_option maxRecDepth 100000 in
theorem c_X8_init (l : Launch) (E : Ev) (a_s : Nat) (a_g : Nat)  (hf : f_X8_init = some ()) :
    CnV l yX8_init wsX8_init (Ra 2 5 2624) E [.ref a_s, .ref a_g] [oC a_s 8 [.null, .null, .null, .null, .int 0, .int 0, .int 0, .int 0]] 5 2624 (fun u => [oC a_s 8 [.ref a_g, .ref (u 0), .ref (u 2), .ref (u 4), .int 0, .int 0, .int 0, .int (-1)], oC (u 0) 5 [.ref (u 1), .int 0, .int 0, .int 0], aI E (u 1) 16 (fun _ => 0), oC (u 2) 5 [.ref (u 3), .int 0, .int 0, .int 0], aI E (u 3) 16 (fun _ => 0), aI E (u 4) 2584 (fun _ => 0)]) := by
  refine onV (cc := cX8_init) (maxL := 2) (own := RX8) (by decide) rfl rfl ?_
  intro p e s m below meth c A ls Q S hnm hN hw hA hl0 hE
  have hl : lv_has ls 2 [(0, .ref a_s), (1, .ref a_g)] := hl0 _ (lv_entry [.ref a_s, .ref a_g] (n := 2) (Nat.le_of_ble_eq_true rfl))
  have iX5 : ∀ w ∈ wsX50, w ∈ wsX8_init := by decide +kernel
  have iX8 : ∀ w ∈ wsX80, w ∈ wsX8_init := by decide +kernel
  have k12 := S.2.2.2.2 (.fieldLink RX8 12 "PairMatching$Sorts" "pieces" "LPairMatching$Parts;") (by decide +kernel)
  have k18 := S.2.2.2.2 (.fieldLink RX8 18 "PairMatching$Sorts" "whole" "LPairMatching$Parts;") (by decide +kernel)
  have k23 := S.2.2.2.2 (.fieldLink RX8 23 "PairMatching$Sorts" "sizeAndLeft" "[I") (by decide +kernel)
  have k27 := S.2.2.2.2 (.fieldLink RX8 27 "PairMatching$Sorts" "age" "I") (by decide +kernel)
  have k31 := S.2.2.2.2 (.fieldLink RX8 31 "PairMatching$Sorts" "graph" "LPairMatching$Graph;") (by decide +kernel)
  have kAI := S.2.2.2.2 (.arrayClass .int) (by decide +kernel)
  have kCX5 := S.2.2.2.2 (.classLink RX8 9 RX5) (by decide +kernel)
  have kIX5 := S.2.2.2.2 (.initialized RX5) (by decide +kernel)
  have kNX5 := S.2.2.2.2 (.instantiable RX5 4) (by decide +kernel)
  have kOb1 := S.2.2.2.2 (.methodLink RX8 3 objectInit) (by decide +kernel)
  have kOb2 := S.2.2.2.2 (.instanceMethod objectInit) (by decide +kernel)
  have kOb3 := S.2.2.2.2 (.code objectInit ⟨#[0xb1]⟩ 1 none) (by decide +kernel)
  have kSX5_init := S.2.2.2.2 (.instanceMethod yX5_init) (by decide +kernel)
  have w11 : Cond.methodLinkNest RX8 11 yX5_init "PairMatching" ∈ nestW := List.mem_of_getElem? (i := 67) rfl
  unfold f_X8_init at hf
  refine lv_aload_n S.1 S.2.1 dX8_init_0 rfl (lv_at hl 0 rfl) ?_
  refine W.objInit S.1 S.2.1 S.2.2.2.1 kOb1 kOb2 kOb3 rfl (by rw [S.2.2.1]; exact hl.1) rfl dX8_init_1 (rm_f (by omega)) (Nat.le_trans (Nat.le_of_ble_eq_true rfl : _ ≤ 40) (rm_l (by omega))) ?_
  refine W.eq (g2 := F0 m 4 ls []) rfl ?_
  refine lv_aload_n S.1 S.2.1 dX8_init_4 rfl (lv_at hl 0 rfl) ?_
  refine g_new S hN hw hA (C := RX5) (T := TX5) (N := 4) (ci := 5) (fs := [.null, .int 0, .int 0, .int 0]) iX5 tyX5 tyX5_ok kCX5 kNX5 kIX5 rfl (fun j hj => by rcases (show j = 0 ∨ j = 1 ∨ j = 2 ∨ j = 3 by omega) with rfl | rfl | rfl | rfl <;> rfl) (by decide) (by decide) dX8_init_5 (fun q_1 H hw => ?_)
  have hw : Wo E A s [oC a_s 8 [.null, .null, .null, .null, .int 0, .int 0, .int 0, .int 0], oC q_1 5 [.null, .int 0, .int 0, .int 0]] H _ := hw
  refine lv_dup S.1 S.2.1 dX8_init_8 rfl ?_
  obtain ⟨_, hc_1, hf⟩ := bd_s hf
  refine g_ncallv (wc := [oC q_1 5 [.null, .int 0, .int 0, .int 0]]) (wr := [oC a_s 8 [.null, .null, .null, .null, .int 0, .int 0, .int 0, .int 0]]) (w1 := (fun u_3 => [oC q_1 5 [.ref (u_3 0), .int 0, .int 0, .int 0], aI E (u_3 0) 16 (fun _ => 0)])) (va_runIN (As := []) (rest := [.ref q_1, .ref a_s]) S (c_X5_init l E q_1 hc_1 _) ⟨(va_cnB 0 S.2.2.2.2 gX8_init_X5_init_n11 rfl rfl rfl (hN.2 _ w11) kIX5 (by decide +kernel) (rm_le (by omega) (by decide))), rfl, kSX5_init⟩ (preS hN hw [1] rfl rfl) rfl rfl hl.1 rfl (lv_room (Nat.le_of_ble_eq_true rfl)) dX8_init_9 ⟨by decide, by decide⟩) hw hA [1] [0] rfl rfl rfl (by decide) (fun u_3 H locs hw => ?_)
  have hw : Wo E A s [oC a_s 8 [.null, .null, .null, .null, .int 0, .int 0, .int 0, .int 0], oC q_1 5 [.ref (u_3 0), .int 0, .int 0, .int 0], aI E (u_3 0) 16 (fun _ => 0)] H _ := hw
  refine g_putF S hN hw (C := RX8) (T := TX8) (N := 8) (ci := 8) (ty := (.object "PairMatching$Parts")) (w1 := [oC a_s 8 [.null, .ref q_1, .null, .null, .int 0, .int 0, .int 0, .int 0], oC q_1 5 [.ref (u_3 0), .int 0, .int 0, .int 0], aI E (u_3 0) 16 (fun _ => 0)]) 0 1 iX8 k12 tyX8 tyX8_ok nmX8 dX8_init_12 hnm rfl rfl (by decide) rfl rfl (by decide +kernel) rfl rfl (Nat.le_of_ble_eq_true rfl) rfl (fun H locs hw => ?_)
  refine lv_aload_n S.1 S.2.1 dX8_init_15 rfl (lv_at hl 0 rfl) ?_
  refine g_new S hN hw hA (C := RX5) (T := TX5) (N := 4) (ci := 5) (fs := [.null, .int 0, .int 0, .int 0]) iX5 tyX5 tyX5_ok kCX5 kNX5 kIX5 rfl (fun j hj => by rcases (show j = 0 ∨ j = 1 ∨ j = 2 ∨ j = 3 by omega) with rfl | rfl | rfl | rfl <;> rfl) (by decide) (by decide) dX8_init_16 (fun q_4 H hw => ?_)
  have hw : Wo E A s [oC a_s 8 [.null, .ref q_1, .null, .null, .int 0, .int 0, .int 0, .int 0], oC q_1 5 [.ref (u_3 0), .int 0, .int 0, .int 0], aI E (u_3 0) 16 (fun _ => 0), oC q_4 5 [.null, .int 0, .int 0, .int 0]] H _ := hw
  refine lv_dup S.1 S.2.1 dX8_init_19 rfl ?_
  obtain ⟨_, hc_4, hf⟩ := bd_s hf
  refine g_ncallv (wc := [oC q_4 5 [.null, .int 0, .int 0, .int 0]]) (wr := [oC a_s 8 [.null, .ref q_1, .null, .null, .int 0, .int 0, .int 0, .int 0], oC q_1 5 [.ref (u_3 0), .int 0, .int 0, .int 0], aI E (u_3 0) 16 (fun _ => 0)]) (w1 := (fun u_6 => [oC q_4 5 [.ref (u_6 0), .int 0, .int 0, .int 0], aI E (u_6 0) 16 (fun _ => 0)])) (va_runIN (As := []) (rest := [.ref q_4, .ref a_s]) S (c_X5_init l E q_4 hc_4 _) ⟨(va_cnB 0 S.2.2.2.2 gX8_init_X5_init_n11 rfl rfl rfl (hN.2 _ w11) kIX5 (by decide +kernel) (rm_le (by omega) (by decide))), rfl, kSX5_init⟩ (preS hN hw [3] rfl rfl) rfl rfl hl.1 rfl (lv_room (Nat.le_of_ble_eq_true rfl)) dX8_init_20 ⟨by decide, by decide⟩) hw hA [3] [0, 1, 2] rfl rfl rfl (by decide) (fun u_6 H locs hw => ?_)
  have hw : Wo E A s [oC a_s 8 [.null, .ref q_1, .null, .null, .int 0, .int 0, .int 0, .int 0], oC q_1 5 [.ref (u_3 0), .int 0, .int 0, .int 0], aI E (u_3 0) 16 (fun _ => 0), oC q_4 5 [.ref (u_6 0), .int 0, .int 0, .int 0], aI E (u_6 0) 16 (fun _ => 0)] H _ := hw
  refine g_putF S hN hw (C := RX8) (T := TX8) (N := 8) (ci := 8) (ty := (.object "PairMatching$Parts")) (w1 := [oC a_s 8 [.null, .ref q_1, .ref q_4, .null, .int 0, .int 0, .int 0, .int 0], oC q_1 5 [.ref (u_3 0), .int 0, .int 0, .int 0], aI E (u_3 0) 16 (fun _ => 0), oC q_4 5 [.ref (u_6 0), .int 0, .int 0, .int 0], aI E (u_6 0) 16 (fun _ => 0)]) 0 2 iX8 k18 tyX8 tyX8_ok nmX8 dX8_init_23 hnm rfl rfl (by decide) rfl rfl (by decide +kernel) rfl rfl (Nat.le_of_ble_eq_true rfl) rfl (fun H locs hw => ?_)
  refine lv_aload_n S.1 S.2.1 dX8_init_26 rfl (lv_at hl 0 rfl) ?_
  refine lv_sipush (v := 2584) S.1 S.2.1 dX8_init_27 (by decide) ?_
  refine g_newaI (N := 2584) S hN hw hA kAI (by decide) (by decide) (by decide) (by decide) (by decide) dX8_init_30 (fun q_7 H hw => ?_)
  have hw : Wo E A s [oC a_s 8 [.null, .ref q_1, .ref q_4, .null, .int 0, .int 0, .int 0, .int 0], oC q_1 5 [.ref (u_3 0), .int 0, .int 0, .int 0], aI E (u_3 0) 16 (fun _ => 0), oC q_4 5 [.ref (u_6 0), .int 0, .int 0, .int 0], aI E (u_6 0) 16 (fun _ => 0), aI E q_7 2584 (fun _ => 0)] H _ := hw
  refine g_putF S hN hw (C := RX8) (T := TX8) (N := 8) (ci := 8) (ty := (.array .int)) (w1 := [oC a_s 8 [.null, .ref q_1, .ref q_4, .ref q_7, .int 0, .int 0, .int 0, .int 0], oC q_1 5 [.ref (u_3 0), .int 0, .int 0, .int 0], aI E (u_3 0) 16 (fun _ => 0), oC q_4 5 [.ref (u_6 0), .int 0, .int 0, .int 0], aI E (u_6 0) 16 (fun _ => 0), aI E q_7 2584 (fun _ => 0)]) 0 3 iX8 k23 tyX8 tyX8_ok nmX8 dX8_init_32 hnm rfl rfl (by decide) rfl rfl (by decide +kernel) rfl rfl (Nat.le_of_ble_eq_true rfl) rfl (fun H locs hw => ?_)
  refine lv_aload_n S.1 S.2.1 dX8_init_35 rfl (lv_at hl 0 rfl) ?_
  refine lv_iconst (v := (-1)) S.1 S.2.1 dX8_init_36 (by decide) ?_
  refine g_put S hN hw (C := RX8) (T := TX8) (N := 8) (ci := 8) (ty := .int) (w1 := [oC a_s 8 [.null, .ref q_1, .ref q_4, .ref q_7, .int 0, .int 0, .int 0, .int (-1)], oC q_1 5 [.ref (u_3 0), .int 0, .int 0, .int 0], aI E (u_3 0) 16 (fun _ => 0), oC q_4 5 [.ref (u_6 0), .int 0, .int 0, .int 0], aI E (u_6 0) 16 (fun _ => 0), aI E q_7 2584 (fun _ => 0)]) 0 7 iX8 k27 tyX8 tyX8_ok nmX8 dX8_init_37 rfl rfl (by decide) rfl (by decide +kernel) rfl rfl (Nat.le_of_ble_eq_true rfl) rfl (fun H locs hw => ?_)
  refine lv_aload_n S.1 S.2.1 dX8_init_40 rfl (lv_at hl 0 rfl) ?_
  refine lv_aload_n S.1 S.2.1 dX8_init_41 rfl (lv_at hl 1 rfl) ?_
  refine g_putF S hN hw (C := RX8) (T := TX8) (N := 8) (ci := 8) (ty := (.object "PairMatching$Graph")) (w1 := [oC a_s 8 [.ref a_g, .ref q_1, .ref q_4, .ref q_7, .int 0, .int 0, .int 0, .int (-1)], oC q_1 5 [.ref (u_3 0), .int 0, .int 0, .int 0], aI E (u_3 0) 16 (fun _ => 0), oC q_4 5 [.ref (u_6 0), .int 0, .int 0, .int 0], aI E (u_6 0) 16 (fun _ => 0), aI E q_7 2584 (fun _ => 0)]) 0 0 iX8 k31 tyX8 tyX8_ok nmX8 dX8_init_42 hnm rfl rfl (by decide) rfl rfl (by decide +kernel) rfl rfl (Nat.le_of_ble_eq_true rfl) rfl (fun H locs hw => ?_)
  cases hf
  exact hE (fun i => ([q_1, (u_3 0), q_4, (u_6 0), q_7] : List Nat).getD i 0) _ _ _ _ hw dX8_init_45
def f_X1_init  : Option (Unit) :=
  some ()
set_option maxHeartbeats 4000000 in
set_option maxRecDepth 100000 in
theorem c_X1_init (l : Launch) (E : Ev) (a_n : Nat) (a_g : Nat)  (hf : f_X1_init = some ()) :
    CnV l yX1_init wsX1_init (Ra 1 2 23512) E [.ref a_n, .ref a_g] [oC a_n 1 [.null, .null, .null, .int 0, .int 0]] 2 23512 (fun u => [oC a_n 1 [.ref a_g, .ref (u 0), .ref (u 1), .int (-1), .int (-1)], aI E (u 0) 256 (fun _ => 0), aJ E (u 1) 23256 (fun _ => 0)]) := by
  refine onV (cc := cX1_init) (maxL := 2) (own := RX1) (by decide) rfl rfl ?_
  intro p e s m below meth c A ls Q S hnm hN hw hA hl0 hE
  have hl : lv_has ls 2 [(0, .ref a_n), (1, .ref a_g)] := hl0 _ (lv_entry [.ref a_n, .ref a_g] (n := 2) (Nat.le_of_ble_eq_true rfl))
  have iX1 : ∀ w ∈ wsX10, w ∈ wsX1_init := by decide +kernel
  have k17 := S.2.2.2.2 (.fieldLink RX1 17 "PairMatching$Counts" "numbers" "[J") (by decide +kernel)
  have k21 := S.2.2.2.2 (.fieldLink RX1 21 "PairMatching$Counts" "last" "I") (by decide +kernel)
  have k25 := S.2.2.2.2 (.fieldLink RX1 25 "PairMatching$Counts" "age" "I") (by decide +kernel)
  have k28 := S.2.2.2.2 (.fieldLink RX1 28 "PairMatching$Counts" "graph" "LPairMatching$Graph;") (by decide +kernel)
  have k9 := S.2.2.2.2 (.fieldLink RX1 9 "PairMatching$Counts" "several" "[I") (by decide +kernel)
  have kAI := S.2.2.2.2 (.arrayClass .int) (by decide +kernel)
  have kAJ := S.2.2.2.2 (.arrayClass .long) (by decide +kernel)
  have kOb1 := S.2.2.2.2 (.methodLink RX1 3 objectInit) (by decide +kernel)
  have kOb2 := S.2.2.2.2 (.instanceMethod objectInit) (by decide +kernel)
  have kOb3 := S.2.2.2.2 (.code objectInit ⟨#[0xb1]⟩ 1 none) (by decide +kernel)
  unfold f_X1_init at hf
  refine lv_aload_n S.1 S.2.1 dX1_init_0 rfl (lv_at hl 0 rfl) ?_
  refine W.objInit S.1 S.2.1 S.2.2.2.1 kOb1 kOb2 kOb3 rfl (by rw [S.2.2.1]; exact hl.1) rfl dX1_init_1 (rm_f (by omega)) (Nat.le_trans (Nat.le_of_ble_eq_true rfl : _ ≤ 40) (rm_l (by omega))) ?_
  refine W.eq (g2 := F0 m 4 ls []) rfl ?_
  refine lv_aload_n S.1 S.2.1 dX1_init_4 rfl (lv_at hl 0 rfl) ?_
  refine lv_sipush (v := 256) S.1 S.2.1 dX1_init_5 (by decide) ?_
  refine g_newaI (N := 256) S hN hw hA kAI (by decide) (by decide) (by decide) (by decide) (by decide) dX1_init_8 (fun q_1 H hw => ?_)
  have hw : Wo E A s [oC a_n 1 [.null, .null, .null, .int 0, .int 0], aI E q_1 256 (fun _ => 0)] H _ := hw
  refine g_putF S hN hw (C := RX1) (T := TX1) (N := 5) (ci := 1) (ty := (.array .int)) (w1 := [oC a_n 1 [.null, .ref q_1, .null, .int 0, .int 0], aI E q_1 256 (fun _ => 0)]) 0 1 iX1 k9 tyX1 tyX1_ok nmX1 dX1_init_10 hnm rfl rfl (by decide) rfl rfl (by decide +kernel) rfl rfl (Nat.le_of_ble_eq_true rfl) rfl (fun H locs hw => ?_)
  refine lv_aload_n S.1 S.2.1 dX1_init_13 rfl (lv_at hl 0 rfl) ?_
  refine lv_sipush (v := 23256) S.1 S.2.1 dX1_init_14 (by decide) ?_
  refine g_newaJ (N := 23256) S hN hw hA kAJ (by decide) (by decide) (by decide) (by decide) (by decide) dX1_init_17 (fun q_2 H hw => ?_)
  have hw : Wo E A s [oC a_n 1 [.null, .ref q_1, .null, .int 0, .int 0], aI E q_1 256 (fun _ => 0), aJ E q_2 23256 (fun _ => 0)] H _ := hw
  refine g_putF S hN hw (C := RX1) (T := TX1) (N := 5) (ci := 1) (ty := (.array .long)) (w1 := [oC a_n 1 [.null, .ref q_1, .ref q_2, .int 0, .int 0], aI E q_1 256 (fun _ => 0), aJ E q_2 23256 (fun _ => 0)]) 0 2 iX1 k17 tyX1 tyX1_ok nmX1 dX1_init_19 hnm rfl rfl (by decide) rfl rfl (by decide +kernel) rfl rfl (Nat.le_of_ble_eq_true rfl) rfl (fun H locs hw => ?_)
  refine lv_aload_n S.1 S.2.1 dX1_init_22 rfl (lv_at hl 0 rfl) ?_
  refine lv_iconst (v := (-1)) S.1 S.2.1 dX1_init_23 (by decide) ?_
  refine g_put S hN hw (C := RX1) (T := TX1) (N := 5) (ci := 1) (ty := .int) (w1 := [oC a_n 1 [.null, .ref q_1, .ref q_2, .int (-1), .int 0], aI E q_1 256 (fun _ => 0), aJ E q_2 23256 (fun _ => 0)]) 0 3 iX1 k21 tyX1 tyX1_ok nmX1 dX1_init_24 rfl rfl (by decide) rfl (by decide +kernel) rfl rfl (Nat.le_of_ble_eq_true rfl) rfl (fun H locs hw => ?_)
  refine lv_aload_n S.1 S.2.1 dX1_init_27 rfl (lv_at hl 0 rfl) ?_
  refine lv_iconst (v := (-1)) S.1 S.2.1 dX1_init_28 (by decide) ?_
  refine g_put S hN hw (C := RX1) (T := TX1) (N := 5) (ci := 1) (ty := .int) (w1 := [oC a_n 1 [.null, .ref q_1, .ref q_2, .int (-1), .int (-1)], aI E q_1 256 (fun _ => 0), aJ E q_2 23256 (fun _ => 0)]) 0 4 iX1 k25 tyX1 tyX1_ok nmX1 dX1_init_29 rfl rfl (by decide) rfl (by decide +kernel) rfl rfl (Nat.le_of_ble_eq_true rfl) rfl (fun H locs hw => ?_)
  refine lv_aload_n S.1 S.2.1 dX1_init_32 rfl (lv_at hl 0 rfl) ?_
  refine lv_aload_n S.1 S.2.1 dX1_init_33 rfl (lv_at hl 1 rfl) ?_
  refine g_putF S hN hw (C := RX1) (T := TX1) (N := 5) (ci := 1) (ty := (.object "PairMatching$Graph")) (w1 := [oC a_n 1 [.ref a_g, .ref q_1, .ref q_2, .int (-1), .int (-1)], aI E q_1 256 (fun _ => 0), aJ E q_2 23256 (fun _ => 0)]) 0 0 iX1 k28 tyX1 tyX1_ok nmX1 dX1_init_34 hnm rfl rfl (by decide) rfl rfl (by decide +kernel) rfl rfl (Nat.le_of_ble_eq_true rfl) rfl (fun H locs hw => ?_)
  cases hf
  exact hE (fun i => ([q_1, q_2] : List Nat).getD i 0) _ _ _ _ hw dX1_init_37
def f_X3_init  : Option (Unit) :=
  some ()
set_option maxHeartbeats 4000000 in
set_option maxRecDepth 100000 in
theorem c_X3_init (l : Launch) (E : Ev) (a_h : Nat) (a_g : Nat)  (hf : f_X3_init = some ()) :
    CnV l yX3_init wsX3_init (Ra 1 1 16) E [.ref a_h, .ref a_g] [oC a_h 3 [.null, .null, .int 0, .int 0]] 1 16 (fun u => [oC a_h 3 [.ref a_g, .ref (u 0), .int 0, .int (-1)], aI E (u 0) 16 (fun _ => 0)]) := by
  refine onV (cc := cX3_init) (maxL := 2) (own := RX3) (by decide) rfl rfl ?_
  intro p e s m below meth c A ls Q S hnm hN hw hA hl0 hE
  have hl : lv_has ls 2 [(0, .ref a_h), (1, .ref a_g)] := hl0 _ (lv_entry [.ref a_h, .ref a_g] (n := 2) (Nat.le_of_ble_eq_true rfl))
  have iX3 : ∀ w ∈ wsX30, w ∈ wsX3_init := by decide +kernel
  have k15 := S.2.2.2.2 (.fieldLink RX3 15 "PairMatching$Holds" "age" "I") (by decide +kernel)
  have k19 := S.2.2.2.2 (.fieldLink RX3 19 "PairMatching$Holds" "graph" "LPairMatching$Graph;") (by decide +kernel)
  have k9 := S.2.2.2.2 (.fieldLink RX3 9 "PairMatching$Holds" "flipped" "[I") (by decide +kernel)
  have kAI := S.2.2.2.2 (.arrayClass .int) (by decide +kernel)
  have kOb1 := S.2.2.2.2 (.methodLink RX3 3 objectInit) (by decide +kernel)
  have kOb2 := S.2.2.2.2 (.instanceMethod objectInit) (by decide +kernel)
  have kOb3 := S.2.2.2.2 (.code objectInit ⟨#[0xb1]⟩ 1 none) (by decide +kernel)
  unfold f_X3_init at hf
  refine lv_aload_n S.1 S.2.1 dX3_init_0 rfl (lv_at hl 0 rfl) ?_
  refine W.objInit S.1 S.2.1 S.2.2.2.1 kOb1 kOb2 kOb3 rfl (by rw [S.2.2.1]; exact hl.1) rfl dX3_init_1 (rm_f (by omega)) (Nat.le_trans (Nat.le_of_ble_eq_true rfl : _ ≤ 40) (rm_l (by omega))) ?_
  refine W.eq (g2 := F0 m 4 ls []) rfl ?_
  refine lv_aload_n S.1 S.2.1 dX3_init_4 rfl (lv_at hl 0 rfl) ?_
  refine lv_bipush (v := 16) S.1 S.2.1 dX3_init_5 (by decide) ?_
  refine g_newaI (N := 16) S hN hw hA kAI (by decide) (by decide) (by decide) (by decide) (by decide) dX3_init_7 (fun q_1 H hw => ?_)
  have hw : Wo E A s [oC a_h 3 [.null, .null, .int 0, .int 0], aI E q_1 16 (fun _ => 0)] H _ := hw
  refine g_putF S hN hw (C := RX3) (T := TX3) (N := 4) (ci := 3) (ty := (.array .int)) (w1 := [oC a_h 3 [.null, .ref q_1, .int 0, .int 0], aI E q_1 16 (fun _ => 0)]) 0 1 iX3 k9 tyX3 tyX3_ok nmX3 dX3_init_9 hnm rfl rfl (by decide) rfl rfl (by decide +kernel) rfl rfl (Nat.le_of_ble_eq_true rfl) rfl (fun H locs hw => ?_)
  refine lv_aload_n S.1 S.2.1 dX3_init_12 rfl (lv_at hl 0 rfl) ?_
  refine lv_iconst (v := (-1)) S.1 S.2.1 dX3_init_13 (by decide) ?_
  refine g_put S hN hw (C := RX3) (T := TX3) (N := 4) (ci := 3) (ty := .int) (w1 := [oC a_h 3 [.null, .ref q_1, .int 0, .int (-1)], aI E q_1 16 (fun _ => 0)]) 0 3 iX3 k15 tyX3 tyX3_ok nmX3 dX3_init_14 rfl rfl (by decide) rfl (by decide +kernel) rfl rfl (Nat.le_of_ble_eq_true rfl) rfl (fun H locs hw => ?_)
  refine lv_aload_n S.1 S.2.1 dX3_init_17 rfl (lv_at hl 0 rfl) ?_
  refine lv_aload_n S.1 S.2.1 dX3_init_18 rfl (lv_at hl 1 rfl) ?_
  refine g_putF S hN hw (C := RX3) (T := TX3) (N := 4) (ci := 3) (ty := (.object "PairMatching$Graph")) (w1 := [oC a_h 3 [.ref a_g, .ref q_1, .int 0, .int (-1)], aI E q_1 16 (fun _ => 0)]) 0 0 iX3 k19 tyX3 tyX3_ok nmX3 dX3_init_19 hnm rfl rfl (by decide) rfl rfl (by decide +kernel) rfl rfl (Nat.le_of_ble_eq_true rfl) rfl (fun H locs hw => ?_)
  cases hf
  exact hE (fun i => ([q_1] : List Nat).getD i 0) _ _ _ _ hw dX3_init_22
def f_X4_init  : Option (Unit) :=
  (f_X0_init).bind (fun _ => some ())
set_option maxHeartbeats 4000000 in
set_option maxRecDepth 100000 in
theorem c_X4_init (l : Launch) (E : Ev) (a_j : Nat) (a_g : Nat)  (hf : f_X4_init = some ()) :
    CnV l yX4_init wsX4_init (Ra 3 12 15244) E [.ref a_j, .ref a_g] [oC a_j 4 [.null, .null, .null, .long 0, .int 0, .int 0, .int 0]] 12 15244 (fun u => [oC a_j 4 [.ref a_g, .ref (u 0), .ref (u 11), .long 0, .int 0, .int 0, .int (-1)], oC (u 0) 0 [.ref (u 1), .ref (u 7), .ref (u 8), .ref (u 9), .ref (u 10)], oC (u 1) 7 [.ref (u 2), .ref (u 3), .ref (u 4), .ref (u 5), .ref (u 6), .int 0, .int 0], aI E (u 2) 4096 (fun _ => 0), aI E (u 3) 2584 (fun _ => 0), aI E (u 4) 2584 (fun _ => 0), aI E (u 5) 256 (fun _ => 0), aI E (u 6) 16 (fun _ => 0), aI E (u 7) 256 (fun _ => 0), aJ E (u 8) 256 (fun _ => 0), aI E (u 9) 2584 (fun _ => 0), aJ E (u 10) 2584 (fun _ => 0), aI E (u 11) 16 (fun _ => 0)]) := by
  refine onV (cc := cX4_init) (maxL := 2) (own := RX4) (by decide) rfl rfl ?_
  intro p e s m below meth c A ls Q S hnm hN hw hA hl0 hE
  have hl : lv_has ls 2 [(0, .ref a_j), (1, .ref a_g)] := hl0 _ (lv_entry [.ref a_j, .ref a_g] (n := 2) (Nat.le_of_ble_eq_true rfl))
  have iX0 : ∀ w ∈ wsX00, w ∈ wsX4_init := by decide +kernel
  have iX4 : ∀ w ∈ wsX40, w ∈ wsX4_init := by decide +kernel
  have k12 := S.2.2.2.2 (.fieldLink RX4 12 "PairMatching$Joins" "chooser" "LPairMatching$Chooser;") (by decide +kernel)
  have k18 := S.2.2.2.2 (.fieldLink RX4 18 "PairMatching$Joins" "reached" "[I") (by decide +kernel)
  have k22 := S.2.2.2.2 (.fieldLink RX4 22 "PairMatching$Joins" "age" "I") (by decide +kernel)
  have k26 := S.2.2.2.2 (.fieldLink RX4 26 "PairMatching$Joins" "graph" "LPairMatching$Graph;") (by decide +kernel)
  have kAI := S.2.2.2.2 (.arrayClass .int) (by decide +kernel)
  have kCX0 := S.2.2.2.2 (.classLink RX4 9 RX0) (by decide +kernel)
  have kIX0 := S.2.2.2.2 (.initialized RX0) (by decide +kernel)
  have kNX0 := S.2.2.2.2 (.instantiable RX0 5) (by decide +kernel)
  have kOb1 := S.2.2.2.2 (.methodLink RX4 3 objectInit) (by decide +kernel)
  have kOb2 := S.2.2.2.2 (.instanceMethod objectInit) (by decide +kernel)
  have kOb3 := S.2.2.2.2 (.code objectInit ⟨#[0xb1]⟩ 1 none) (by decide +kernel)
  have kSX0_init := S.2.2.2.2 (.instanceMethod yX0_init) (by decide +kernel)
  have w11 : Cond.methodLinkNest RX4 11 yX0_init "PairMatching" ∈ nestW := List.mem_of_getElem? (i := 84) rfl
  unfold f_X4_init at hf
  refine lv_aload_n S.1 S.2.1 dX4_init_0 rfl (lv_at hl 0 rfl) ?_
  refine W.objInit S.1 S.2.1 S.2.2.2.1 kOb1 kOb2 kOb3 rfl (by rw [S.2.2.1]; exact hl.1) rfl dX4_init_1 (rm_f (by omega)) (Nat.le_trans (Nat.le_of_ble_eq_true rfl : _ ≤ 40) (rm_l (by omega))) ?_
  refine W.eq (g2 := F0 m 4 ls []) rfl ?_
  refine lv_aload_n S.1 S.2.1 dX4_init_4 rfl (lv_at hl 0 rfl) ?_
  refine g_new S hN hw hA (C := RX0) (T := TX0) (N := 5) (ci := 0) (fs := [.null, .null, .null, .null, .null]) iX0 tyX0 tyX0_ok kCX0 kNX0 kIX0 rfl (fun j hj => by rcases (show j = 0 ∨ j = 1 ∨ j = 2 ∨ j = 3 ∨ j = 4 by omega) with rfl | rfl | rfl | rfl | rfl <;> rfl) (by decide) (by decide) dX4_init_5 (fun q_1 H hw => ?_)
  have hw : Wo E A s [oC a_j 4 [.null, .null, .null, .long 0, .int 0, .int 0, .int 0], oC q_1 0 [.null, .null, .null, .null, .null]] H _ := hw
  refine lv_dup S.1 S.2.1 dX4_init_8 rfl ?_
  obtain ⟨_, hc_1, hf⟩ := bd_s hf
  refine g_ncallv (wc := [oC q_1 0 [.null, .null, .null, .null, .null]]) (wr := [oC a_j 4 [.null, .null, .null, .long 0, .int 0, .int 0, .int 0]]) (w1 := (fun u_3 => [oC q_1 0 [.ref (u_3 0), .ref (u_3 6), .ref (u_3 7), .ref (u_3 8), .ref (u_3 9)], oC (u_3 0) 7 [.ref (u_3 1), .ref (u_3 2), .ref (u_3 3), .ref (u_3 4), .ref (u_3 5), .int 0, .int 0], aI E (u_3 1) 4096 (fun _ => 0), aI E (u_3 2) 2584 (fun _ => 0), aI E (u_3 3) 2584 (fun _ => 0), aI E (u_3 4) 256 (fun _ => 0), aI E (u_3 5) 16 (fun _ => 0), aI E (u_3 6) 256 (fun _ => 0), aJ E (u_3 7) 256 (fun _ => 0), aI E (u_3 8) 2584 (fun _ => 0), aJ E (u_3 9) 2584 (fun _ => 0)])) (va_runIN (As := []) (rest := [.ref q_1, .ref a_j]) S (c_X0_init l E q_1 hc_1 _) ⟨(va_cnB 0 S.2.2.2.2 gX4_init_X0_init_n11 rfl rfl rfl (hN.2 _ w11) kIX0 (by decide +kernel) (rm_le (by omega) (by decide))), rfl, kSX0_init⟩ (preS hN hw [1] rfl rfl) rfl rfl hl.1 rfl (lv_room (Nat.le_of_ble_eq_true rfl)) dX4_init_9 ⟨by decide, by decide⟩) hw hA [1] [0] rfl rfl rfl (by decide) (fun u_3 H locs hw => ?_)
  have hw : Wo E A s [oC a_j 4 [.null, .null, .null, .long 0, .int 0, .int 0, .int 0], oC q_1 0 [.ref (u_3 0), .ref (u_3 6), .ref (u_3 7), .ref (u_3 8), .ref (u_3 9)], oC (u_3 0) 7 [.ref (u_3 1), .ref (u_3 2), .ref (u_3 3), .ref (u_3 4), .ref (u_3 5), .int 0, .int 0], aI E (u_3 1) 4096 (fun _ => 0), aI E (u_3 2) 2584 (fun _ => 0), aI E (u_3 3) 2584 (fun _ => 0), aI E (u_3 4) 256 (fun _ => 0), aI E (u_3 5) 16 (fun _ => 0), aI E (u_3 6) 256 (fun _ => 0), aJ E (u_3 7) 256 (fun _ => 0), aI E (u_3 8) 2584 (fun _ => 0), aJ E (u_3 9) 2584 (fun _ => 0)] H _ := hw
  refine g_putF S hN hw (C := RX4) (T := TX4) (N := 7) (ci := 4) (ty := (.object "PairMatching$Chooser")) (w1 := [oC a_j 4 [.null, .ref q_1, .null, .long 0, .int 0, .int 0, .int 0], oC q_1 0 [.ref (u_3 0), .ref (u_3 6), .ref (u_3 7), .ref (u_3 8), .ref (u_3 9)], oC (u_3 0) 7 [.ref (u_3 1), .ref (u_3 2), .ref (u_3 3), .ref (u_3 4), .ref (u_3 5), .int 0, .int 0], aI E (u_3 1) 4096 (fun _ => 0), aI E (u_3 2) 2584 (fun _ => 0), aI E (u_3 3) 2584 (fun _ => 0), aI E (u_3 4) 256 (fun _ => 0), aI E (u_3 5) 16 (fun _ => 0), aI E (u_3 6) 256 (fun _ => 0), aJ E (u_3 7) 256 (fun _ => 0), aI E (u_3 8) 2584 (fun _ => 0), aJ E (u_3 9) 2584 (fun _ => 0)]) 0 1 iX4 k12 tyX4 tyX4_ok nmX4 dX4_init_12 hnm rfl rfl (by decide) rfl rfl (by decide +kernel) rfl rfl (Nat.le_of_ble_eq_true rfl) rfl (fun H locs hw => ?_)
  refine lv_aload_n S.1 S.2.1 dX4_init_15 rfl (lv_at hl 0 rfl) ?_
  refine lv_bipush (v := 16) S.1 S.2.1 dX4_init_16 (by decide) ?_
  refine g_newaI (N := 16) S hN hw hA kAI (by decide) (by decide) (by decide) (by decide) (by decide) dX4_init_18 (fun q_4 H hw => ?_)
  have hw : Wo E A s [oC a_j 4 [.null, .ref q_1, .null, .long 0, .int 0, .int 0, .int 0], oC q_1 0 [.ref (u_3 0), .ref (u_3 6), .ref (u_3 7), .ref (u_3 8), .ref (u_3 9)], oC (u_3 0) 7 [.ref (u_3 1), .ref (u_3 2), .ref (u_3 3), .ref (u_3 4), .ref (u_3 5), .int 0, .int 0], aI E (u_3 1) 4096 (fun _ => 0), aI E (u_3 2) 2584 (fun _ => 0), aI E (u_3 3) 2584 (fun _ => 0), aI E (u_3 4) 256 (fun _ => 0), aI E (u_3 5) 16 (fun _ => 0), aI E (u_3 6) 256 (fun _ => 0), aJ E (u_3 7) 256 (fun _ => 0), aI E (u_3 8) 2584 (fun _ => 0), aJ E (u_3 9) 2584 (fun _ => 0), aI E q_4 16 (fun _ => 0)] H _ := hw
  refine g_putF S hN hw (C := RX4) (T := TX4) (N := 7) (ci := 4) (ty := (.array .int)) (w1 := [oC a_j 4 [.null, .ref q_1, .ref q_4, .long 0, .int 0, .int 0, .int 0], oC q_1 0 [.ref (u_3 0), .ref (u_3 6), .ref (u_3 7), .ref (u_3 8), .ref (u_3 9)], oC (u_3 0) 7 [.ref (u_3 1), .ref (u_3 2), .ref (u_3 3), .ref (u_3 4), .ref (u_3 5), .int 0, .int 0], aI E (u_3 1) 4096 (fun _ => 0), aI E (u_3 2) 2584 (fun _ => 0), aI E (u_3 3) 2584 (fun _ => 0), aI E (u_3 4) 256 (fun _ => 0), aI E (u_3 5) 16 (fun _ => 0), aI E (u_3 6) 256 (fun _ => 0), aJ E (u_3 7) 256 (fun _ => 0), aI E (u_3 8) 2584 (fun _ => 0), aJ E (u_3 9) 2584 (fun _ => 0), aI E q_4 16 (fun _ => 0)]) 0 2 iX4 k18 tyX4 tyX4_ok nmX4 dX4_init_20 hnm rfl rfl (by decide) rfl rfl (by decide +kernel) rfl rfl (Nat.le_of_ble_eq_true rfl) rfl (fun H locs hw => ?_)
  refine lv_aload_n S.1 S.2.1 dX4_init_23 rfl (lv_at hl 0 rfl) ?_
  refine lv_iconst (v := (-1)) S.1 S.2.1 dX4_init_24 (by decide) ?_
  refine g_put S hN hw (C := RX4) (T := TX4) (N := 7) (ci := 4) (ty := .int) (w1 := [oC a_j 4 [.null, .ref q_1, .ref q_4, .long 0, .int 0, .int 0, .int (-1)], oC q_1 0 [.ref (u_3 0), .ref (u_3 6), .ref (u_3 7), .ref (u_3 8), .ref (u_3 9)], oC (u_3 0) 7 [.ref (u_3 1), .ref (u_3 2), .ref (u_3 3), .ref (u_3 4), .ref (u_3 5), .int 0, .int 0], aI E (u_3 1) 4096 (fun _ => 0), aI E (u_3 2) 2584 (fun _ => 0), aI E (u_3 3) 2584 (fun _ => 0), aI E (u_3 4) 256 (fun _ => 0), aI E (u_3 5) 16 (fun _ => 0), aI E (u_3 6) 256 (fun _ => 0), aJ E (u_3 7) 256 (fun _ => 0), aI E (u_3 8) 2584 (fun _ => 0), aJ E (u_3 9) 2584 (fun _ => 0), aI E q_4 16 (fun _ => 0)]) 0 6 iX4 k22 tyX4 tyX4_ok nmX4 dX4_init_25 rfl rfl (by decide) rfl (by decide +kernel) rfl rfl (Nat.le_of_ble_eq_true rfl) rfl (fun H locs hw => ?_)
  refine lv_aload_n S.1 S.2.1 dX4_init_28 rfl (lv_at hl 0 rfl) ?_
  refine lv_aload_n S.1 S.2.1 dX4_init_29 rfl (lv_at hl 1 rfl) ?_
  refine g_putF S hN hw (C := RX4) (T := TX4) (N := 7) (ci := 4) (ty := (.object "PairMatching$Graph")) (w1 := [oC a_j 4 [.ref a_g, .ref q_1, .ref q_4, .long 0, .int 0, .int 0, .int (-1)], oC q_1 0 [.ref (u_3 0), .ref (u_3 6), .ref (u_3 7), .ref (u_3 8), .ref (u_3 9)], oC (u_3 0) 7 [.ref (u_3 1), .ref (u_3 2), .ref (u_3 3), .ref (u_3 4), .ref (u_3 5), .int 0, .int 0], aI E (u_3 1) 4096 (fun _ => 0), aI E (u_3 2) 2584 (fun _ => 0), aI E (u_3 3) 2584 (fun _ => 0), aI E (u_3 4) 256 (fun _ => 0), aI E (u_3 5) 16 (fun _ => 0), aI E (u_3 6) 256 (fun _ => 0), aJ E (u_3 7) 256 (fun _ => 0), aI E (u_3 8) 2584 (fun _ => 0), aJ E (u_3 9) 2584 (fun _ => 0), aI E q_4 16 (fun _ => 0)]) 0 0 iX4 k26 tyX4 tyX4_ok nmX4 dX4_init_30 hnm rfl rfl (by decide) rfl rfl (by decide +kernel) rfl rfl (Nat.le_of_ble_eq_true rfl) rfl (fun H locs hw => ?_)
  cases hf
  exact hE (fun i => ([q_1, (u_3 0), (u_3 1), (u_3 2), (u_3 3), (u_3 4), (u_3 5), (u_3 6), (u_3 7), (u_3 8), (u_3 9), q_4] : List Nat).getD i 0) _ _ _ _ hw dX4_init_33
def f_X9_init  : Option (Unit) :=
  some ()
set_option maxHeartbeats 4000000 in
set_option maxRecDepth 100000 in
theorem c_X9_init (l : Launch) (E : Ev) (a_t : Nat) (a_g : Nat) (a_k : Nat)  (hf : f_X9_init = some ()) :
    CnV l yX9_init wsX9_init (Ra 1 4 544) E [.ref a_t, .ref a_g, .ref a_k] [oC a_t 9 [.null, .null, .null, .null, .null, .null, .int 0, .long 0, .int 0, .int 0]] 4 544 (fun u => [oC a_t 9 [.ref a_g, .ref a_k, .ref (u 0), .ref (u 1), .ref (u 2), .ref (u 3), .int 0, .long 0, .int (-1), .int (-1)], aJ E (u 0) 256 (fun _ => 0), aI E (u 1) 16 (fun _ => 0), aI E (u 2) 256 (fun _ => 0), aI E (u 3) 16 (fun _ => 0)]) := by
  refine onV (cc := cX9_init) (maxL := 3) (own := RX9) (by decide) rfl rfl ?_
  intro p e s m below meth c A ls Q S hnm hN hw hA hl0 hE
  have hl : lv_has ls 3 [(0, .ref a_t), (1, .ref a_g), (2, .ref a_k)] := hl0 _ (lv_entry [.ref a_t, .ref a_g, .ref a_k] (n := 3) (Nat.le_of_ble_eq_true rfl))
  have iX9 : ∀ w ∈ wsX90, w ∈ wsX9_init := by decide +kernel
  have k15 := S.2.2.2.2 (.fieldLink RX9 15 "PairMatching$Stables" "open" "[I") (by decide +kernel)
  have k19 := S.2.2.2.2 (.fieldLink RX9 19 "PairMatching$Stables" "sooner" "[I") (by decide +kernel)
  have k22 := S.2.2.2.2 (.fieldLink RX9 22 "PairMatching$Stables" "wanted" "[I") (by decide +kernel)
  have k25 := S.2.2.2.2 (.fieldLink RX9 25 "PairMatching$Stables" "graphAge" "I") (by decide +kernel)
  have k29 := S.2.2.2.2 (.fieldLink RX9 29 "PairMatching$Stables" "ranksAge" "I") (by decide +kernel)
  have k32 := S.2.2.2.2 (.fieldLink RX9 32 "PairMatching$Stables" "graph" "LPairMatching$Graph;") (by decide +kernel)
  have k36 := S.2.2.2.2 (.fieldLink RX9 36 "PairMatching$Stables" "ranks" "LPairMatching$Ranks;") (by decide +kernel)
  have k9 := S.2.2.2.2 (.fieldLink RX9 9 "PairMatching$Stables" "arcBetween" "[J") (by decide +kernel)
  have kAI := S.2.2.2.2 (.arrayClass .int) (by decide +kernel)
  have kAJ := S.2.2.2.2 (.arrayClass .long) (by decide +kernel)
  have kOb1 := S.2.2.2.2 (.methodLink RX9 3 objectInit) (by decide +kernel)
  have kOb2 := S.2.2.2.2 (.instanceMethod objectInit) (by decide +kernel)
  have kOb3 := S.2.2.2.2 (.code objectInit ⟨#[0xb1]⟩ 1 none) (by decide +kernel)
  unfold f_X9_init at hf
  refine lv_aload_n S.1 S.2.1 dX9_init_0 rfl (lv_at hl 0 rfl) ?_
  refine W.objInit S.1 S.2.1 S.2.2.2.1 kOb1 kOb2 kOb3 rfl (by rw [S.2.2.1]; exact hl.1) rfl dX9_init_1 (rm_f (by omega)) (Nat.le_trans (Nat.le_of_ble_eq_true rfl : _ ≤ 40) (rm_l (by omega))) ?_
  refine W.eq (g2 := F0 m 4 ls []) rfl ?_
  refine lv_aload_n S.1 S.2.1 dX9_init_4 rfl (lv_at hl 0 rfl) ?_
  refine lv_sipush (v := 256) S.1 S.2.1 dX9_init_5 (by decide) ?_
  refine g_newaJ (N := 256) S hN hw hA kAJ (by decide) (by decide) (by decide) (by decide) (by decide) dX9_init_8 (fun q_1 H hw => ?_)
  have hw : Wo E A s [oC a_t 9 [.null, .null, .null, .null, .null, .null, .int 0, .long 0, .int 0, .int 0], aJ E q_1 256 (fun _ => 0)] H _ := hw
  refine g_putF S hN hw (C := RX9) (T := TX9) (N := 10) (ci := 9) (ty := (.array .long)) (w1 := [oC a_t 9 [.null, .null, .ref q_1, .null, .null, .null, .int 0, .long 0, .int 0, .int 0], aJ E q_1 256 (fun _ => 0)]) 0 2 iX9 k9 tyX9 tyX9_ok nmX9 dX9_init_10 hnm rfl rfl (by decide) rfl rfl (by decide +kernel) rfl rfl (Nat.le_of_ble_eq_true rfl) rfl (fun H locs hw => ?_)
  refine lv_aload_n S.1 S.2.1 dX9_init_13 rfl (lv_at hl 0 rfl) ?_
  refine lv_bipush (v := 16) S.1 S.2.1 dX9_init_14 (by decide) ?_
  refine g_newaI (N := 16) S hN hw hA kAI (by decide) (by decide) (by decide) (by decide) (by decide) dX9_init_16 (fun q_2 H hw => ?_)
  have hw : Wo E A s [oC a_t 9 [.null, .null, .ref q_1, .null, .null, .null, .int 0, .long 0, .int 0, .int 0], aJ E q_1 256 (fun _ => 0), aI E q_2 16 (fun _ => 0)] H _ := hw
  refine g_putF S hN hw (C := RX9) (T := TX9) (N := 10) (ci := 9) (ty := (.array .int)) (w1 := [oC a_t 9 [.null, .null, .ref q_1, .ref q_2, .null, .null, .int 0, .long 0, .int 0, .int 0], aJ E q_1 256 (fun _ => 0), aI E q_2 16 (fun _ => 0)]) 0 3 iX9 k15 tyX9 tyX9_ok nmX9 dX9_init_18 hnm rfl rfl (by decide) rfl rfl (by decide +kernel) rfl rfl (Nat.le_of_ble_eq_true rfl) rfl (fun H locs hw => ?_)
  refine lv_aload_n S.1 S.2.1 dX9_init_21 rfl (lv_at hl 0 rfl) ?_
  refine lv_sipush (v := 256) S.1 S.2.1 dX9_init_22 (by decide) ?_
  refine g_newaI (N := 256) S hN hw hA kAI (by decide) (by decide) (by decide) (by decide) (by decide) dX9_init_25 (fun q_3 H hw => ?_)
  have hw : Wo E A s [oC a_t 9 [.null, .null, .ref q_1, .ref q_2, .null, .null, .int 0, .long 0, .int 0, .int 0], aJ E q_1 256 (fun _ => 0), aI E q_2 16 (fun _ => 0), aI E q_3 256 (fun _ => 0)] H _ := hw
  refine g_putF S hN hw (C := RX9) (T := TX9) (N := 10) (ci := 9) (ty := (.array .int)) (w1 := [oC a_t 9 [.null, .null, .ref q_1, .ref q_2, .ref q_3, .null, .int 0, .long 0, .int 0, .int 0], aJ E q_1 256 (fun _ => 0), aI E q_2 16 (fun _ => 0), aI E q_3 256 (fun _ => 0)]) 0 4 iX9 k19 tyX9 tyX9_ok nmX9 dX9_init_27 hnm rfl rfl (by decide) rfl rfl (by decide +kernel) rfl rfl (Nat.le_of_ble_eq_true rfl) rfl (fun H locs hw => ?_)
  refine lv_aload_n S.1 S.2.1 dX9_init_30 rfl (lv_at hl 0 rfl) ?_
  refine lv_bipush (v := 16) S.1 S.2.1 dX9_init_31 (by decide) ?_
  refine g_newaI (N := 16) S hN hw hA kAI (by decide) (by decide) (by decide) (by decide) (by decide) dX9_init_33 (fun q_4 H hw => ?_)
  have hw : Wo E A s [oC a_t 9 [.null, .null, .ref q_1, .ref q_2, .ref q_3, .null, .int 0, .long 0, .int 0, .int 0], aJ E q_1 256 (fun _ => 0), aI E q_2 16 (fun _ => 0), aI E q_3 256 (fun _ => 0), aI E q_4 16 (fun _ => 0)] H _ := hw
  refine g_putF S hN hw (C := RX9) (T := TX9) (N := 10) (ci := 9) (ty := (.array .int)) (w1 := [oC a_t 9 [.null, .null, .ref q_1, .ref q_2, .ref q_3, .ref q_4, .int 0, .long 0, .int 0, .int 0], aJ E q_1 256 (fun _ => 0), aI E q_2 16 (fun _ => 0), aI E q_3 256 (fun _ => 0), aI E q_4 16 (fun _ => 0)]) 0 5 iX9 k22 tyX9 tyX9_ok nmX9 dX9_init_35 hnm rfl rfl (by decide) rfl rfl (by decide +kernel) rfl rfl (Nat.le_of_ble_eq_true rfl) rfl (fun H locs hw => ?_)
  refine lv_aload_n S.1 S.2.1 dX9_init_38 rfl (lv_at hl 0 rfl) ?_
  refine lv_iconst (v := (-1)) S.1 S.2.1 dX9_init_39 (by decide) ?_
  refine g_put S hN hw (C := RX9) (T := TX9) (N := 10) (ci := 9) (ty := .int) (w1 := [oC a_t 9 [.null, .null, .ref q_1, .ref q_2, .ref q_3, .ref q_4, .int 0, .long 0, .int (-1), .int 0], aJ E q_1 256 (fun _ => 0), aI E q_2 16 (fun _ => 0), aI E q_3 256 (fun _ => 0), aI E q_4 16 (fun _ => 0)]) 0 8 iX9 k25 tyX9 tyX9_ok nmX9 dX9_init_40 rfl rfl (by decide) rfl (by decide +kernel) rfl rfl (Nat.le_of_ble_eq_true rfl) rfl (fun H locs hw => ?_)
  refine lv_aload_n S.1 S.2.1 dX9_init_43 rfl (lv_at hl 0 rfl) ?_
  refine lv_iconst (v := (-1)) S.1 S.2.1 dX9_init_44 (by decide) ?_
  refine g_put S hN hw (C := RX9) (T := TX9) (N := 10) (ci := 9) (ty := .int) (w1 := [oC a_t 9 [.null, .null, .ref q_1, .ref q_2, .ref q_3, .ref q_4, .int 0, .long 0, .int (-1), .int (-1)], aJ E q_1 256 (fun _ => 0), aI E q_2 16 (fun _ => 0), aI E q_3 256 (fun _ => 0), aI E q_4 16 (fun _ => 0)]) 0 9 iX9 k29 tyX9 tyX9_ok nmX9 dX9_init_45 rfl rfl (by decide) rfl (by decide +kernel) rfl rfl (Nat.le_of_ble_eq_true rfl) rfl (fun H locs hw => ?_)
  refine lv_aload_n S.1 S.2.1 dX9_init_48 rfl (lv_at hl 0 rfl) ?_
  refine lv_aload_n S.1 S.2.1 dX9_init_49 rfl (lv_at hl 1 rfl) ?_
  refine g_putF S hN hw (C := RX9) (T := TX9) (N := 10) (ci := 9) (ty := (.object "PairMatching$Graph")) (w1 := [oC a_t 9 [.ref a_g, .null, .ref q_1, .ref q_2, .ref q_3, .ref q_4, .int 0, .long 0, .int (-1), .int (-1)], aJ E q_1 256 (fun _ => 0), aI E q_2 16 (fun _ => 0), aI E q_3 256 (fun _ => 0), aI E q_4 16 (fun _ => 0)]) 0 0 iX9 k32 tyX9 tyX9_ok nmX9 dX9_init_50 hnm rfl rfl (by decide) rfl rfl (by decide +kernel) rfl rfl (Nat.le_of_ble_eq_true rfl) rfl (fun H locs hw => ?_)
  refine lv_aload_n S.1 S.2.1 dX9_init_53 rfl (lv_at hl 0 rfl) ?_
  refine lv_aload_n S.1 S.2.1 dX9_init_54 rfl (lv_at hl 2 rfl) ?_
  refine g_putF S hN hw (C := RX9) (T := TX9) (N := 10) (ci := 9) (ty := (.object "PairMatching$Ranks")) (w1 := [oC a_t 9 [.ref a_g, .ref a_k, .ref q_1, .ref q_2, .ref q_3, .ref q_4, .int 0, .long 0, .int (-1), .int (-1)], aJ E q_1 256 (fun _ => 0), aI E q_2 16 (fun _ => 0), aI E q_3 256 (fun _ => 0), aI E q_4 16 (fun _ => 0)]) 0 1 iX9 k36 tyX9 tyX9_ok nmX9 dX9_init_55 hnm rfl rfl (by decide) rfl rfl (by decide +kernel) rfl rfl (Nat.le_of_ble_eq_true rfl) rfl (fun H locs hw => ?_)
  cases hf
  exact hE (fun i => ([q_1, q_2, q_3, q_4] : List Nat).getD i 0) _ _ _ _ hw dX9_init_58
def f_X11_init  : Option ((Nat → Int32)) :=
  (f_X2_init).bind (fun _ => (f_X6_init).bind (fun k_given_5 => some k_given_5))
set_option maxHeartbeats 4000000 in
set_option maxRecDepth 100000 in
theorem c_X11_init (l : Launch) (E : Ev) (a_x : Nat) (u_k_given : Nat → Int32) (hf : f_X11_init = some u_k_given) :
    CnV l yX11_init wsX11_init (Ra 2 8 523) E [.ref a_x] [oC a_x 11 [.null, .null, .null, .null, .null, .null, .null, .null]] 8 523 (fun u => [oC a_x 11 [.ref (u 0), .ref (u 6), .null, .null, .null, .null, .null, .null], oC (u 0) 2 [.int 0, .int 0, .int 0, .int 0, .ref (u 1), .ref (u 2), .ref (u 3), .ref (u 4), .ref (u 5)], aI E (u 1) 60 (fun _ => 0), aI E (u 2) 60 (fun _ => 0), aI E (u 3) 60 (fun _ => 0), aZ E (u 4) 60 (fun _ => 0), aI E (u 5) 16 (fun _ => 0), oC (u 6) 6 [.int 0, .ref (u 7)], aI E (u 7) 256 u_k_given]) := by
  refine onV (cc := cX11_init) (maxL := 1) (own := RX11) (by decide) rfl rfl ?_
  intro p e s m below meth c A ls Q S hnm hN hw hA hl0 hE
  have hl : lv_has ls 1 [(0, .ref a_x)] := hl0 _ (lv_entry [.ref a_x] (n := 1) (Nat.le_of_ble_eq_true rfl))
  have iX11 : ∀ w ∈ wsX110, w ∈ wsX11_init := by decide +kernel
  have iX2 : ∀ w ∈ wsX20, w ∈ wsX11_init := by decide +kernel
  have iX6 : ∀ w ∈ wsX60, w ∈ wsX11_init := by decide +kernel
  have k12 := S.2.2.2.2 (.fieldLink RX11 12 "PairMatching" "graph" "LPairMatching$Graph;") (by decide +kernel)
  have k19 := S.2.2.2.2 (.fieldLink RX11 19 "PairMatching" "ranks" "LPairMatching$Ranks;") (by decide +kernel)
  have kCX2 := S.2.2.2.2 (.classLink RX11 9 RX2) (by decide +kernel)
  have kCX6 := S.2.2.2.2 (.classLink RX11 16 RX6) (by decide +kernel)
  have kIX2 := S.2.2.2.2 (.initialized RX2) (by decide +kernel)
  have kIX6 := S.2.2.2.2 (.initialized RX6) (by decide +kernel)
  have kM18 := S.2.2.2.2 (.methodLink RX11 18 yX6_init) (by decide +kernel)
  have kNX2 := S.2.2.2.2 (.instantiable RX2 9) (by decide +kernel)
  have kNX6 := S.2.2.2.2 (.instantiable RX6 2) (by decide +kernel)
  have kOb1 := S.2.2.2.2 (.methodLink RX11 3 objectInit) (by decide +kernel)
  have kOb2 := S.2.2.2.2 (.instanceMethod objectInit) (by decide +kernel)
  have kOb3 := S.2.2.2.2 (.code objectInit ⟨#[0xb1]⟩ 1 none) (by decide +kernel)
  have kSX2_init := S.2.2.2.2 (.instanceMethod yX2_init) (by decide +kernel)
  have kSX6_init := S.2.2.2.2 (.instanceMethod yX6_init) (by decide +kernel)
  have w11 : Cond.methodLinkNest RX11 11 yX2_init "PairMatching" ∈ nestW := List.mem_of_getElem? (i := 0) rfl
  unfold f_X11_init at hf
  refine lv_aload_n S.1 S.2.1 dX11_init_0 rfl (lv_at hl 0 rfl) ?_
  refine W.objInit S.1 S.2.1 S.2.2.2.1 kOb1 kOb2 kOb3 rfl (by rw [S.2.2.1]; exact hl.1) rfl dX11_init_1 (rm_f (by omega)) (Nat.le_trans (Nat.le_of_ble_eq_true rfl : _ ≤ 40) (rm_l (by omega))) ?_
  refine W.eq (g2 := F0 m 4 ls []) rfl ?_
  refine lv_aload_n S.1 S.2.1 dX11_init_4 rfl (lv_at hl 0 rfl) ?_
  refine g_new S hN hw hA (C := RX2) (T := TX2) (N := 9) (ci := 2) (fs := [.int 0, .int 0, .int 0, .int 0, .null, .null, .null, .null, .null]) iX2 tyX2 tyX2_ok kCX2 kNX2 kIX2 rfl (fun j hj => by rcases (show j = 0 ∨ j = 1 ∨ j = 2 ∨ j = 3 ∨ j = 4 ∨ j = 5 ∨ j = 6 ∨ j = 7 ∨ j = 8 by omega) with rfl | rfl | rfl | rfl | rfl | rfl | rfl | rfl | rfl <;> rfl) (by decide) (by decide) dX11_init_5 (fun q_1 H hw => ?_)
  have hw : Wo E A s [oC a_x 11 [.null, .null, .null, .null, .null, .null, .null, .null], oC q_1 2 [.int 0, .int 0, .int 0, .int 0, .null, .null, .null, .null, .null]] H _ := hw
  refine lv_dup S.1 S.2.1 dX11_init_8 rfl ?_
  obtain ⟨_, hc_1, hf⟩ := bd_s hf
  refine g_ncallv (wc := [oC q_1 2 [.int 0, .int 0, .int 0, .int 0, .null, .null, .null, .null, .null]]) (wr := [oC a_x 11 [.null, .null, .null, .null, .null, .null, .null, .null]]) (w1 := (fun u_3 => [oC q_1 2 [.int 0, .int 0, .int 0, .int 0, .ref (u_3 0), .ref (u_3 1), .ref (u_3 2), .ref (u_3 3), .ref (u_3 4)], aI E (u_3 0) 60 (fun _ => 0), aI E (u_3 1) 60 (fun _ => 0), aI E (u_3 2) 60 (fun _ => 0), aZ E (u_3 3) 60 (fun _ => 0), aI E (u_3 4) 16 (fun _ => 0)])) (va_runIN (As := []) (rest := [.ref q_1, .ref a_x]) S (c_X2_init l E q_1 hc_1 _) ⟨(va_cnB 0 S.2.2.2.2 gX11_init_X2_init_n11 rfl rfl rfl (hN.2 _ w11) kIX2 (by decide +kernel) (rm_le (by omega) (by decide))), rfl, kSX2_init⟩ (preS hN hw [1] rfl rfl) rfl rfl hl.1 rfl (lv_room (Nat.le_of_ble_eq_true rfl)) dX11_init_9 ⟨by decide, by decide⟩) hw hA [1] [0] rfl rfl rfl (by decide) (fun u_3 H locs hw => ?_)
  have hw : Wo E A s [oC a_x 11 [.null, .null, .null, .null, .null, .null, .null, .null], oC q_1 2 [.int 0, .int 0, .int 0, .int 0, .ref (u_3 0), .ref (u_3 1), .ref (u_3 2), .ref (u_3 3), .ref (u_3 4)], aI E (u_3 0) 60 (fun _ => 0), aI E (u_3 1) 60 (fun _ => 0), aI E (u_3 2) 60 (fun _ => 0), aZ E (u_3 3) 60 (fun _ => 0), aI E (u_3 4) 16 (fun _ => 0)] H _ := hw
  refine g_putF S hN hw (C := RX11) (T := TX11) (N := 8) (ci := 11) (ty := (.object "PairMatching$Graph")) (w1 := [oC a_x 11 [.ref q_1, .null, .null, .null, .null, .null, .null, .null], oC q_1 2 [.int 0, .int 0, .int 0, .int 0, .ref (u_3 0), .ref (u_3 1), .ref (u_3 2), .ref (u_3 3), .ref (u_3 4)], aI E (u_3 0) 60 (fun _ => 0), aI E (u_3 1) 60 (fun _ => 0), aI E (u_3 2) 60 (fun _ => 0), aZ E (u_3 3) 60 (fun _ => 0), aI E (u_3 4) 16 (fun _ => 0)]) 0 0 iX11 k12 tyX11 tyX11_ok nmX11 dX11_init_12 hnm rfl rfl (by decide) rfl rfl (by decide +kernel) rfl rfl (Nat.le_of_ble_eq_true rfl) rfl (fun H locs hw => ?_)
  refine lv_aload_n S.1 S.2.1 dX11_init_15 rfl (lv_at hl 0 rfl) ?_
  refine g_new S hN hw hA (C := RX6) (T := TX6) (N := 2) (ci := 6) (fs := [.int 0, .null]) iX6 tyX6 tyX6_ok kCX6 kNX6 kIX6 rfl (fun j hj => by rcases (show j = 0 ∨ j = 1 by omega) with rfl | rfl <;> rfl) (by decide) (by decide) dX11_init_16 (fun q_4 H hw => ?_)
  have hw : Wo E A s [oC a_x 11 [.ref q_1, .null, .null, .null, .null, .null, .null, .null], oC q_1 2 [.int 0, .int 0, .int 0, .int 0, .ref (u_3 0), .ref (u_3 1), .ref (u_3 2), .ref (u_3 3), .ref (u_3 4)], aI E (u_3 0) 60 (fun _ => 0), aI E (u_3 1) 60 (fun _ => 0), aI E (u_3 2) 60 (fun _ => 0), aZ E (u_3 3) 60 (fun _ => 0), aI E (u_3 4) 16 (fun _ => 0), oC q_4 6 [.int 0, .null]] H _ := hw
  refine lv_dup S.1 S.2.1 dX11_init_19 rfl ?_
  obtain ⟨k_given_5, hc_5, hf⟩ := bd_s hf
  refine g_ncallv (wc := [oC q_4 6 [.int 0, .null]]) (wr := [oC a_x 11 [.ref q_1, .null, .null, .null, .null, .null, .null, .null], oC q_1 2 [.int 0, .int 0, .int 0, .int 0, .ref (u_3 0), .ref (u_3 1), .ref (u_3 2), .ref (u_3 3), .ref (u_3 4)], aI E (u_3 0) 60 (fun _ => 0), aI E (u_3 1) 60 (fun _ => 0), aI E (u_3 2) 60 (fun _ => 0), aZ E (u_3 3) 60 (fun _ => 0), aI E (u_3 4) 16 (fun _ => 0)]) (w1 := (fun u_7 => [oC q_4 6 [.int 0, .ref (u_7 0)], aI E (u_7 0) 256 k_given_5])) (va_runI (As := []) (rest := [.ref q_4, .ref a_x]) S (c_X6_init l E q_4 k_given_5 hc_5 _) (cwI 0 S.2.2.2.2 gX11_init_X6_init rfl rfl rfl kIX6 kM18 kSX6_init rfl (by decide +kernel) (rm_le (by omega) (by decide))) (preS hN hw [7] rfl rfl) rfl rfl hl.1 rfl (lv_room (Nat.le_of_ble_eq_true rfl)) dX11_init_20 ⟨by decide, by decide⟩) hw hA [7] [0, 1, 2, 3, 4, 5, 6] rfl rfl rfl (by decide) (fun u_7 H locs hw => ?_)
  have hw : Wo E A s [oC a_x 11 [.ref q_1, .null, .null, .null, .null, .null, .null, .null], oC q_1 2 [.int 0, .int 0, .int 0, .int 0, .ref (u_3 0), .ref (u_3 1), .ref (u_3 2), .ref (u_3 3), .ref (u_3 4)], aI E (u_3 0) 60 (fun _ => 0), aI E (u_3 1) 60 (fun _ => 0), aI E (u_3 2) 60 (fun _ => 0), aZ E (u_3 3) 60 (fun _ => 0), aI E (u_3 4) 16 (fun _ => 0), oC q_4 6 [.int 0, .ref (u_7 0)], aI E (u_7 0) 256 k_given_5] H _ := hw
  refine g_putF S hN hw (C := RX11) (T := TX11) (N := 8) (ci := 11) (ty := (.object "PairMatching$Ranks")) (w1 := [oC a_x 11 [.ref q_1, .ref q_4, .null, .null, .null, .null, .null, .null], oC q_1 2 [.int 0, .int 0, .int 0, .int 0, .ref (u_3 0), .ref (u_3 1), .ref (u_3 2), .ref (u_3 3), .ref (u_3 4)], aI E (u_3 0) 60 (fun _ => 0), aI E (u_3 1) 60 (fun _ => 0), aI E (u_3 2) 60 (fun _ => 0), aZ E (u_3 3) 60 (fun _ => 0), aI E (u_3 4) 16 (fun _ => 0), oC q_4 6 [.int 0, .ref (u_7 0)], aI E (u_7 0) 256 k_given_5]) 0 1 iX11 k19 tyX11 tyX11_ok nmX11 dX11_init_23 hnm rfl rfl (by decide) rfl rfl (by decide +kernel) rfl rfl (Nat.le_of_ble_eq_true rfl) rfl (fun H locs hw => ?_)
  cases hf
  exact hE (fun i => ([q_1, (u_3 0), (u_3 1), (u_3 2), (u_3 3), (u_3 4), q_4, (u_7 0)] : List Nat).getD i 0) _ _ _ _ hw dX11_init_26
def f_X12_init  : Option (Unit) :=
  some ()
set_option maxHeartbeats 4000000 in
set_option maxRecDepth 100000 in
theorem c_X12_init (l : Launch) (E : Ev) (a_m : Nat)  (hf : f_X12_init = some ()) :
    CnV l yX12_init wsX12_init (Ra 1 26 395013) E [.ref a_m] [oC a_m 12 [.int 0, .int 0, .null, .null, .null, .null, .null, .int 0, .null, .null, .null, .null, .null, .null, .null, .null, .null, .null, .null, .int 0, .int 0, .int 0, .null, .int 0, .int 0, .null, .null, .int 0, .null, .null, .null, .null, .null, .null, .null, .int 0, .long 0]] 26 395013 (fun u => [oC a_m 12 [.int 0, .int 0, .ref (u 0), .ref (u 1), .ref (u 2), .ref (u 3), .ref (u 4), .int 0, .ref (u 5), .ref (u 6), .ref (u 7), .ref (u 8), .ref (u 9), .ref (u 10), .ref (u 11), .ref (u 12), .ref (u 13), .ref (u 14), .ref (u 15), .int 0, .int 0, .int 0, .ref (u 16), .int 0, .int 0, .ref (u 17), .ref (u 18), .int 0, .ref (u 19), .ref (u 20), .ref (u 21), .ref (u 22), .ref (u 23), .ref (u 24), .ref (u 25), .int 0, .long 0], aI E (u 0) 60 (fun _ => 0), aI E (u 1) 60 (fun _ => 0), aI E (u 2) 60 (fun _ => 0), aZ E (u 3) 60 (fun _ => 0), aI E (u 4) 256 (fun _ => 0), aI E (u 5) 65536 (fun _ => 0), aB E (u 6) 65536 (fun _ => 0), aB E (u 7) 65536 (fun _ => 0), aI E (u 8) 256 (fun _ => 0), aI E (u 9) 256 (fun _ => 0), aI E (u 10) 64 (fun _ => 0), aI E (u 11) 4 (fun _ => 0), aI E (u 12) 4 (fun _ => 0), aZ E (u 13) 4 (fun _ => 0), aI E (u 14) 16 (fun _ => 0), aI E (u 15) 16 (fun _ => 0), aZ E (u 16) 60 (fun _ => 0), aI E (u 17) 65536 (fun _ => 0), aZ E (u 18) 60 (fun _ => 0), aI E (u 19) 16 (fun _ => 0), aI E (u 20) 256 (fun _ => 0), aJ E (u 21) 65536 (fun _ => 0), aJ E (u 22) 65536 (fun _ => 0), aI E (u 23) 256 (fun _ => 0), aI E (u 24) 16 (fun _ => 0), aI E (u 25) 17 (fun _ => 0)]) := by
  refine onV (cc := cX12_init) (maxL := 1) (own := RX12) (by decide) rfl rfl ?_
  intro p e s m below meth c A ls Q S hnm hN hw hA hl0 hE
  have hl : lv_has ls 1 [(0, .ref a_m)] := hl0 _ (lv_entry [.ref a_m] (n := 1) (Nat.le_of_ble_eq_true rfl))
  have iX12 : ∀ w ∈ wsX120, w ∈ wsX12_init := by decide +kernel
  have k13 := S.2.2.2.2 (.fieldLink RX12 13 "PairMatchingModel" "to" "[I") (by decide +kernel)
  have k16 := S.2.2.2.2 (.fieldLink RX12 16 "PairMatchingModel" "weighs" "[I") (by decide +kernel)
  have k19 := S.2.2.2.2 (.fieldLink RX12 19 "PairMatchingModel" "alive" "[Z") (by decide +kernel)
  have k23 := S.2.2.2.2 (.fieldLink RX12 23 "PairMatchingModel" "ranks" "[I") (by decide +kernel)
  have k26 := S.2.2.2.2 (.constant RX12 26 65536) (by decide +kernel)
  have k27 := S.2.2.2.2 (.fieldLink RX12 27 "PairMatchingModel" "best" "[I") (by decide +kernel)
  have k30 := S.2.2.2.2 (.fieldLink RX12 30 "PairMatchingModel" "most" "[B") (by decide +kernel)
  have k34 := S.2.2.2.2 (.fieldLink RX12 34 "PairMatchingModel" "apart" "[B") (by decide +kernel)
  have k37 := S.2.2.2.2 (.fieldLink RX12 37 "PairMatchingModel" "near" "[I") (by decide +kernel)
  have k40 := S.2.2.2.2 (.fieldLink RX12 40 "PairMatchingModel" "worth" "[I") (by decide +kernel)
  have k43 := S.2.2.2.2 (.fieldLink RX12 43 "PairMatchingModel" "mates" "[I") (by decide +kernel)
  have k46 := S.2.2.2.2 (.fieldLink RX12 46 "PairMatchingModel" "sizes" "[I") (by decide +kernel)
  have k49 := S.2.2.2.2 (.fieldLink RX12 49 "PairMatchingModel" "sums" "[I") (by decide +kernel)
  have k52 := S.2.2.2.2 (.fieldLink RX12 52 "PairMatchingModel" "has" "[Z") (by decide +kernel)
  have k55 := S.2.2.2.2 (.fieldLink RX12 55 "PairMatchingModel" "sorts" "[I") (by decide +kernel)
  have k58 := S.2.2.2.2 (.fieldLink RX12 58 "PairMatchingModel" "pieces" "[I") (by decide +kernel)
  have k61 := S.2.2.2.2 (.fieldLink RX12 61 "PairMatchingModel" "inCover" "[Z") (by decide +kernel)
  have k64 := S.2.2.2.2 (.fieldLink RX12 64 "PairMatchingModel" "pairCost" "[I") (by decide +kernel)
  have k67 := S.2.2.2.2 (.fieldLink RX12 67 "PairMatchingModel" "inJoin" "[Z") (by decide +kernel)
  have k7 := S.2.2.2.2 (.fieldLink RX12 7 "PairMatchingModel" "from" "[I") (by decide +kernel)
  have k70 := S.2.2.2.2 (.fieldLink RX12 70 "PairMatchingModel" "half" "[I") (by decide +kernel)
  have k73 := S.2.2.2.2 (.fieldLink RX12 73 "PairMatchingModel" "way" "[I") (by decide +kernel)
  have k76 := S.2.2.2.2 (.fieldLink RX12 76 "PairMatchingModel" "counts" "[J") (by decide +kernel)
  have k80 := S.2.2.2.2 (.fieldLink RX12 80 "PairMatchingModel" "lastCounts" "[J") (by decide +kernel)
  have k83 := S.2.2.2.2 (.fieldLink RX12 83 "PairMatchingModel" "openArc" "[I") (by decide +kernel)
  have k86 := S.2.2.2.2 (.fieldLink RX12 86 "PairMatchingModel" "with" "[I") (by decide +kernel)
  have k89 := S.2.2.2.2 (.fieldLink RX12 89 "PairMatchingModel" "tried" "[I") (by decide +kernel)
  have kAB := S.2.2.2.2 (.arrayClass .byte) (by decide +kernel)
  have kAI := S.2.2.2.2 (.arrayClass .int) (by decide +kernel)
  have kAJ := S.2.2.2.2 (.arrayClass .long) (by decide +kernel)
  have kAZ := S.2.2.2.2 (.arrayClass .boolean) (by decide +kernel)
  have kOb1 := S.2.2.2.2 (.methodLink RX12 1 objectInit) (by decide +kernel)
  have kOb2 := S.2.2.2.2 (.instanceMethod objectInit) (by decide +kernel)
  have kOb3 := S.2.2.2.2 (.code objectInit ⟨#[0xb1]⟩ 1 none) (by decide +kernel)
  unfold f_X12_init at hf
  refine lv_aload_n S.1 S.2.1 dX12_init_0 rfl (lv_at hl 0 rfl) ?_
  refine W.objInit S.1 S.2.1 S.2.2.2.1 kOb1 kOb2 kOb3 rfl (by rw [S.2.2.1]; exact hl.1) rfl dX12_init_1 (rm_f (by omega)) (Nat.le_trans (Nat.le_of_ble_eq_true rfl : _ ≤ 40) (rm_l (by omega))) ?_
  refine W.eq (g2 := F0 m 4 ls []) rfl ?_
  refine lv_aload_n S.1 S.2.1 dX12_init_4 rfl (lv_at hl 0 rfl) ?_
  refine lv_bipush (v := 60) S.1 S.2.1 dX12_init_5 (by decide) ?_
  refine g_newaI (N := 60) S hN hw hA kAI (by decide) (by decide) (by decide) (by decide) (by decide) dX12_init_7 (fun q_1 H hw => ?_)
  have hw : Wo E A s [oC a_m 12 [.int 0, .int 0, .null, .null, .null, .null, .null, .int 0, .null, .null, .null, .null, .null, .null, .null, .null, .null, .null, .null, .int 0, .int 0, .int 0, .null, .int 0, .int 0, .null, .null, .int 0, .null, .null, .null, .null, .null, .null, .null, .int 0, .long 0], aI E q_1 60 (fun _ => 0)] H _ := hw
  refine g_putF S hN hw (C := RX12) (T := TX12) (N := 37) (ci := 12) (ty := (.array .int)) (w1 := [oC a_m 12 [.int 0, .int 0, .ref q_1, .null, .null, .null, .null, .int 0, .null, .null, .null, .null, .null, .null, .null, .null, .null, .null, .null, .int 0, .int 0, .int 0, .null, .int 0, .int 0, .null, .null, .int 0, .null, .null, .null, .null, .null, .null, .null, .int 0, .long 0], aI E q_1 60 (fun _ => 0)]) 0 2 iX12 k7 tyX12 tyX12_ok nmX12 dX12_init_9 hnm rfl rfl (by decide) rfl rfl (by decide +kernel) rfl rfl (Nat.le_of_ble_eq_true rfl) rfl (fun H locs hw => ?_)
  refine lv_aload_n S.1 S.2.1 dX12_init_12 rfl (lv_at hl 0 rfl) ?_
  refine lv_bipush (v := 60) S.1 S.2.1 dX12_init_13 (by decide) ?_
  refine g_newaI (N := 60) S hN hw hA kAI (by decide) (by decide) (by decide) (by decide) (by decide) dX12_init_15 (fun q_2 H hw => ?_)
  have hw : Wo E A s [oC a_m 12 [.int 0, .int 0, .ref q_1, .null, .null, .null, .null, .int 0, .null, .null, .null, .null, .null, .null, .null, .null, .null, .null, .null, .int 0, .int 0, .int 0, .null, .int 0, .int 0, .null, .null, .int 0, .null, .null, .null, .null, .null, .null, .null, .int 0, .long 0], aI E q_1 60 (fun _ => 0), aI E q_2 60 (fun _ => 0)] H _ := hw
  refine g_putF S hN hw (C := RX12) (T := TX12) (N := 37) (ci := 12) (ty := (.array .int)) (w1 := [oC a_m 12 [.int 0, .int 0, .ref q_1, .ref q_2, .null, .null, .null, .int 0, .null, .null, .null, .null, .null, .null, .null, .null, .null, .null, .null, .int 0, .int 0, .int 0, .null, .int 0, .int 0, .null, .null, .int 0, .null, .null, .null, .null, .null, .null, .null, .int 0, .long 0], aI E q_1 60 (fun _ => 0), aI E q_2 60 (fun _ => 0)]) 0 3 iX12 k13 tyX12 tyX12_ok nmX12 dX12_init_17 hnm rfl rfl (by decide) rfl rfl (by decide +kernel) rfl rfl (Nat.le_of_ble_eq_true rfl) rfl (fun H locs hw => ?_)
  refine lv_aload_n S.1 S.2.1 dX12_init_20 rfl (lv_at hl 0 rfl) ?_
  refine lv_bipush (v := 60) S.1 S.2.1 dX12_init_21 (by decide) ?_
  refine g_newaI (N := 60) S hN hw hA kAI (by decide) (by decide) (by decide) (by decide) (by decide) dX12_init_23 (fun q_3 H hw => ?_)
  have hw : Wo E A s [oC a_m 12 [.int 0, .int 0, .ref q_1, .ref q_2, .null, .null, .null, .int 0, .null, .null, .null, .null, .null, .null, .null, .null, .null, .null, .null, .int 0, .int 0, .int 0, .null, .int 0, .int 0, .null, .null, .int 0, .null, .null, .null, .null, .null, .null, .null, .int 0, .long 0], aI E q_1 60 (fun _ => 0), aI E q_2 60 (fun _ => 0), aI E q_3 60 (fun _ => 0)] H _ := hw
  refine g_putF S hN hw (C := RX12) (T := TX12) (N := 37) (ci := 12) (ty := (.array .int)) (w1 := [oC a_m 12 [.int 0, .int 0, .ref q_1, .ref q_2, .ref q_3, .null, .null, .int 0, .null, .null, .null, .null, .null, .null, .null, .null, .null, .null, .null, .int 0, .int 0, .int 0, .null, .int 0, .int 0, .null, .null, .int 0, .null, .null, .null, .null, .null, .null, .null, .int 0, .long 0], aI E q_1 60 (fun _ => 0), aI E q_2 60 (fun _ => 0), aI E q_3 60 (fun _ => 0)]) 0 4 iX12 k16 tyX12 tyX12_ok nmX12 dX12_init_25 hnm rfl rfl (by decide) rfl rfl (by decide +kernel) rfl rfl (Nat.le_of_ble_eq_true rfl) rfl (fun H locs hw => ?_)
  refine lv_aload_n S.1 S.2.1 dX12_init_28 rfl (lv_at hl 0 rfl) ?_
  refine lv_bipush (v := 60) S.1 S.2.1 dX12_init_29 (by decide) ?_
  refine g_newaZ (N := 60) S hN hw hA kAZ (by decide) (by decide) (by decide) (by decide) (by decide) dX12_init_31 (fun q_4 H hw => ?_)
  have hw : Wo E A s [oC a_m 12 [.int 0, .int 0, .ref q_1, .ref q_2, .ref q_3, .null, .null, .int 0, .null, .null, .null, .null, .null, .null, .null, .null, .null, .null, .null, .int 0, .int 0, .int 0, .null, .int 0, .int 0, .null, .null, .int 0, .null, .null, .null, .null, .null, .null, .null, .int 0, .long 0], aI E q_1 60 (fun _ => 0), aI E q_2 60 (fun _ => 0), aI E q_3 60 (fun _ => 0), aZ E q_4 60 (fun _ => 0)] H _ := hw
  refine g_putF S hN hw (C := RX12) (T := TX12) (N := 37) (ci := 12) (ty := (.array .boolean)) (w1 := [oC a_m 12 [.int 0, .int 0, .ref q_1, .ref q_2, .ref q_3, .ref q_4, .null, .int 0, .null, .null, .null, .null, .null, .null, .null, .null, .null, .null, .null, .int 0, .int 0, .int 0, .null, .int 0, .int 0, .null, .null, .int 0, .null, .null, .null, .null, .null, .null, .null, .int 0, .long 0], aI E q_1 60 (fun _ => 0), aI E q_2 60 (fun _ => 0), aI E q_3 60 (fun _ => 0), aZ E q_4 60 (fun _ => 0)]) 0 5 iX12 k19 tyX12 tyX12_ok nmX12 dX12_init_33 hnm rfl rfl (by decide) rfl rfl (by decide +kernel) rfl rfl (Nat.le_of_ble_eq_true rfl) rfl (fun H locs hw => ?_)
  refine lv_aload_n S.1 S.2.1 dX12_init_36 rfl (lv_at hl 0 rfl) ?_
  refine lv_sipush (v := 256) S.1 S.2.1 dX12_init_37 (by decide) ?_
  refine g_newaI (N := 256) S hN hw hA kAI (by decide) (by decide) (by decide) (by decide) (by decide) dX12_init_40 (fun q_5 H hw => ?_)
  have hw : Wo E A s [oC a_m 12 [.int 0, .int 0, .ref q_1, .ref q_2, .ref q_3, .ref q_4, .null, .int 0, .null, .null, .null, .null, .null, .null, .null, .null, .null, .null, .null, .int 0, .int 0, .int 0, .null, .int 0, .int 0, .null, .null, .int 0, .null, .null, .null, .null, .null, .null, .null, .int 0, .long 0], aI E q_1 60 (fun _ => 0), aI E q_2 60 (fun _ => 0), aI E q_3 60 (fun _ => 0), aZ E q_4 60 (fun _ => 0), aI E q_5 256 (fun _ => 0)] H _ := hw
  refine g_putF S hN hw (C := RX12) (T := TX12) (N := 37) (ci := 12) (ty := (.array .int)) (w1 := [oC a_m 12 [.int 0, .int 0, .ref q_1, .ref q_2, .ref q_3, .ref q_4, .ref q_5, .int 0, .null, .null, .null, .null, .null, .null, .null, .null, .null, .null, .null, .int 0, .int 0, .int 0, .null, .int 0, .int 0, .null, .null, .int 0, .null, .null, .null, .null, .null, .null, .null, .int 0, .long 0], aI E q_1 60 (fun _ => 0), aI E q_2 60 (fun _ => 0), aI E q_3 60 (fun _ => 0), aZ E q_4 60 (fun _ => 0), aI E q_5 256 (fun _ => 0)]) 0 6 iX12 k23 tyX12 tyX12_ok nmX12 dX12_init_42 hnm rfl rfl (by decide) rfl rfl (by decide +kernel) rfl rfl (Nat.le_of_ble_eq_true rfl) rfl (fun H locs hw => ?_)
  refine lv_aload_n S.1 S.2.1 dX12_init_45 rfl (lv_at hl 0 rfl) ?_
  refine lv_ldc (v := 65536) S.1 S.2.1 S.2.2.2.1 k26 dX12_init_46 ?_
  refine g_newaI (N := 65536) S hN hw hA kAI (by decide) (by decide) (by decide) (by decide) (by decide) dX12_init_48 (fun q_6 H hw => ?_)
  have hw : Wo E A s [oC a_m 12 [.int 0, .int 0, .ref q_1, .ref q_2, .ref q_3, .ref q_4, .ref q_5, .int 0, .null, .null, .null, .null, .null, .null, .null, .null, .null, .null, .null, .int 0, .int 0, .int 0, .null, .int 0, .int 0, .null, .null, .int 0, .null, .null, .null, .null, .null, .null, .null, .int 0, .long 0], aI E q_1 60 (fun _ => 0), aI E q_2 60 (fun _ => 0), aI E q_3 60 (fun _ => 0), aZ E q_4 60 (fun _ => 0), aI E q_5 256 (fun _ => 0), aI E q_6 65536 (fun _ => 0)] H _ := hw
  refine g_putF S hN hw (C := RX12) (T := TX12) (N := 37) (ci := 12) (ty := (.array .int)) (w1 := [oC a_m 12 [.int 0, .int 0, .ref q_1, .ref q_2, .ref q_3, .ref q_4, .ref q_5, .int 0, .ref q_6, .null, .null, .null, .null, .null, .null, .null, .null, .null, .null, .int 0, .int 0, .int 0, .null, .int 0, .int 0, .null, .null, .int 0, .null, .null, .null, .null, .null, .null, .null, .int 0, .long 0], aI E q_1 60 (fun _ => 0), aI E q_2 60 (fun _ => 0), aI E q_3 60 (fun _ => 0), aZ E q_4 60 (fun _ => 0), aI E q_5 256 (fun _ => 0), aI E q_6 65536 (fun _ => 0)]) 0 8 iX12 k27 tyX12 tyX12_ok nmX12 dX12_init_50 hnm rfl rfl (by decide) rfl rfl (by decide +kernel) rfl rfl (Nat.le_of_ble_eq_true rfl) rfl (fun H locs hw => ?_)
  refine lv_aload_n S.1 S.2.1 dX12_init_53 rfl (lv_at hl 0 rfl) ?_
  refine lv_ldc (v := 65536) S.1 S.2.1 S.2.2.2.1 k26 dX12_init_54 ?_
  refine g_newaB (N := 65536) S hN hw hA kAB (by decide) (by decide) (by decide) (by decide) (by decide) dX12_init_56 (fun q_7 H hw => ?_)
  have hw : Wo E A s [oC a_m 12 [.int 0, .int 0, .ref q_1, .ref q_2, .ref q_3, .ref q_4, .ref q_5, .int 0, .ref q_6, .null, .null, .null, .null, .null, .null, .null, .null, .null, .null, .int 0, .int 0, .int 0, .null, .int 0, .int 0, .null, .null, .int 0, .null, .null, .null, .null, .null, .null, .null, .int 0, .long 0], aI E q_1 60 (fun _ => 0), aI E q_2 60 (fun _ => 0), aI E q_3 60 (fun _ => 0), aZ E q_4 60 (fun _ => 0), aI E q_5 256 (fun _ => 0), aI E q_6 65536 (fun _ => 0), aB E q_7 65536 (fun _ => 0)] H _ := hw
  refine g_putF S hN hw (C := RX12) (T := TX12) (N := 37) (ci := 12) (ty := (.array .byte)) (w1 := [oC a_m 12 [.int 0, .int 0, .ref q_1, .ref q_2, .ref q_3, .ref q_4, .ref q_5, .int 0, .ref q_6, .ref q_7, .null, .null, .null, .null, .null, .null, .null, .null, .null, .int 0, .int 0, .int 0, .null, .int 0, .int 0, .null, .null, .int 0, .null, .null, .null, .null, .null, .null, .null, .int 0, .long 0], aI E q_1 60 (fun _ => 0), aI E q_2 60 (fun _ => 0), aI E q_3 60 (fun _ => 0), aZ E q_4 60 (fun _ => 0), aI E q_5 256 (fun _ => 0), aI E q_6 65536 (fun _ => 0), aB E q_7 65536 (fun _ => 0)]) 0 9 iX12 k30 tyX12 tyX12_ok nmX12 dX12_init_58 hnm rfl rfl (by decide) rfl rfl (by decide +kernel) rfl rfl (Nat.le_of_ble_eq_true rfl) rfl (fun H locs hw => ?_)
  refine lv_aload_n S.1 S.2.1 dX12_init_61 rfl (lv_at hl 0 rfl) ?_
  refine lv_ldc (v := 65536) S.1 S.2.1 S.2.2.2.1 k26 dX12_init_62 ?_
  refine g_newaB (N := 65536) S hN hw hA kAB (by decide) (by decide) (by decide) (by decide) (by decide) dX12_init_64 (fun q_8 H hw => ?_)
  have hw : Wo E A s [oC a_m 12 [.int 0, .int 0, .ref q_1, .ref q_2, .ref q_3, .ref q_4, .ref q_5, .int 0, .ref q_6, .ref q_7, .null, .null, .null, .null, .null, .null, .null, .null, .null, .int 0, .int 0, .int 0, .null, .int 0, .int 0, .null, .null, .int 0, .null, .null, .null, .null, .null, .null, .null, .int 0, .long 0], aI E q_1 60 (fun _ => 0), aI E q_2 60 (fun _ => 0), aI E q_3 60 (fun _ => 0), aZ E q_4 60 (fun _ => 0), aI E q_5 256 (fun _ => 0), aI E q_6 65536 (fun _ => 0), aB E q_7 65536 (fun _ => 0), aB E q_8 65536 (fun _ => 0)] H _ := hw
  refine g_putF S hN hw (C := RX12) (T := TX12) (N := 37) (ci := 12) (ty := (.array .byte)) (w1 := [oC a_m 12 [.int 0, .int 0, .ref q_1, .ref q_2, .ref q_3, .ref q_4, .ref q_5, .int 0, .ref q_6, .ref q_7, .ref q_8, .null, .null, .null, .null, .null, .null, .null, .null, .int 0, .int 0, .int 0, .null, .int 0, .int 0, .null, .null, .int 0, .null, .null, .null, .null, .null, .null, .null, .int 0, .long 0], aI E q_1 60 (fun _ => 0), aI E q_2 60 (fun _ => 0), aI E q_3 60 (fun _ => 0), aZ E q_4 60 (fun _ => 0), aI E q_5 256 (fun _ => 0), aI E q_6 65536 (fun _ => 0), aB E q_7 65536 (fun _ => 0), aB E q_8 65536 (fun _ => 0)]) 0 10 iX12 k34 tyX12 tyX12_ok nmX12 dX12_init_66 hnm rfl rfl (by decide) rfl rfl (by decide +kernel) rfl rfl (Nat.le_of_ble_eq_true rfl) rfl (fun H locs hw => ?_)
  refine lv_aload_n S.1 S.2.1 dX12_init_69 rfl (lv_at hl 0 rfl) ?_
  refine lv_sipush (v := 256) S.1 S.2.1 dX12_init_70 (by decide) ?_
  refine g_newaI (N := 256) S hN hw hA kAI (by decide) (by decide) (by decide) (by decide) (by decide) dX12_init_73 (fun q_9 H hw => ?_)
  have hw : Wo E A s [oC a_m 12 [.int 0, .int 0, .ref q_1, .ref q_2, .ref q_3, .ref q_4, .ref q_5, .int 0, .ref q_6, .ref q_7, .ref q_8, .null, .null, .null, .null, .null, .null, .null, .null, .int 0, .int 0, .int 0, .null, .int 0, .int 0, .null, .null, .int 0, .null, .null, .null, .null, .null, .null, .null, .int 0, .long 0], aI E q_1 60 (fun _ => 0), aI E q_2 60 (fun _ => 0), aI E q_3 60 (fun _ => 0), aZ E q_4 60 (fun _ => 0), aI E q_5 256 (fun _ => 0), aI E q_6 65536 (fun _ => 0), aB E q_7 65536 (fun _ => 0), aB E q_8 65536 (fun _ => 0), aI E q_9 256 (fun _ => 0)] H _ := hw
  refine g_putF S hN hw (C := RX12) (T := TX12) (N := 37) (ci := 12) (ty := (.array .int)) (w1 := [oC a_m 12 [.int 0, .int 0, .ref q_1, .ref q_2, .ref q_3, .ref q_4, .ref q_5, .int 0, .ref q_6, .ref q_7, .ref q_8, .ref q_9, .null, .null, .null, .null, .null, .null, .null, .int 0, .int 0, .int 0, .null, .int 0, .int 0, .null, .null, .int 0, .null, .null, .null, .null, .null, .null, .null, .int 0, .long 0], aI E q_1 60 (fun _ => 0), aI E q_2 60 (fun _ => 0), aI E q_3 60 (fun _ => 0), aZ E q_4 60 (fun _ => 0), aI E q_5 256 (fun _ => 0), aI E q_6 65536 (fun _ => 0), aB E q_7 65536 (fun _ => 0), aB E q_8 65536 (fun _ => 0), aI E q_9 256 (fun _ => 0)]) 0 11 iX12 k37 tyX12 tyX12_ok nmX12 dX12_init_75 hnm rfl rfl (by decide) rfl rfl (by decide +kernel) rfl rfl (Nat.le_of_ble_eq_true rfl) rfl (fun H locs hw => ?_)
  refine lv_aload_n S.1 S.2.1 dX12_init_78 rfl (lv_at hl 0 rfl) ?_
  refine lv_sipush (v := 256) S.1 S.2.1 dX12_init_79 (by decide) ?_
  refine g_newaI (N := 256) S hN hw hA kAI (by decide) (by decide) (by decide) (by decide) (by decide) dX12_init_82 (fun q_10 H hw => ?_)
  have hw : Wo E A s [oC a_m 12 [.int 0, .int 0, .ref q_1, .ref q_2, .ref q_3, .ref q_4, .ref q_5, .int 0, .ref q_6, .ref q_7, .ref q_8, .ref q_9, .null, .null, .null, .null, .null, .null, .null, .int 0, .int 0, .int 0, .null, .int 0, .int 0, .null, .null, .int 0, .null, .null, .null, .null, .null, .null, .null, .int 0, .long 0], aI E q_1 60 (fun _ => 0), aI E q_2 60 (fun _ => 0), aI E q_3 60 (fun _ => 0), aZ E q_4 60 (fun _ => 0), aI E q_5 256 (fun _ => 0), aI E q_6 65536 (fun _ => 0), aB E q_7 65536 (fun _ => 0), aB E q_8 65536 (fun _ => 0), aI E q_9 256 (fun _ => 0), aI E q_10 256 (fun _ => 0)] H _ := hw
  refine g_putF S hN hw (C := RX12) (T := TX12) (N := 37) (ci := 12) (ty := (.array .int)) (w1 := [oC a_m 12 [.int 0, .int 0, .ref q_1, .ref q_2, .ref q_3, .ref q_4, .ref q_5, .int 0, .ref q_6, .ref q_7, .ref q_8, .ref q_9, .ref q_10, .null, .null, .null, .null, .null, .null, .int 0, .int 0, .int 0, .null, .int 0, .int 0, .null, .null, .int 0, .null, .null, .null, .null, .null, .null, .null, .int 0, .long 0], aI E q_1 60 (fun _ => 0), aI E q_2 60 (fun _ => 0), aI E q_3 60 (fun _ => 0), aZ E q_4 60 (fun _ => 0), aI E q_5 256 (fun _ => 0), aI E q_6 65536 (fun _ => 0), aB E q_7 65536 (fun _ => 0), aB E q_8 65536 (fun _ => 0), aI E q_9 256 (fun _ => 0), aI E q_10 256 (fun _ => 0)]) 0 12 iX12 k40 tyX12 tyX12_ok nmX12 dX12_init_84 hnm rfl rfl (by decide) rfl rfl (by decide +kernel) rfl rfl (Nat.le_of_ble_eq_true rfl) rfl (fun H locs hw => ?_)
  refine lv_aload_n S.1 S.2.1 dX12_init_87 rfl (lv_at hl 0 rfl) ?_
  refine lv_bipush (v := 64) S.1 S.2.1 dX12_init_88 (by decide) ?_
  refine g_newaI (N := 64) S hN hw hA kAI (by decide) (by decide) (by decide) (by decide) (by decide) dX12_init_90 (fun q_11 H hw => ?_)
  have hw : Wo E A s [oC a_m 12 [.int 0, .int 0, .ref q_1, .ref q_2, .ref q_3, .ref q_4, .ref q_5, .int 0, .ref q_6, .ref q_7, .ref q_8, .ref q_9, .ref q_10, .null, .null, .null, .null, .null, .null, .int 0, .int 0, .int 0, .null, .int 0, .int 0, .null, .null, .int 0, .null, .null, .null, .null, .null, .null, .null, .int 0, .long 0], aI E q_1 60 (fun _ => 0), aI E q_2 60 (fun _ => 0), aI E q_3 60 (fun _ => 0), aZ E q_4 60 (fun _ => 0), aI E q_5 256 (fun _ => 0), aI E q_6 65536 (fun _ => 0), aB E q_7 65536 (fun _ => 0), aB E q_8 65536 (fun _ => 0), aI E q_9 256 (fun _ => 0), aI E q_10 256 (fun _ => 0), aI E q_11 64 (fun _ => 0)] H _ := hw
  refine g_putF S hN hw (C := RX12) (T := TX12) (N := 37) (ci := 12) (ty := (.array .int)) (w1 := [oC a_m 12 [.int 0, .int 0, .ref q_1, .ref q_2, .ref q_3, .ref q_4, .ref q_5, .int 0, .ref q_6, .ref q_7, .ref q_8, .ref q_9, .ref q_10, .ref q_11, .null, .null, .null, .null, .null, .int 0, .int 0, .int 0, .null, .int 0, .int 0, .null, .null, .int 0, .null, .null, .null, .null, .null, .null, .null, .int 0, .long 0], aI E q_1 60 (fun _ => 0), aI E q_2 60 (fun _ => 0), aI E q_3 60 (fun _ => 0), aZ E q_4 60 (fun _ => 0), aI E q_5 256 (fun _ => 0), aI E q_6 65536 (fun _ => 0), aB E q_7 65536 (fun _ => 0), aB E q_8 65536 (fun _ => 0), aI E q_9 256 (fun _ => 0), aI E q_10 256 (fun _ => 0), aI E q_11 64 (fun _ => 0)]) 0 13 iX12 k43 tyX12 tyX12_ok nmX12 dX12_init_92 hnm rfl rfl (by decide) rfl rfl (by decide +kernel) rfl rfl (Nat.le_of_ble_eq_true rfl) rfl (fun H locs hw => ?_)
  refine lv_aload_n S.1 S.2.1 dX12_init_95 rfl (lv_at hl 0 rfl) ?_
  refine lv_iconst (v := 4) S.1 S.2.1 dX12_init_96 (by decide) ?_
  refine g_newaI (N := 4) S hN hw hA kAI (by decide) (by decide) (by decide) (by decide) (by decide) dX12_init_97 (fun q_12 H hw => ?_)
  have hw : Wo E A s [oC a_m 12 [.int 0, .int 0, .ref q_1, .ref q_2, .ref q_3, .ref q_4, .ref q_5, .int 0, .ref q_6, .ref q_7, .ref q_8, .ref q_9, .ref q_10, .ref q_11, .null, .null, .null, .null, .null, .int 0, .int 0, .int 0, .null, .int 0, .int 0, .null, .null, .int 0, .null, .null, .null, .null, .null, .null, .null, .int 0, .long 0], aI E q_1 60 (fun _ => 0), aI E q_2 60 (fun _ => 0), aI E q_3 60 (fun _ => 0), aZ E q_4 60 (fun _ => 0), aI E q_5 256 (fun _ => 0), aI E q_6 65536 (fun _ => 0), aB E q_7 65536 (fun _ => 0), aB E q_8 65536 (fun _ => 0), aI E q_9 256 (fun _ => 0), aI E q_10 256 (fun _ => 0), aI E q_11 64 (fun _ => 0), aI E q_12 4 (fun _ => 0)] H _ := hw
  refine g_putF S hN hw (C := RX12) (T := TX12) (N := 37) (ci := 12) (ty := (.array .int)) (w1 := [oC a_m 12 [.int 0, .int 0, .ref q_1, .ref q_2, .ref q_3, .ref q_4, .ref q_5, .int 0, .ref q_6, .ref q_7, .ref q_8, .ref q_9, .ref q_10, .ref q_11, .ref q_12, .null, .null, .null, .null, .int 0, .int 0, .int 0, .null, .int 0, .int 0, .null, .null, .int 0, .null, .null, .null, .null, .null, .null, .null, .int 0, .long 0], aI E q_1 60 (fun _ => 0), aI E q_2 60 (fun _ => 0), aI E q_3 60 (fun _ => 0), aZ E q_4 60 (fun _ => 0), aI E q_5 256 (fun _ => 0), aI E q_6 65536 (fun _ => 0), aB E q_7 65536 (fun _ => 0), aB E q_8 65536 (fun _ => 0), aI E q_9 256 (fun _ => 0), aI E q_10 256 (fun _ => 0), aI E q_11 64 (fun _ => 0), aI E q_12 4 (fun _ => 0)]) 0 14 iX12 k46 tyX12 tyX12_ok nmX12 dX12_init_99 hnm rfl rfl (by decide) rfl rfl (by decide +kernel) rfl rfl (Nat.le_of_ble_eq_true rfl) rfl (fun H locs hw => ?_)
  refine lv_aload_n S.1 S.2.1 dX12_init_102 rfl (lv_at hl 0 rfl) ?_
  refine lv_iconst (v := 4) S.1 S.2.1 dX12_init_103 (by decide) ?_
  refine g_newaI (N := 4) S hN hw hA kAI (by decide) (by decide) (by decide) (by decide) (by decide) dX12_init_104 (fun q_13 H hw => ?_)
  have hw : Wo E A s [oC a_m 12 [.int 0, .int 0, .ref q_1, .ref q_2, .ref q_3, .ref q_4, .ref q_5, .int 0, .ref q_6, .ref q_7, .ref q_8, .ref q_9, .ref q_10, .ref q_11, .ref q_12, .null, .null, .null, .null, .int 0, .int 0, .int 0, .null, .int 0, .int 0, .null, .null, .int 0, .null, .null, .null, .null, .null, .null, .null, .int 0, .long 0], aI E q_1 60 (fun _ => 0), aI E q_2 60 (fun _ => 0), aI E q_3 60 (fun _ => 0), aZ E q_4 60 (fun _ => 0), aI E q_5 256 (fun _ => 0), aI E q_6 65536 (fun _ => 0), aB E q_7 65536 (fun _ => 0), aB E q_8 65536 (fun _ => 0), aI E q_9 256 (fun _ => 0), aI E q_10 256 (fun _ => 0), aI E q_11 64 (fun _ => 0), aI E q_12 4 (fun _ => 0), aI E q_13 4 (fun _ => 0)] H _ := hw
  refine g_putF S hN hw (C := RX12) (T := TX12) (N := 37) (ci := 12) (ty := (.array .int)) (w1 := [oC a_m 12 [.int 0, .int 0, .ref q_1, .ref q_2, .ref q_3, .ref q_4, .ref q_5, .int 0, .ref q_6, .ref q_7, .ref q_8, .ref q_9, .ref q_10, .ref q_11, .ref q_12, .ref q_13, .null, .null, .null, .int 0, .int 0, .int 0, .null, .int 0, .int 0, .null, .null, .int 0, .null, .null, .null, .null, .null, .null, .null, .int 0, .long 0], aI E q_1 60 (fun _ => 0), aI E q_2 60 (fun _ => 0), aI E q_3 60 (fun _ => 0), aZ E q_4 60 (fun _ => 0), aI E q_5 256 (fun _ => 0), aI E q_6 65536 (fun _ => 0), aB E q_7 65536 (fun _ => 0), aB E q_8 65536 (fun _ => 0), aI E q_9 256 (fun _ => 0), aI E q_10 256 (fun _ => 0), aI E q_11 64 (fun _ => 0), aI E q_12 4 (fun _ => 0), aI E q_13 4 (fun _ => 0)]) 0 15 iX12 k49 tyX12 tyX12_ok nmX12 dX12_init_106 hnm rfl rfl (by decide) rfl rfl (by decide +kernel) rfl rfl (Nat.le_of_ble_eq_true rfl) rfl (fun H locs hw => ?_)
  refine lv_aload_n S.1 S.2.1 dX12_init_109 rfl (lv_at hl 0 rfl) ?_
  refine lv_iconst (v := 4) S.1 S.2.1 dX12_init_110 (by decide) ?_
  refine g_newaZ (N := 4) S hN hw hA kAZ (by decide) (by decide) (by decide) (by decide) (by decide) dX12_init_111 (fun q_14 H hw => ?_)
  have hw : Wo E A s [oC a_m 12 [.int 0, .int 0, .ref q_1, .ref q_2, .ref q_3, .ref q_4, .ref q_5, .int 0, .ref q_6, .ref q_7, .ref q_8, .ref q_9, .ref q_10, .ref q_11, .ref q_12, .ref q_13, .null, .null, .null, .int 0, .int 0, .int 0, .null, .int 0, .int 0, .null, .null, .int 0, .null, .null, .null, .null, .null, .null, .null, .int 0, .long 0], aI E q_1 60 (fun _ => 0), aI E q_2 60 (fun _ => 0), aI E q_3 60 (fun _ => 0), aZ E q_4 60 (fun _ => 0), aI E q_5 256 (fun _ => 0), aI E q_6 65536 (fun _ => 0), aB E q_7 65536 (fun _ => 0), aB E q_8 65536 (fun _ => 0), aI E q_9 256 (fun _ => 0), aI E q_10 256 (fun _ => 0), aI E q_11 64 (fun _ => 0), aI E q_12 4 (fun _ => 0), aI E q_13 4 (fun _ => 0), aZ E q_14 4 (fun _ => 0)] H _ := hw
  refine g_putF S hN hw (C := RX12) (T := TX12) (N := 37) (ci := 12) (ty := (.array .boolean)) (w1 := [oC a_m 12 [.int 0, .int 0, .ref q_1, .ref q_2, .ref q_3, .ref q_4, .ref q_5, .int 0, .ref q_6, .ref q_7, .ref q_8, .ref q_9, .ref q_10, .ref q_11, .ref q_12, .ref q_13, .ref q_14, .null, .null, .int 0, .int 0, .int 0, .null, .int 0, .int 0, .null, .null, .int 0, .null, .null, .null, .null, .null, .null, .null, .int 0, .long 0], aI E q_1 60 (fun _ => 0), aI E q_2 60 (fun _ => 0), aI E q_3 60 (fun _ => 0), aZ E q_4 60 (fun _ => 0), aI E q_5 256 (fun _ => 0), aI E q_6 65536 (fun _ => 0), aB E q_7 65536 (fun _ => 0), aB E q_8 65536 (fun _ => 0), aI E q_9 256 (fun _ => 0), aI E q_10 256 (fun _ => 0), aI E q_11 64 (fun _ => 0), aI E q_12 4 (fun _ => 0), aI E q_13 4 (fun _ => 0), aZ E q_14 4 (fun _ => 0)]) 0 16 iX12 k52 tyX12 tyX12_ok nmX12 dX12_init_113 hnm rfl rfl (by decide) rfl rfl (by decide +kernel) rfl rfl (Nat.le_of_ble_eq_true rfl) rfl (fun H locs hw => ?_)
  refine lv_aload_n S.1 S.2.1 dX12_init_116 rfl (lv_at hl 0 rfl) ?_
  refine lv_bipush (v := 16) S.1 S.2.1 dX12_init_117 (by decide) ?_
  refine g_newaI (N := 16) S hN hw hA kAI (by decide) (by decide) (by decide) (by decide) (by decide) dX12_init_119 (fun q_15 H hw => ?_)
  have hw : Wo E A s [oC a_m 12 [.int 0, .int 0, .ref q_1, .ref q_2, .ref q_3, .ref q_4, .ref q_5, .int 0, .ref q_6, .ref q_7, .ref q_8, .ref q_9, .ref q_10, .ref q_11, .ref q_12, .ref q_13, .ref q_14, .null, .null, .int 0, .int 0, .int 0, .null, .int 0, .int 0, .null, .null, .int 0, .null, .null, .null, .null, .null, .null, .null, .int 0, .long 0], aI E q_1 60 (fun _ => 0), aI E q_2 60 (fun _ => 0), aI E q_3 60 (fun _ => 0), aZ E q_4 60 (fun _ => 0), aI E q_5 256 (fun _ => 0), aI E q_6 65536 (fun _ => 0), aB E q_7 65536 (fun _ => 0), aB E q_8 65536 (fun _ => 0), aI E q_9 256 (fun _ => 0), aI E q_10 256 (fun _ => 0), aI E q_11 64 (fun _ => 0), aI E q_12 4 (fun _ => 0), aI E q_13 4 (fun _ => 0), aZ E q_14 4 (fun _ => 0), aI E q_15 16 (fun _ => 0)] H _ := hw
  refine g_putF S hN hw (C := RX12) (T := TX12) (N := 37) (ci := 12) (ty := (.array .int)) (w1 := [oC a_m 12 [.int 0, .int 0, .ref q_1, .ref q_2, .ref q_3, .ref q_4, .ref q_5, .int 0, .ref q_6, .ref q_7, .ref q_8, .ref q_9, .ref q_10, .ref q_11, .ref q_12, .ref q_13, .ref q_14, .ref q_15, .null, .int 0, .int 0, .int 0, .null, .int 0, .int 0, .null, .null, .int 0, .null, .null, .null, .null, .null, .null, .null, .int 0, .long 0], aI E q_1 60 (fun _ => 0), aI E q_2 60 (fun _ => 0), aI E q_3 60 (fun _ => 0), aZ E q_4 60 (fun _ => 0), aI E q_5 256 (fun _ => 0), aI E q_6 65536 (fun _ => 0), aB E q_7 65536 (fun _ => 0), aB E q_8 65536 (fun _ => 0), aI E q_9 256 (fun _ => 0), aI E q_10 256 (fun _ => 0), aI E q_11 64 (fun _ => 0), aI E q_12 4 (fun _ => 0), aI E q_13 4 (fun _ => 0), aZ E q_14 4 (fun _ => 0), aI E q_15 16 (fun _ => 0)]) 0 17 iX12 k55 tyX12 tyX12_ok nmX12 dX12_init_121 hnm rfl rfl (by decide) rfl rfl (by decide +kernel) rfl rfl (Nat.le_of_ble_eq_true rfl) rfl (fun H locs hw => ?_)
  refine lv_aload_n S.1 S.2.1 dX12_init_124 rfl (lv_at hl 0 rfl) ?_
  refine lv_bipush (v := 16) S.1 S.2.1 dX12_init_125 (by decide) ?_
  refine g_newaI (N := 16) S hN hw hA kAI (by decide) (by decide) (by decide) (by decide) (by decide) dX12_init_127 (fun q_16 H hw => ?_)
  have hw : Wo E A s [oC a_m 12 [.int 0, .int 0, .ref q_1, .ref q_2, .ref q_3, .ref q_4, .ref q_5, .int 0, .ref q_6, .ref q_7, .ref q_8, .ref q_9, .ref q_10, .ref q_11, .ref q_12, .ref q_13, .ref q_14, .ref q_15, .null, .int 0, .int 0, .int 0, .null, .int 0, .int 0, .null, .null, .int 0, .null, .null, .null, .null, .null, .null, .null, .int 0, .long 0], aI E q_1 60 (fun _ => 0), aI E q_2 60 (fun _ => 0), aI E q_3 60 (fun _ => 0), aZ E q_4 60 (fun _ => 0), aI E q_5 256 (fun _ => 0), aI E q_6 65536 (fun _ => 0), aB E q_7 65536 (fun _ => 0), aB E q_8 65536 (fun _ => 0), aI E q_9 256 (fun _ => 0), aI E q_10 256 (fun _ => 0), aI E q_11 64 (fun _ => 0), aI E q_12 4 (fun _ => 0), aI E q_13 4 (fun _ => 0), aZ E q_14 4 (fun _ => 0), aI E q_15 16 (fun _ => 0), aI E q_16 16 (fun _ => 0)] H _ := hw
  refine g_putF S hN hw (C := RX12) (T := TX12) (N := 37) (ci := 12) (ty := (.array .int)) (w1 := [oC a_m 12 [.int 0, .int 0, .ref q_1, .ref q_2, .ref q_3, .ref q_4, .ref q_5, .int 0, .ref q_6, .ref q_7, .ref q_8, .ref q_9, .ref q_10, .ref q_11, .ref q_12, .ref q_13, .ref q_14, .ref q_15, .ref q_16, .int 0, .int 0, .int 0, .null, .int 0, .int 0, .null, .null, .int 0, .null, .null, .null, .null, .null, .null, .null, .int 0, .long 0], aI E q_1 60 (fun _ => 0), aI E q_2 60 (fun _ => 0), aI E q_3 60 (fun _ => 0), aZ E q_4 60 (fun _ => 0), aI E q_5 256 (fun _ => 0), aI E q_6 65536 (fun _ => 0), aB E q_7 65536 (fun _ => 0), aB E q_8 65536 (fun _ => 0), aI E q_9 256 (fun _ => 0), aI E q_10 256 (fun _ => 0), aI E q_11 64 (fun _ => 0), aI E q_12 4 (fun _ => 0), aI E q_13 4 (fun _ => 0), aZ E q_14 4 (fun _ => 0), aI E q_15 16 (fun _ => 0), aI E q_16 16 (fun _ => 0)]) 0 18 iX12 k58 tyX12 tyX12_ok nmX12 dX12_init_129 hnm rfl rfl (by decide) rfl rfl (by decide +kernel) rfl rfl (Nat.le_of_ble_eq_true rfl) rfl (fun H locs hw => ?_)
  refine lv_aload_n S.1 S.2.1 dX12_init_132 rfl (lv_at hl 0 rfl) ?_
  refine lv_bipush (v := 60) S.1 S.2.1 dX12_init_133 (by decide) ?_
  refine g_newaZ (N := 60) S hN hw hA kAZ (by decide) (by decide) (by decide) (by decide) (by decide) dX12_init_135 (fun q_17 H hw => ?_)
  have hw : Wo E A s [oC a_m 12 [.int 0, .int 0, .ref q_1, .ref q_2, .ref q_3, .ref q_4, .ref q_5, .int 0, .ref q_6, .ref q_7, .ref q_8, .ref q_9, .ref q_10, .ref q_11, .ref q_12, .ref q_13, .ref q_14, .ref q_15, .ref q_16, .int 0, .int 0, .int 0, .null, .int 0, .int 0, .null, .null, .int 0, .null, .null, .null, .null, .null, .null, .null, .int 0, .long 0], aI E q_1 60 (fun _ => 0), aI E q_2 60 (fun _ => 0), aI E q_3 60 (fun _ => 0), aZ E q_4 60 (fun _ => 0), aI E q_5 256 (fun _ => 0), aI E q_6 65536 (fun _ => 0), aB E q_7 65536 (fun _ => 0), aB E q_8 65536 (fun _ => 0), aI E q_9 256 (fun _ => 0), aI E q_10 256 (fun _ => 0), aI E q_11 64 (fun _ => 0), aI E q_12 4 (fun _ => 0), aI E q_13 4 (fun _ => 0), aZ E q_14 4 (fun _ => 0), aI E q_15 16 (fun _ => 0), aI E q_16 16 (fun _ => 0), aZ E q_17 60 (fun _ => 0)] H _ := hw
  refine g_putF S hN hw (C := RX12) (T := TX12) (N := 37) (ci := 12) (ty := (.array .boolean)) (w1 := [oC a_m 12 [.int 0, .int 0, .ref q_1, .ref q_2, .ref q_3, .ref q_4, .ref q_5, .int 0, .ref q_6, .ref q_7, .ref q_8, .ref q_9, .ref q_10, .ref q_11, .ref q_12, .ref q_13, .ref q_14, .ref q_15, .ref q_16, .int 0, .int 0, .int 0, .ref q_17, .int 0, .int 0, .null, .null, .int 0, .null, .null, .null, .null, .null, .null, .null, .int 0, .long 0], aI E q_1 60 (fun _ => 0), aI E q_2 60 (fun _ => 0), aI E q_3 60 (fun _ => 0), aZ E q_4 60 (fun _ => 0), aI E q_5 256 (fun _ => 0), aI E q_6 65536 (fun _ => 0), aB E q_7 65536 (fun _ => 0), aB E q_8 65536 (fun _ => 0), aI E q_9 256 (fun _ => 0), aI E q_10 256 (fun _ => 0), aI E q_11 64 (fun _ => 0), aI E q_12 4 (fun _ => 0), aI E q_13 4 (fun _ => 0), aZ E q_14 4 (fun _ => 0), aI E q_15 16 (fun _ => 0), aI E q_16 16 (fun _ => 0), aZ E q_17 60 (fun _ => 0)]) 0 22 iX12 k61 tyX12 tyX12_ok nmX12 dX12_init_137 hnm rfl rfl (by decide) rfl rfl (by decide +kernel) rfl rfl (Nat.le_of_ble_eq_true rfl) rfl (fun H locs hw => ?_)
  refine lv_aload_n S.1 S.2.1 dX12_init_140 rfl (lv_at hl 0 rfl) ?_
  refine lv_ldc (v := 65536) S.1 S.2.1 S.2.2.2.1 k26 dX12_init_141 ?_
  refine g_newaI (N := 65536) S hN hw hA kAI (by decide) (by decide) (by decide) (by decide) (by decide) dX12_init_143 (fun q_18 H hw => ?_)
  have hw : Wo E A s [oC a_m 12 [.int 0, .int 0, .ref q_1, .ref q_2, .ref q_3, .ref q_4, .ref q_5, .int 0, .ref q_6, .ref q_7, .ref q_8, .ref q_9, .ref q_10, .ref q_11, .ref q_12, .ref q_13, .ref q_14, .ref q_15, .ref q_16, .int 0, .int 0, .int 0, .ref q_17, .int 0, .int 0, .null, .null, .int 0, .null, .null, .null, .null, .null, .null, .null, .int 0, .long 0], aI E q_1 60 (fun _ => 0), aI E q_2 60 (fun _ => 0), aI E q_3 60 (fun _ => 0), aZ E q_4 60 (fun _ => 0), aI E q_5 256 (fun _ => 0), aI E q_6 65536 (fun _ => 0), aB E q_7 65536 (fun _ => 0), aB E q_8 65536 (fun _ => 0), aI E q_9 256 (fun _ => 0), aI E q_10 256 (fun _ => 0), aI E q_11 64 (fun _ => 0), aI E q_12 4 (fun _ => 0), aI E q_13 4 (fun _ => 0), aZ E q_14 4 (fun _ => 0), aI E q_15 16 (fun _ => 0), aI E q_16 16 (fun _ => 0), aZ E q_17 60 (fun _ => 0), aI E q_18 65536 (fun _ => 0)] H _ := hw
  refine g_putF S hN hw (C := RX12) (T := TX12) (N := 37) (ci := 12) (ty := (.array .int)) (w1 := [oC a_m 12 [.int 0, .int 0, .ref q_1, .ref q_2, .ref q_3, .ref q_4, .ref q_5, .int 0, .ref q_6, .ref q_7, .ref q_8, .ref q_9, .ref q_10, .ref q_11, .ref q_12, .ref q_13, .ref q_14, .ref q_15, .ref q_16, .int 0, .int 0, .int 0, .ref q_17, .int 0, .int 0, .ref q_18, .null, .int 0, .null, .null, .null, .null, .null, .null, .null, .int 0, .long 0], aI E q_1 60 (fun _ => 0), aI E q_2 60 (fun _ => 0), aI E q_3 60 (fun _ => 0), aZ E q_4 60 (fun _ => 0), aI E q_5 256 (fun _ => 0), aI E q_6 65536 (fun _ => 0), aB E q_7 65536 (fun _ => 0), aB E q_8 65536 (fun _ => 0), aI E q_9 256 (fun _ => 0), aI E q_10 256 (fun _ => 0), aI E q_11 64 (fun _ => 0), aI E q_12 4 (fun _ => 0), aI E q_13 4 (fun _ => 0), aZ E q_14 4 (fun _ => 0), aI E q_15 16 (fun _ => 0), aI E q_16 16 (fun _ => 0), aZ E q_17 60 (fun _ => 0), aI E q_18 65536 (fun _ => 0)]) 0 25 iX12 k64 tyX12 tyX12_ok nmX12 dX12_init_145 hnm rfl rfl (by decide) rfl rfl (by decide +kernel) rfl rfl (Nat.le_of_ble_eq_true rfl) rfl (fun H locs hw => ?_)
  refine lv_aload_n S.1 S.2.1 dX12_init_148 rfl (lv_at hl 0 rfl) ?_
  refine lv_bipush (v := 60) S.1 S.2.1 dX12_init_149 (by decide) ?_
  refine g_newaZ (N := 60) S hN hw hA kAZ (by decide) (by decide) (by decide) (by decide) (by decide) dX12_init_151 (fun q_19 H hw => ?_)
  have hw : Wo E A s [oC a_m 12 [.int 0, .int 0, .ref q_1, .ref q_2, .ref q_3, .ref q_4, .ref q_5, .int 0, .ref q_6, .ref q_7, .ref q_8, .ref q_9, .ref q_10, .ref q_11, .ref q_12, .ref q_13, .ref q_14, .ref q_15, .ref q_16, .int 0, .int 0, .int 0, .ref q_17, .int 0, .int 0, .ref q_18, .null, .int 0, .null, .null, .null, .null, .null, .null, .null, .int 0, .long 0], aI E q_1 60 (fun _ => 0), aI E q_2 60 (fun _ => 0), aI E q_3 60 (fun _ => 0), aZ E q_4 60 (fun _ => 0), aI E q_5 256 (fun _ => 0), aI E q_6 65536 (fun _ => 0), aB E q_7 65536 (fun _ => 0), aB E q_8 65536 (fun _ => 0), aI E q_9 256 (fun _ => 0), aI E q_10 256 (fun _ => 0), aI E q_11 64 (fun _ => 0), aI E q_12 4 (fun _ => 0), aI E q_13 4 (fun _ => 0), aZ E q_14 4 (fun _ => 0), aI E q_15 16 (fun _ => 0), aI E q_16 16 (fun _ => 0), aZ E q_17 60 (fun _ => 0), aI E q_18 65536 (fun _ => 0), aZ E q_19 60 (fun _ => 0)] H _ := hw
  refine g_putF S hN hw (C := RX12) (T := TX12) (N := 37) (ci := 12) (ty := (.array .boolean)) (w1 := [oC a_m 12 [.int 0, .int 0, .ref q_1, .ref q_2, .ref q_3, .ref q_4, .ref q_5, .int 0, .ref q_6, .ref q_7, .ref q_8, .ref q_9, .ref q_10, .ref q_11, .ref q_12, .ref q_13, .ref q_14, .ref q_15, .ref q_16, .int 0, .int 0, .int 0, .ref q_17, .int 0, .int 0, .ref q_18, .ref q_19, .int 0, .null, .null, .null, .null, .null, .null, .null, .int 0, .long 0], aI E q_1 60 (fun _ => 0), aI E q_2 60 (fun _ => 0), aI E q_3 60 (fun _ => 0), aZ E q_4 60 (fun _ => 0), aI E q_5 256 (fun _ => 0), aI E q_6 65536 (fun _ => 0), aB E q_7 65536 (fun _ => 0), aB E q_8 65536 (fun _ => 0), aI E q_9 256 (fun _ => 0), aI E q_10 256 (fun _ => 0), aI E q_11 64 (fun _ => 0), aI E q_12 4 (fun _ => 0), aI E q_13 4 (fun _ => 0), aZ E q_14 4 (fun _ => 0), aI E q_15 16 (fun _ => 0), aI E q_16 16 (fun _ => 0), aZ E q_17 60 (fun _ => 0), aI E q_18 65536 (fun _ => 0), aZ E q_19 60 (fun _ => 0)]) 0 26 iX12 k67 tyX12 tyX12_ok nmX12 dX12_init_153 hnm rfl rfl (by decide) rfl rfl (by decide +kernel) rfl rfl (Nat.le_of_ble_eq_true rfl) rfl (fun H locs hw => ?_)
  refine lv_aload_n S.1 S.2.1 dX12_init_156 rfl (lv_at hl 0 rfl) ?_
  refine lv_bipush (v := 16) S.1 S.2.1 dX12_init_157 (by decide) ?_
  refine g_newaI (N := 16) S hN hw hA kAI (by decide) (by decide) (by decide) (by decide) (by decide) dX12_init_159 (fun q_20 H hw => ?_)
  have hw : Wo E A s [oC a_m 12 [.int 0, .int 0, .ref q_1, .ref q_2, .ref q_3, .ref q_4, .ref q_5, .int 0, .ref q_6, .ref q_7, .ref q_8, .ref q_9, .ref q_10, .ref q_11, .ref q_12, .ref q_13, .ref q_14, .ref q_15, .ref q_16, .int 0, .int 0, .int 0, .ref q_17, .int 0, .int 0, .ref q_18, .ref q_19, .int 0, .null, .null, .null, .null, .null, .null, .null, .int 0, .long 0], aI E q_1 60 (fun _ => 0), aI E q_2 60 (fun _ => 0), aI E q_3 60 (fun _ => 0), aZ E q_4 60 (fun _ => 0), aI E q_5 256 (fun _ => 0), aI E q_6 65536 (fun _ => 0), aB E q_7 65536 (fun _ => 0), aB E q_8 65536 (fun _ => 0), aI E q_9 256 (fun _ => 0), aI E q_10 256 (fun _ => 0), aI E q_11 64 (fun _ => 0), aI E q_12 4 (fun _ => 0), aI E q_13 4 (fun _ => 0), aZ E q_14 4 (fun _ => 0), aI E q_15 16 (fun _ => 0), aI E q_16 16 (fun _ => 0), aZ E q_17 60 (fun _ => 0), aI E q_18 65536 (fun _ => 0), aZ E q_19 60 (fun _ => 0), aI E q_20 16 (fun _ => 0)] H _ := hw
  refine g_putF S hN hw (C := RX12) (T := TX12) (N := 37) (ci := 12) (ty := (.array .int)) (w1 := [oC a_m 12 [.int 0, .int 0, .ref q_1, .ref q_2, .ref q_3, .ref q_4, .ref q_5, .int 0, .ref q_6, .ref q_7, .ref q_8, .ref q_9, .ref q_10, .ref q_11, .ref q_12, .ref q_13, .ref q_14, .ref q_15, .ref q_16, .int 0, .int 0, .int 0, .ref q_17, .int 0, .int 0, .ref q_18, .ref q_19, .int 0, .ref q_20, .null, .null, .null, .null, .null, .null, .int 0, .long 0], aI E q_1 60 (fun _ => 0), aI E q_2 60 (fun _ => 0), aI E q_3 60 (fun _ => 0), aZ E q_4 60 (fun _ => 0), aI E q_5 256 (fun _ => 0), aI E q_6 65536 (fun _ => 0), aB E q_7 65536 (fun _ => 0), aB E q_8 65536 (fun _ => 0), aI E q_9 256 (fun _ => 0), aI E q_10 256 (fun _ => 0), aI E q_11 64 (fun _ => 0), aI E q_12 4 (fun _ => 0), aI E q_13 4 (fun _ => 0), aZ E q_14 4 (fun _ => 0), aI E q_15 16 (fun _ => 0), aI E q_16 16 (fun _ => 0), aZ E q_17 60 (fun _ => 0), aI E q_18 65536 (fun _ => 0), aZ E q_19 60 (fun _ => 0), aI E q_20 16 (fun _ => 0)]) 0 28 iX12 k70 tyX12 tyX12_ok nmX12 dX12_init_161 hnm rfl rfl (by decide) rfl rfl (by decide +kernel) rfl rfl (Nat.le_of_ble_eq_true rfl) rfl (fun H locs hw => ?_)
  refine lv_aload_n S.1 S.2.1 dX12_init_164 rfl (lv_at hl 0 rfl) ?_
  refine lv_sipush (v := 256) S.1 S.2.1 dX12_init_165 (by decide) ?_
  refine g_newaI (N := 256) S hN hw hA kAI (by decide) (by decide) (by decide) (by decide) (by decide) dX12_init_168 (fun q_21 H hw => ?_)
  have hw : Wo E A s [oC a_m 12 [.int 0, .int 0, .ref q_1, .ref q_2, .ref q_3, .ref q_4, .ref q_5, .int 0, .ref q_6, .ref q_7, .ref q_8, .ref q_9, .ref q_10, .ref q_11, .ref q_12, .ref q_13, .ref q_14, .ref q_15, .ref q_16, .int 0, .int 0, .int 0, .ref q_17, .int 0, .int 0, .ref q_18, .ref q_19, .int 0, .ref q_20, .null, .null, .null, .null, .null, .null, .int 0, .long 0], aI E q_1 60 (fun _ => 0), aI E q_2 60 (fun _ => 0), aI E q_3 60 (fun _ => 0), aZ E q_4 60 (fun _ => 0), aI E q_5 256 (fun _ => 0), aI E q_6 65536 (fun _ => 0), aB E q_7 65536 (fun _ => 0), aB E q_8 65536 (fun _ => 0), aI E q_9 256 (fun _ => 0), aI E q_10 256 (fun _ => 0), aI E q_11 64 (fun _ => 0), aI E q_12 4 (fun _ => 0), aI E q_13 4 (fun _ => 0), aZ E q_14 4 (fun _ => 0), aI E q_15 16 (fun _ => 0), aI E q_16 16 (fun _ => 0), aZ E q_17 60 (fun _ => 0), aI E q_18 65536 (fun _ => 0), aZ E q_19 60 (fun _ => 0), aI E q_20 16 (fun _ => 0), aI E q_21 256 (fun _ => 0)] H _ := hw
  refine g_putF S hN hw (C := RX12) (T := TX12) (N := 37) (ci := 12) (ty := (.array .int)) (w1 := [oC a_m 12 [.int 0, .int 0, .ref q_1, .ref q_2, .ref q_3, .ref q_4, .ref q_5, .int 0, .ref q_6, .ref q_7, .ref q_8, .ref q_9, .ref q_10, .ref q_11, .ref q_12, .ref q_13, .ref q_14, .ref q_15, .ref q_16, .int 0, .int 0, .int 0, .ref q_17, .int 0, .int 0, .ref q_18, .ref q_19, .int 0, .ref q_20, .ref q_21, .null, .null, .null, .null, .null, .int 0, .long 0], aI E q_1 60 (fun _ => 0), aI E q_2 60 (fun _ => 0), aI E q_3 60 (fun _ => 0), aZ E q_4 60 (fun _ => 0), aI E q_5 256 (fun _ => 0), aI E q_6 65536 (fun _ => 0), aB E q_7 65536 (fun _ => 0), aB E q_8 65536 (fun _ => 0), aI E q_9 256 (fun _ => 0), aI E q_10 256 (fun _ => 0), aI E q_11 64 (fun _ => 0), aI E q_12 4 (fun _ => 0), aI E q_13 4 (fun _ => 0), aZ E q_14 4 (fun _ => 0), aI E q_15 16 (fun _ => 0), aI E q_16 16 (fun _ => 0), aZ E q_17 60 (fun _ => 0), aI E q_18 65536 (fun _ => 0), aZ E q_19 60 (fun _ => 0), aI E q_20 16 (fun _ => 0), aI E q_21 256 (fun _ => 0)]) 0 29 iX12 k73 tyX12 tyX12_ok nmX12 dX12_init_170 hnm rfl rfl (by decide) rfl rfl (by decide +kernel) rfl rfl (Nat.le_of_ble_eq_true rfl) rfl (fun H locs hw => ?_)
  refine lv_aload_n S.1 S.2.1 dX12_init_173 rfl (lv_at hl 0 rfl) ?_
  refine lv_ldc (v := 65536) S.1 S.2.1 S.2.2.2.1 k26 dX12_init_174 ?_
  refine g_newaJ (N := 65536) S hN hw hA kAJ (by decide) (by decide) (by decide) (by decide) (by decide) dX12_init_176 (fun q_22 H hw => ?_)
  have hw : Wo E A s [oC a_m 12 [.int 0, .int 0, .ref q_1, .ref q_2, .ref q_3, .ref q_4, .ref q_5, .int 0, .ref q_6, .ref q_7, .ref q_8, .ref q_9, .ref q_10, .ref q_11, .ref q_12, .ref q_13, .ref q_14, .ref q_15, .ref q_16, .int 0, .int 0, .int 0, .ref q_17, .int 0, .int 0, .ref q_18, .ref q_19, .int 0, .ref q_20, .ref q_21, .null, .null, .null, .null, .null, .int 0, .long 0], aI E q_1 60 (fun _ => 0), aI E q_2 60 (fun _ => 0), aI E q_3 60 (fun _ => 0), aZ E q_4 60 (fun _ => 0), aI E q_5 256 (fun _ => 0), aI E q_6 65536 (fun _ => 0), aB E q_7 65536 (fun _ => 0), aB E q_8 65536 (fun _ => 0), aI E q_9 256 (fun _ => 0), aI E q_10 256 (fun _ => 0), aI E q_11 64 (fun _ => 0), aI E q_12 4 (fun _ => 0), aI E q_13 4 (fun _ => 0), aZ E q_14 4 (fun _ => 0), aI E q_15 16 (fun _ => 0), aI E q_16 16 (fun _ => 0), aZ E q_17 60 (fun _ => 0), aI E q_18 65536 (fun _ => 0), aZ E q_19 60 (fun _ => 0), aI E q_20 16 (fun _ => 0), aI E q_21 256 (fun _ => 0), aJ E q_22 65536 (fun _ => 0)] H _ := hw
  refine g_putF S hN hw (C := RX12) (T := TX12) (N := 37) (ci := 12) (ty := (.array .long)) (w1 := [oC a_m 12 [.int 0, .int 0, .ref q_1, .ref q_2, .ref q_3, .ref q_4, .ref q_5, .int 0, .ref q_6, .ref q_7, .ref q_8, .ref q_9, .ref q_10, .ref q_11, .ref q_12, .ref q_13, .ref q_14, .ref q_15, .ref q_16, .int 0, .int 0, .int 0, .ref q_17, .int 0, .int 0, .ref q_18, .ref q_19, .int 0, .ref q_20, .ref q_21, .ref q_22, .null, .null, .null, .null, .int 0, .long 0], aI E q_1 60 (fun _ => 0), aI E q_2 60 (fun _ => 0), aI E q_3 60 (fun _ => 0), aZ E q_4 60 (fun _ => 0), aI E q_5 256 (fun _ => 0), aI E q_6 65536 (fun _ => 0), aB E q_7 65536 (fun _ => 0), aB E q_8 65536 (fun _ => 0), aI E q_9 256 (fun _ => 0), aI E q_10 256 (fun _ => 0), aI E q_11 64 (fun _ => 0), aI E q_12 4 (fun _ => 0), aI E q_13 4 (fun _ => 0), aZ E q_14 4 (fun _ => 0), aI E q_15 16 (fun _ => 0), aI E q_16 16 (fun _ => 0), aZ E q_17 60 (fun _ => 0), aI E q_18 65536 (fun _ => 0), aZ E q_19 60 (fun _ => 0), aI E q_20 16 (fun _ => 0), aI E q_21 256 (fun _ => 0), aJ E q_22 65536 (fun _ => 0)]) 0 30 iX12 k76 tyX12 tyX12_ok nmX12 dX12_init_178 hnm rfl rfl (by decide) rfl rfl (by decide +kernel) rfl rfl (Nat.le_of_ble_eq_true rfl) rfl (fun H locs hw => ?_)
  refine lv_aload_n S.1 S.2.1 dX12_init_181 rfl (lv_at hl 0 rfl) ?_
  refine lv_ldc (v := 65536) S.1 S.2.1 S.2.2.2.1 k26 dX12_init_182 ?_
  refine g_newaJ (N := 65536) S hN hw hA kAJ (by decide) (by decide) (by decide) (by decide) (by decide) dX12_init_184 (fun q_23 H hw => ?_)
  have hw : Wo E A s [oC a_m 12 [.int 0, .int 0, .ref q_1, .ref q_2, .ref q_3, .ref q_4, .ref q_5, .int 0, .ref q_6, .ref q_7, .ref q_8, .ref q_9, .ref q_10, .ref q_11, .ref q_12, .ref q_13, .ref q_14, .ref q_15, .ref q_16, .int 0, .int 0, .int 0, .ref q_17, .int 0, .int 0, .ref q_18, .ref q_19, .int 0, .ref q_20, .ref q_21, .ref q_22, .null, .null, .null, .null, .int 0, .long 0], aI E q_1 60 (fun _ => 0), aI E q_2 60 (fun _ => 0), aI E q_3 60 (fun _ => 0), aZ E q_4 60 (fun _ => 0), aI E q_5 256 (fun _ => 0), aI E q_6 65536 (fun _ => 0), aB E q_7 65536 (fun _ => 0), aB E q_8 65536 (fun _ => 0), aI E q_9 256 (fun _ => 0), aI E q_10 256 (fun _ => 0), aI E q_11 64 (fun _ => 0), aI E q_12 4 (fun _ => 0), aI E q_13 4 (fun _ => 0), aZ E q_14 4 (fun _ => 0), aI E q_15 16 (fun _ => 0), aI E q_16 16 (fun _ => 0), aZ E q_17 60 (fun _ => 0), aI E q_18 65536 (fun _ => 0), aZ E q_19 60 (fun _ => 0), aI E q_20 16 (fun _ => 0), aI E q_21 256 (fun _ => 0), aJ E q_22 65536 (fun _ => 0), aJ E q_23 65536 (fun _ => 0)] H _ := hw
  refine g_putF S hN hw (C := RX12) (T := TX12) (N := 37) (ci := 12) (ty := (.array .long)) (w1 := [oC a_m 12 [.int 0, .int 0, .ref q_1, .ref q_2, .ref q_3, .ref q_4, .ref q_5, .int 0, .ref q_6, .ref q_7, .ref q_8, .ref q_9, .ref q_10, .ref q_11, .ref q_12, .ref q_13, .ref q_14, .ref q_15, .ref q_16, .int 0, .int 0, .int 0, .ref q_17, .int 0, .int 0, .ref q_18, .ref q_19, .int 0, .ref q_20, .ref q_21, .ref q_22, .ref q_23, .null, .null, .null, .int 0, .long 0], aI E q_1 60 (fun _ => 0), aI E q_2 60 (fun _ => 0), aI E q_3 60 (fun _ => 0), aZ E q_4 60 (fun _ => 0), aI E q_5 256 (fun _ => 0), aI E q_6 65536 (fun _ => 0), aB E q_7 65536 (fun _ => 0), aB E q_8 65536 (fun _ => 0), aI E q_9 256 (fun _ => 0), aI E q_10 256 (fun _ => 0), aI E q_11 64 (fun _ => 0), aI E q_12 4 (fun _ => 0), aI E q_13 4 (fun _ => 0), aZ E q_14 4 (fun _ => 0), aI E q_15 16 (fun _ => 0), aI E q_16 16 (fun _ => 0), aZ E q_17 60 (fun _ => 0), aI E q_18 65536 (fun _ => 0), aZ E q_19 60 (fun _ => 0), aI E q_20 16 (fun _ => 0), aI E q_21 256 (fun _ => 0), aJ E q_22 65536 (fun _ => 0), aJ E q_23 65536 (fun _ => 0)]) 0 31 iX12 k80 tyX12 tyX12_ok nmX12 dX12_init_186 hnm rfl rfl (by decide) rfl rfl (by decide +kernel) rfl rfl (Nat.le_of_ble_eq_true rfl) rfl (fun H locs hw => ?_)
  refine lv_aload_n S.1 S.2.1 dX12_init_189 rfl (lv_at hl 0 rfl) ?_
  refine lv_sipush (v := 256) S.1 S.2.1 dX12_init_190 (by decide) ?_
  refine g_newaI (N := 256) S hN hw hA kAI (by decide) (by decide) (by decide) (by decide) (by decide) dX12_init_193 (fun q_24 H hw => ?_)
  have hw : Wo E A s [oC a_m 12 [.int 0, .int 0, .ref q_1, .ref q_2, .ref q_3, .ref q_4, .ref q_5, .int 0, .ref q_6, .ref q_7, .ref q_8, .ref q_9, .ref q_10, .ref q_11, .ref q_12, .ref q_13, .ref q_14, .ref q_15, .ref q_16, .int 0, .int 0, .int 0, .ref q_17, .int 0, .int 0, .ref q_18, .ref q_19, .int 0, .ref q_20, .ref q_21, .ref q_22, .ref q_23, .null, .null, .null, .int 0, .long 0], aI E q_1 60 (fun _ => 0), aI E q_2 60 (fun _ => 0), aI E q_3 60 (fun _ => 0), aZ E q_4 60 (fun _ => 0), aI E q_5 256 (fun _ => 0), aI E q_6 65536 (fun _ => 0), aB E q_7 65536 (fun _ => 0), aB E q_8 65536 (fun _ => 0), aI E q_9 256 (fun _ => 0), aI E q_10 256 (fun _ => 0), aI E q_11 64 (fun _ => 0), aI E q_12 4 (fun _ => 0), aI E q_13 4 (fun _ => 0), aZ E q_14 4 (fun _ => 0), aI E q_15 16 (fun _ => 0), aI E q_16 16 (fun _ => 0), aZ E q_17 60 (fun _ => 0), aI E q_18 65536 (fun _ => 0), aZ E q_19 60 (fun _ => 0), aI E q_20 16 (fun _ => 0), aI E q_21 256 (fun _ => 0), aJ E q_22 65536 (fun _ => 0), aJ E q_23 65536 (fun _ => 0), aI E q_24 256 (fun _ => 0)] H _ := hw
  refine g_putF S hN hw (C := RX12) (T := TX12) (N := 37) (ci := 12) (ty := (.array .int)) (w1 := [oC a_m 12 [.int 0, .int 0, .ref q_1, .ref q_2, .ref q_3, .ref q_4, .ref q_5, .int 0, .ref q_6, .ref q_7, .ref q_8, .ref q_9, .ref q_10, .ref q_11, .ref q_12, .ref q_13, .ref q_14, .ref q_15, .ref q_16, .int 0, .int 0, .int 0, .ref q_17, .int 0, .int 0, .ref q_18, .ref q_19, .int 0, .ref q_20, .ref q_21, .ref q_22, .ref q_23, .ref q_24, .null, .null, .int 0, .long 0], aI E q_1 60 (fun _ => 0), aI E q_2 60 (fun _ => 0), aI E q_3 60 (fun _ => 0), aZ E q_4 60 (fun _ => 0), aI E q_5 256 (fun _ => 0), aI E q_6 65536 (fun _ => 0), aB E q_7 65536 (fun _ => 0), aB E q_8 65536 (fun _ => 0), aI E q_9 256 (fun _ => 0), aI E q_10 256 (fun _ => 0), aI E q_11 64 (fun _ => 0), aI E q_12 4 (fun _ => 0), aI E q_13 4 (fun _ => 0), aZ E q_14 4 (fun _ => 0), aI E q_15 16 (fun _ => 0), aI E q_16 16 (fun _ => 0), aZ E q_17 60 (fun _ => 0), aI E q_18 65536 (fun _ => 0), aZ E q_19 60 (fun _ => 0), aI E q_20 16 (fun _ => 0), aI E q_21 256 (fun _ => 0), aJ E q_22 65536 (fun _ => 0), aJ E q_23 65536 (fun _ => 0), aI E q_24 256 (fun _ => 0)]) 0 32 iX12 k83 tyX12 tyX12_ok nmX12 dX12_init_195 hnm rfl rfl (by decide) rfl rfl (by decide +kernel) rfl rfl (Nat.le_of_ble_eq_true rfl) rfl (fun H locs hw => ?_)
  refine lv_aload_n S.1 S.2.1 dX12_init_198 rfl (lv_at hl 0 rfl) ?_
  refine lv_bipush (v := 16) S.1 S.2.1 dX12_init_199 (by decide) ?_
  refine g_newaI (N := 16) S hN hw hA kAI (by decide) (by decide) (by decide) (by decide) (by decide) dX12_init_201 (fun q_25 H hw => ?_)
  have hw : Wo E A s [oC a_m 12 [.int 0, .int 0, .ref q_1, .ref q_2, .ref q_3, .ref q_4, .ref q_5, .int 0, .ref q_6, .ref q_7, .ref q_8, .ref q_9, .ref q_10, .ref q_11, .ref q_12, .ref q_13, .ref q_14, .ref q_15, .ref q_16, .int 0, .int 0, .int 0, .ref q_17, .int 0, .int 0, .ref q_18, .ref q_19, .int 0, .ref q_20, .ref q_21, .ref q_22, .ref q_23, .ref q_24, .null, .null, .int 0, .long 0], aI E q_1 60 (fun _ => 0), aI E q_2 60 (fun _ => 0), aI E q_3 60 (fun _ => 0), aZ E q_4 60 (fun _ => 0), aI E q_5 256 (fun _ => 0), aI E q_6 65536 (fun _ => 0), aB E q_7 65536 (fun _ => 0), aB E q_8 65536 (fun _ => 0), aI E q_9 256 (fun _ => 0), aI E q_10 256 (fun _ => 0), aI E q_11 64 (fun _ => 0), aI E q_12 4 (fun _ => 0), aI E q_13 4 (fun _ => 0), aZ E q_14 4 (fun _ => 0), aI E q_15 16 (fun _ => 0), aI E q_16 16 (fun _ => 0), aZ E q_17 60 (fun _ => 0), aI E q_18 65536 (fun _ => 0), aZ E q_19 60 (fun _ => 0), aI E q_20 16 (fun _ => 0), aI E q_21 256 (fun _ => 0), aJ E q_22 65536 (fun _ => 0), aJ E q_23 65536 (fun _ => 0), aI E q_24 256 (fun _ => 0), aI E q_25 16 (fun _ => 0)] H _ := hw
  refine g_putF S hN hw (C := RX12) (T := TX12) (N := 37) (ci := 12) (ty := (.array .int)) (w1 := [oC a_m 12 [.int 0, .int 0, .ref q_1, .ref q_2, .ref q_3, .ref q_4, .ref q_5, .int 0, .ref q_6, .ref q_7, .ref q_8, .ref q_9, .ref q_10, .ref q_11, .ref q_12, .ref q_13, .ref q_14, .ref q_15, .ref q_16, .int 0, .int 0, .int 0, .ref q_17, .int 0, .int 0, .ref q_18, .ref q_19, .int 0, .ref q_20, .ref q_21, .ref q_22, .ref q_23, .ref q_24, .ref q_25, .null, .int 0, .long 0], aI E q_1 60 (fun _ => 0), aI E q_2 60 (fun _ => 0), aI E q_3 60 (fun _ => 0), aZ E q_4 60 (fun _ => 0), aI E q_5 256 (fun _ => 0), aI E q_6 65536 (fun _ => 0), aB E q_7 65536 (fun _ => 0), aB E q_8 65536 (fun _ => 0), aI E q_9 256 (fun _ => 0), aI E q_10 256 (fun _ => 0), aI E q_11 64 (fun _ => 0), aI E q_12 4 (fun _ => 0), aI E q_13 4 (fun _ => 0), aZ E q_14 4 (fun _ => 0), aI E q_15 16 (fun _ => 0), aI E q_16 16 (fun _ => 0), aZ E q_17 60 (fun _ => 0), aI E q_18 65536 (fun _ => 0), aZ E q_19 60 (fun _ => 0), aI E q_20 16 (fun _ => 0), aI E q_21 256 (fun _ => 0), aJ E q_22 65536 (fun _ => 0), aJ E q_23 65536 (fun _ => 0), aI E q_24 256 (fun _ => 0), aI E q_25 16 (fun _ => 0)]) 0 33 iX12 k86 tyX12 tyX12_ok nmX12 dX12_init_203 hnm rfl rfl (by decide) rfl rfl (by decide +kernel) rfl rfl (Nat.le_of_ble_eq_true rfl) rfl (fun H locs hw => ?_)
  refine lv_aload_n S.1 S.2.1 dX12_init_206 rfl (lv_at hl 0 rfl) ?_
  refine lv_bipush (v := 17) S.1 S.2.1 dX12_init_207 (by decide) ?_
  refine g_newaI (N := 17) S hN hw hA kAI (by decide) (by decide) (by decide) (by decide) (by decide) dX12_init_209 (fun q_26 H hw => ?_)
  have hw : Wo E A s [oC a_m 12 [.int 0, .int 0, .ref q_1, .ref q_2, .ref q_3, .ref q_4, .ref q_5, .int 0, .ref q_6, .ref q_7, .ref q_8, .ref q_9, .ref q_10, .ref q_11, .ref q_12, .ref q_13, .ref q_14, .ref q_15, .ref q_16, .int 0, .int 0, .int 0, .ref q_17, .int 0, .int 0, .ref q_18, .ref q_19, .int 0, .ref q_20, .ref q_21, .ref q_22, .ref q_23, .ref q_24, .ref q_25, .null, .int 0, .long 0], aI E q_1 60 (fun _ => 0), aI E q_2 60 (fun _ => 0), aI E q_3 60 (fun _ => 0), aZ E q_4 60 (fun _ => 0), aI E q_5 256 (fun _ => 0), aI E q_6 65536 (fun _ => 0), aB E q_7 65536 (fun _ => 0), aB E q_8 65536 (fun _ => 0), aI E q_9 256 (fun _ => 0), aI E q_10 256 (fun _ => 0), aI E q_11 64 (fun _ => 0), aI E q_12 4 (fun _ => 0), aI E q_13 4 (fun _ => 0), aZ E q_14 4 (fun _ => 0), aI E q_15 16 (fun _ => 0), aI E q_16 16 (fun _ => 0), aZ E q_17 60 (fun _ => 0), aI E q_18 65536 (fun _ => 0), aZ E q_19 60 (fun _ => 0), aI E q_20 16 (fun _ => 0), aI E q_21 256 (fun _ => 0), aJ E q_22 65536 (fun _ => 0), aJ E q_23 65536 (fun _ => 0), aI E q_24 256 (fun _ => 0), aI E q_25 16 (fun _ => 0), aI E q_26 17 (fun _ => 0)] H _ := hw
  refine g_putF S hN hw (C := RX12) (T := TX12) (N := 37) (ci := 12) (ty := (.array .int)) (w1 := [oC a_m 12 [.int 0, .int 0, .ref q_1, .ref q_2, .ref q_3, .ref q_4, .ref q_5, .int 0, .ref q_6, .ref q_7, .ref q_8, .ref q_9, .ref q_10, .ref q_11, .ref q_12, .ref q_13, .ref q_14, .ref q_15, .ref q_16, .int 0, .int 0, .int 0, .ref q_17, .int 0, .int 0, .ref q_18, .ref q_19, .int 0, .ref q_20, .ref q_21, .ref q_22, .ref q_23, .ref q_24, .ref q_25, .ref q_26, .int 0, .long 0], aI E q_1 60 (fun _ => 0), aI E q_2 60 (fun _ => 0), aI E q_3 60 (fun _ => 0), aZ E q_4 60 (fun _ => 0), aI E q_5 256 (fun _ => 0), aI E q_6 65536 (fun _ => 0), aB E q_7 65536 (fun _ => 0), aB E q_8 65536 (fun _ => 0), aI E q_9 256 (fun _ => 0), aI E q_10 256 (fun _ => 0), aI E q_11 64 (fun _ => 0), aI E q_12 4 (fun _ => 0), aI E q_13 4 (fun _ => 0), aZ E q_14 4 (fun _ => 0), aI E q_15 16 (fun _ => 0), aI E q_16 16 (fun _ => 0), aZ E q_17 60 (fun _ => 0), aI E q_18 65536 (fun _ => 0), aZ E q_19 60 (fun _ => 0), aI E q_20 16 (fun _ => 0), aI E q_21 256 (fun _ => 0), aJ E q_22 65536 (fun _ => 0), aJ E q_23 65536 (fun _ => 0), aI E q_24 256 (fun _ => 0), aI E q_25 16 (fun _ => 0), aI E q_26 17 (fun _ => 0)]) 0 34 iX12 k89 tyX12 tyX12_ok nmX12 dX12_init_211 hnm rfl rfl (by decide) rfl rfl (by decide +kernel) rfl rfl (Nat.le_of_ble_eq_true rfl) rfl (fun H locs hw => ?_)
  cases hf
  exact hE (fun i => ([q_1, q_2, q_3, q_4, q_5, q_6, q_7, q_8, q_9, q_10, q_11, q_12, q_13, q_14, q_15, q_16, q_17, q_18, q_19, q_20, q_21, q_22, q_23, q_24, q_25, q_26] : List Nat).getD i 0) _ _ _ _ hw dX12_init_214
def f_X11_currentWaysN (g_nodes : Int32) (g_age : Int32) (g_joined : Nat → Int32) : Option (Int32 × Int32 × Int32 × (Nat → Int32) × (Nat → Int32) × (Nat → Int32) × (Nat → Int32) × (Nat → Int32) × (Nat → Int32)) :=
  (f_X10_init).bind (fun _ => bd9 (f_X10_refresh g_nodes g_age g_joined (fun _ => 0) (fun _ => 0) (fun _ => 0) (fun _ => 0) (fun _ => 0) 0 0 (fun _ => 0) (-1)) (fun w_age_4 r_mayLeave_5 r_amount_6 r_slots_7 r_slotOf_8 r_sets_9 r_later_10 r_laters_11 w_known_12 => some (w_age_4, r_mayLeave_5, r_amount_6, r_slots_7, r_slotOf_8, r_sets_9, r_later_10, r_laters_11, w_known_12)))
set_option maxHeartbeats 4000000 in
set_option maxRecDepth 100000 in
theorem c_X11_currentWaysN (l : Launch) (E : Ev) (g_nodes : Int32) (g_made : Int32) (g_living : Int32) (g_age : Int32) (a_g_oneEnd : Nat) (a_g_otherEnd : Nat) (a_g_weights : Nat) (a_g_alive : Nat) (g_joined : Nat → Int32) (a_g_joined : Nat) (a_g : Nat) (a_k : Nat) (x_sorts : Option Nat) (x_counts : Option Nat) (x_holds : Option Nat) (x_joins : Option Nat) (x_stables : Option Nat) (a_x : Nat) (u_w_age : Int32) (u_r_mayLeave : Int32) (u_r_amount : Int32) (u_r_slots : Nat → Int32) (u_r_slotOf : Nat → Int32) (u_r_sets : Nat → Int32) (u_r_later : Nat → Int32) (u_r_laters : Nat → Int32) (u_w_known : Nat → Int32) (hf : f_X11_currentWaysN g_nodes g_age g_joined = some (u_w_age, u_r_mayLeave, u_r_amount, u_r_slots, u_r_slotOf, u_r_sets, u_r_later, u_r_laters, u_w_known)) :
    CnR l yX11_currentWays wsX11_currentWays (Ra 23 15 15249) E [.ref a_x] [oC a_x 11 [.ref a_g, .ref a_k, .null, va_rf x_sorts, va_rf x_counts, va_rf x_holds, va_rf x_joins, va_rf x_stables], oC a_g 2 [.int g_nodes, .int g_made, .int g_living, .int g_age, .ref a_g_oneEnd, .ref a_g_otherEnd, .ref a_g_weights, .ref a_g_alive, .ref a_g_joined], aI E a_g_joined 16 g_joined] 15 15249 (fun u => (u 0)) (fun u => [oC a_x 11 [.ref a_g, .ref a_k, .ref (u 0), va_rf x_sorts, va_rf x_counts, va_rf x_holds, va_rf x_joins, va_rf x_stables], oC a_g 2 [.int g_nodes, .int g_made, .int g_living, .int g_age, .ref a_g_oneEnd, .ref a_g_otherEnd, .ref a_g_weights, .ref a_g_alive, .ref a_g_joined], aI E a_g_joined 16 g_joined, oC (u 0) 10 [.ref a_g, .ref (u 1), .ref (u 12), .ref (u 13), .ref (u 14), .int u_w_age], oC (u 1) 0 [.ref (u 2), .ref (u 8), .ref (u 9), .ref (u 10), .ref (u 11)], oC (u 2) 7 [.ref (u 3), .ref (u 4), .ref (u 5), .ref (u 6), .ref (u 7), .int u_r_mayLeave, .int u_r_amount], aI E (u 3) 4096 u_r_slots, aI E (u 4) 2584 u_r_slotOf, aI E (u 5) 2584 u_r_sets, aI E (u 6) 256 u_r_later, aI E (u 7) 16 u_r_laters, aI E (u 8) 256 (fun _ => 0), aJ E (u 9) 256 (fun _ => 0), aI E (u 10) 2584 (fun _ => 0), aJ E (u 11) 2584 (fun _ => 0), aZ E (u 12) 5 u_w_known, aZ E (u 13) 5 (fun _ => 0), aJ E (u 14) 5 (fun _ => 0)]) := by
  refine onR (cc := cX11_currentWays) (maxL := 1) (own := RX11) (rC := "PairMatching$Ways") (by decide) rfl rfl ?_
  intro p e s m below meth c A ls Q S hnm hN hw hA hl0 hE
  have hl : lv_has ls 1 [(0, .ref a_x)] := hl0 _ (lv_entry [.ref a_x] (n := 1) (Nat.le_of_ble_eq_true rfl))
  have iX10 : ∀ w ∈ wsX100, w ∈ wsX11_currentWays := by decide +kernel
  have iX11 : ∀ w ∈ wsX110, w ∈ wsX11_currentWays := by decide +kernel
  have k12 := S.2.2.2.2 (.fieldLink RX11 12 "PairMatching" "graph" "LPairMatching$Graph;") (by decide +kernel)
  have k201 := S.2.2.2.2 (.fieldLink RX11 201 "PairMatching" "ways" "LPairMatching$Ways;") (by decide +kernel)
  have kCX10 := S.2.2.2.2 (.classLink RX11 64 RX10) (by decide +kernel)
  have kIX10 := S.2.2.2.2 (.initialized RX10) (by decide +kernel)
  have kM205 := S.2.2.2.2 (.methodLink RX11 205 yX10_init) (by decide +kernel)
  have kNX10 := S.2.2.2.2 (.instantiable RX10 6) (by decide +kernel)
  have kSX10_init := S.2.2.2.2 (.instanceMethod yX10_init) (by decide +kernel)
  unfold f_X11_currentWaysN at hf
  refine lv_aload_n S.1 S.2.1 dX11_currentWays_0 rfl (lv_at hl 0 rfl) ?_
  refine g_get S hN hw (C := RX11) (T := TX11) (N := 8) (ci := 11) (v := .null) 0 2 iX11 k201 dX11_currentWays_1 rfl rfl (by decide) rfl ?_
  refine lv_ifnonnullN S.1 S.2.1 dX11_currentWays_4 ?_
  refine lv_aload_n S.1 S.2.1 dX11_currentWays_7 rfl (lv_at hl 0 rfl) ?_
  refine g_new S hN hw hA (C := RX10) (T := TX10) (N := 6) (ci := 10) (fs := [.null, .null, .null, .null, .null, .int 0]) iX10 tyX10 tyX10_ok kCX10 kNX10 kIX10 rfl (fun j hj => by rcases (show j = 0 ∨ j = 1 ∨ j = 2 ∨ j = 3 ∨ j = 4 ∨ j = 5 by omega) with rfl | rfl | rfl | rfl | rfl | rfl <;> rfl) (by decide) (by decide) dX11_currentWays_8 (fun q_1 H hw => ?_)
  have hw : Wo E A s [oC a_x 11 [.ref a_g, .ref a_k, .null, va_rf x_sorts, va_rf x_counts, va_rf x_holds, va_rf x_joins, va_rf x_stables], oC a_g 2 [.int g_nodes, .int g_made, .int g_living, .int g_age, .ref a_g_oneEnd, .ref a_g_otherEnd, .ref a_g_weights, .ref a_g_alive, .ref a_g_joined], aI E a_g_joined 16 g_joined, oC q_1 10 [.null, .null, .null, .null, .null, .int 0]] H _ := hw
  refine lv_dup S.1 S.2.1 dX11_currentWays_11 rfl ?_
  refine lv_aload_n S.1 S.2.1 dX11_currentWays_12 rfl (lv_at hl 0 rfl) ?_
  refine g_get S hN hw (C := RX11) (T := TX11) (N := 8) (ci := 11) (v := .ref a_g) 0 0 iX11 k12 dX11_currentWays_13 rfl rfl (by decide) rfl ?_
  obtain ⟨_, hc_1, hf⟩ := bd_s hf
  refine g_ncallv (wc := [oC q_1 10 [.null, .null, .null, .null, .null, .int 0]]) (wr := [oC a_x 11 [.ref a_g, .ref a_k, .null, va_rf x_sorts, va_rf x_counts, va_rf x_holds, va_rf x_joins, va_rf x_stables], oC a_g 2 [.int g_nodes, .int g_made, .int g_living, .int g_age, .ref a_g_oneEnd, .ref a_g_otherEnd, .ref a_g_weights, .ref a_g_alive, .ref a_g_joined], aI E a_g_joined 16 g_joined]) (w1 := (fun u_3 => [oC q_1 10 [.ref a_g, .ref (u_3 0), .ref (u_3 11), .ref (u_3 12), .ref (u_3 13), .int (-1)], oC (u_3 0) 0 [.ref (u_3 1), .ref (u_3 7), .ref (u_3 8), .ref (u_3 9), .ref (u_3 10)], oC (u_3 1) 7 [.ref (u_3 2), .ref (u_3 3), .ref (u_3 4), .ref (u_3 5), .ref (u_3 6), .int 0, .int 0], aI E (u_3 2) 4096 (fun _ => 0), aI E (u_3 3) 2584 (fun _ => 0), aI E (u_3 4) 2584 (fun _ => 0), aI E (u_3 5) 256 (fun _ => 0), aI E (u_3 6) 16 (fun _ => 0), aI E (u_3 7) 256 (fun _ => 0), aJ E (u_3 8) 256 (fun _ => 0), aI E (u_3 9) 2584 (fun _ => 0), aJ E (u_3 10) 2584 (fun _ => 0), aZ E (u_3 11) 5 (fun _ => 0), aZ E (u_3 12) 5 (fun _ => 0), aJ E (u_3 13) 5 (fun _ => 0)])) (va_runI (As := [.ref a_g]) (rest := [.ref q_1, .ref a_x]) S (c_X10_init l E q_1 a_g hc_1 _) (cwI 1 S.2.2.2.2 gX11_currentWays_X10_init rfl rfl rfl kIX10 kM205 kSX10_init rfl (by decide +kernel) (rm_le (by omega) (by decide))) (preS hN hw [3] rfl rfl) rfl rfl hl.1 rfl (lv_room (Nat.le_of_ble_eq_true rfl)) dX11_currentWays_16 ⟨by decide, by decide⟩) hw hA [3] [0, 1, 2] rfl rfl rfl (by decide) (fun u_3 H locs hw => ?_)
  have hw : Wo E A s [oC a_x 11 [.ref a_g, .ref a_k, .null, va_rf x_sorts, va_rf x_counts, va_rf x_holds, va_rf x_joins, va_rf x_stables], oC a_g 2 [.int g_nodes, .int g_made, .int g_living, .int g_age, .ref a_g_oneEnd, .ref a_g_otherEnd, .ref a_g_weights, .ref a_g_alive, .ref a_g_joined], aI E a_g_joined 16 g_joined, oC q_1 10 [.ref a_g, .ref (u_3 0), .ref (u_3 11), .ref (u_3 12), .ref (u_3 13), .int (-1)], oC (u_3 0) 0 [.ref (u_3 1), .ref (u_3 7), .ref (u_3 8), .ref (u_3 9), .ref (u_3 10)], oC (u_3 1) 7 [.ref (u_3 2), .ref (u_3 3), .ref (u_3 4), .ref (u_3 5), .ref (u_3 6), .int 0, .int 0], aI E (u_3 2) 4096 (fun _ => 0), aI E (u_3 3) 2584 (fun _ => 0), aI E (u_3 4) 2584 (fun _ => 0), aI E (u_3 5) 256 (fun _ => 0), aI E (u_3 6) 16 (fun _ => 0), aI E (u_3 7) 256 (fun _ => 0), aJ E (u_3 8) 256 (fun _ => 0), aI E (u_3 9) 2584 (fun _ => 0), aJ E (u_3 10) 2584 (fun _ => 0), aZ E (u_3 11) 5 (fun _ => 0), aZ E (u_3 12) 5 (fun _ => 0), aJ E (u_3 13) 5 (fun _ => 0)] H _ := hw
  refine g_put S hN hw (C := RX11) (T := TX11) (N := 8) (ci := 11) (ty := (.object "PairMatching$Ways")) (w1 := [oC a_x 11 [.ref a_g, .ref a_k, .ref q_1, va_rf x_sorts, va_rf x_counts, va_rf x_holds, va_rf x_joins, va_rf x_stables], oC a_g 2 [.int g_nodes, .int g_made, .int g_living, .int g_age, .ref a_g_oneEnd, .ref a_g_otherEnd, .ref a_g_weights, .ref a_g_alive, .ref a_g_joined], aI E a_g_joined 16 g_joined, oC q_1 10 [.ref a_g, .ref (u_3 0), .ref (u_3 11), .ref (u_3 12), .ref (u_3 13), .int (-1)], oC (u_3 0) 0 [.ref (u_3 1), .ref (u_3 7), .ref (u_3 8), .ref (u_3 9), .ref (u_3 10)], oC (u_3 1) 7 [.ref (u_3 2), .ref (u_3 3), .ref (u_3 4), .ref (u_3 5), .ref (u_3 6), .int 0, .int 0], aI E (u_3 2) 4096 (fun _ => 0), aI E (u_3 3) 2584 (fun _ => 0), aI E (u_3 4) 2584 (fun _ => 0), aI E (u_3 5) 256 (fun _ => 0), aI E (u_3 6) 16 (fun _ => 0), aI E (u_3 7) 256 (fun _ => 0), aJ E (u_3 8) 256 (fun _ => 0), aI E (u_3 9) 2584 (fun _ => 0), aJ E (u_3 10) 2584 (fun _ => 0), aZ E (u_3 11) 5 (fun _ => 0), aZ E (u_3 12) 5 (fun _ => 0), aJ E (u_3 13) 5 (fun _ => 0)]) 0 2 iX11 k201 tyX11 tyX11_ok nmX11 dX11_currentWays_19 rfl rfl (by decide) rfl (by decide +kernel) rfl rfl (Nat.le_of_ble_eq_true rfl) rfl (fun H locs hw => ?_)
  refine lv_aload_n S.1 S.2.1 dX11_currentWays_22 rfl (lv_at hl 0 rfl) ?_
  refine g_get S hN hw (C := RX11) (T := TX11) (N := 8) (ci := 11) (v := .ref q_1) 0 2 iX11 k201 dX11_currentWays_23 rfl rfl (by decide) rfl ?_
  obtain ⟨w_age_4, r_mayLeave_5, r_amount_6, r_slots_7, r_slotOf_8, r_sets_9, r_later_10, r_laters_11, w_known_12, hc_12, hf⟩ := bd9_s hf
  refine g_callv (wc := [oC q_1 10 [.ref a_g, .ref (u_3 0), .ref (u_3 11), .ref (u_3 12), .ref (u_3 13), .int (-1)], oC a_g 2 [.int g_nodes, .int g_made, .int g_living, .int g_age, .ref a_g_oneEnd, .ref a_g_otherEnd, .ref a_g_weights, .ref a_g_alive, .ref a_g_joined], aI E a_g_joined 16 g_joined, oC (u_3 0) 0 [.ref (u_3 1), .ref (u_3 7), .ref (u_3 8), .ref (u_3 9), .ref (u_3 10)], oC (u_3 1) 7 [.ref (u_3 2), .ref (u_3 3), .ref (u_3 4), .ref (u_3 5), .ref (u_3 6), .int 0, .int 0], aI E (u_3 2) 4096 (fun _ => 0), aI E (u_3 3) 2584 (fun _ => 0), aI E (u_3 4) 2584 (fun _ => 0), aI E (u_3 5) 256 (fun _ => 0), aI E (u_3 6) 16 (fun _ => 0), aZ E (u_3 11) 5 (fun _ => 0)]) (wr := [oC a_x 11 [.ref a_g, .ref a_k, .ref q_1, va_rf x_sorts, va_rf x_counts, va_rf x_holds, va_rf x_joins, va_rf x_stables], aI E (u_3 7) 256 (fun _ => 0), aJ E (u_3 8) 256 (fun _ => 0), aI E (u_3 9) 2584 (fun _ => 0), aJ E (u_3 10) 2584 (fun _ => 0), aZ E (u_3 12) 5 (fun _ => 0), aJ E (u_3 13) 5 (fun _ => 0)]) (w1 := [oC q_1 10 [.ref a_g, .ref (u_3 0), .ref (u_3 11), .ref (u_3 12), .ref (u_3 13), .int w_age_4], oC a_g 2 [.int g_nodes, .int g_made, .int g_living, .int g_age, .ref a_g_oneEnd, .ref a_g_otherEnd, .ref a_g_weights, .ref a_g_alive, .ref a_g_joined], aI E a_g_joined 16 g_joined, oC (u_3 0) 0 [.ref (u_3 1), .ref (u_3 7), .ref (u_3 8), .ref (u_3 9), .ref (u_3 10)], oC (u_3 1) 7 [.ref (u_3 2), .ref (u_3 3), .ref (u_3 4), .ref (u_3 5), .ref (u_3 6), .int r_mayLeave_5, .int r_amount_6], aI E (u_3 2) 4096 r_slots_7, aI E (u_3 3) 2584 r_slotOf_8, aI E (u_3 4) 2584 r_sets_9, aI E (u_3 5) 256 r_later_10, aI E (u_3 6) 16 r_laters_11, aZ E (u_3 11) 5 w_known_12]) (va_runV (As := []) (rest := []) S (c_X10_refresh l E g_nodes g_made g_living g_age a_g_oneEnd a_g_otherEnd a_g_weights a_g_alive g_joined a_g_joined a_g (fun _ => 0) (u_3 2) (fun _ => 0) (u_3 3) (fun _ => 0) (u_3 4) (fun _ => 0) (u_3 5) (fun _ => 0) (u_3 6) 0 0 (u_3 1) (u_3 7) (u_3 8) (u_3 9) (u_3 10) (u_3 0) (fun _ => 0) (u_3 11) (u_3 12) (u_3 13) (-1) q_1 w_age_4 r_mayLeave_5 r_amount_6 r_slots_7 r_slotOf_8 r_sets_9 r_later_10 r_laters_11 w_known_12 hc_12 _) (cwV 0 S.2.2.2.2 gX11_currentWays_X10_refresh rfl rfl rfl (by decide +kernel) (rm_le (by omega) (by decide))) (preV (q := (RX10, TX10, 6)) hN hw [3, 1, 2, 4, 5, 6, 7, 8, 9, 10, 15] rfl rfl rfl rfl) rfl rfl hl.1 rfl (lv_room (Nat.le_of_ble_eq_true rfl)) dX11_currentWays_26 ⟨by decide, by decide⟩) hw hA [3, 1, 2, 4, 5, 6, 7, 8, 9, 10, 15] [0, 11, 12, 13, 14, 16, 17] rfl rfl rfl (by decide) (fun H locs hw => ?_)
  have hw : Wo E A s [oC a_x 11 [.ref a_g, .ref a_k, .ref q_1, va_rf x_sorts, va_rf x_counts, va_rf x_holds, va_rf x_joins, va_rf x_stables], aI E (u_3 7) 256 (fun _ => 0), aJ E (u_3 8) 256 (fun _ => 0), aI E (u_3 9) 2584 (fun _ => 0), aJ E (u_3 10) 2584 (fun _ => 0), aZ E (u_3 12) 5 (fun _ => 0), aJ E (u_3 13) 5 (fun _ => 0), oC q_1 10 [.ref a_g, .ref (u_3 0), .ref (u_3 11), .ref (u_3 12), .ref (u_3 13), .int w_age_4], oC a_g 2 [.int g_nodes, .int g_made, .int g_living, .int g_age, .ref a_g_oneEnd, .ref a_g_otherEnd, .ref a_g_weights, .ref a_g_alive, .ref a_g_joined], aI E a_g_joined 16 g_joined, oC (u_3 0) 0 [.ref (u_3 1), .ref (u_3 7), .ref (u_3 8), .ref (u_3 9), .ref (u_3 10)], oC (u_3 1) 7 [.ref (u_3 2), .ref (u_3 3), .ref (u_3 4), .ref (u_3 5), .ref (u_3 6), .int r_mayLeave_5, .int r_amount_6], aI E (u_3 2) 4096 r_slots_7, aI E (u_3 3) 2584 r_slotOf_8, aI E (u_3 4) 2584 r_sets_9, aI E (u_3 5) 256 r_later_10, aI E (u_3 6) 16 r_laters_11, aZ E (u_3 11) 5 w_known_12] H _ := hw
  refine lv_aload_n S.1 S.2.1 dX11_currentWays_29 rfl (lv_at hl 0 rfl) ?_
  refine g_get S hN hw (C := RX11) (T := TX11) (N := 8) (ci := 11) (v := .ref q_1) 0 2 iX11 k201 dX11_currentWays_30 rfl rfl (by decide) rfl ?_
  cases hf
  exact hE (fun i => ([q_1, (u_3 0), (u_3 1), (u_3 2), (u_3 3), (u_3 4), (u_3 5), (u_3 6), (u_3 7), (u_3 8), (u_3 9), (u_3 10), (u_3 11), (u_3 12), (u_3 13)] : List Nat).getD i 0) _ _ _ _ (hw.sub [0, 8, 9, 7, 10, 11, 12, 13, 14, 15, 16, 1, 2, 3, 4, 17, 5, 6] rfl rfl) dX11_currentWays_33
