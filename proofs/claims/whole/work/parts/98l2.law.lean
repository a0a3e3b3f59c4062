section
set_option maxRecDepth 100000 in
set_option maxHeartbeats 4000000 in
theorem law_holdNode {p : Program} {l : Launch} {e : Env} {s : State} {m : MethodId} {below : List Frame} {meth : Method} {c : Code} {b L : Nat} {xs : Nat → Int32} {F : Nat} (hF : 40000000 ≤ F) (S : CallFix p m c cL_law 4 s #[Value.ref b] wsL_law RL) {E : Ev} (hN : KN E s) (hX : va_X b L xs s s.heap) (hbl : b < s.heap.size) {i : Nat} (hi : i + 4 ≤ L) (hL : L ≤ 2048) {G : Gr} {rk : Nat → Nat → Int32} {o : Option Nat} {a_x a_m cells slots : Nat} {XW MW : va_W} {H : Heap} {locs : List Loc} {ls : Array Slot} {Q : State → Prop} (hXI : XI E G rk o i a_x cells slots XW) (hMI : MI E G rk o a_m MW) (hw : Wo E (fun q : Nat => s.heap.size ≤ q) s (XW ++ MW) H locs) (hl : lv_has ls 4 [(3, .int (nI i)), (2, .ref a_m), (1, .ref a_x), (0, .ref b)])
    (kk : ∀ (G' : Gr) (rk' : Nat → Nat → Int32) (o' : Option Nat) (cells' slots' : Nat) (XW' MW' : va_W) (H' : Heap) (locs' : List Loc), XI E G' rk' o' (i + 1) a_x cells' slots' XW' → MI E G' rk' o' a_m MW' → Wo E (fun q : Nat => s.heap.size ≤ q) s (XW' ++ MW') H' locs' → W p l e room_1 s m #[Value.ref b] below meth c H' locs' cells' slots' Q (F0 m 589 ls [])) : W p l e room_1 s m #[Value.ref b] below meth c H locs cells slots Q (F0 m 441 ls []) := by
  have hA : ∀ q : Nat, s.heap.size ≤ q → (fun q : Nat => s.heap.size ≤ q) q := fun _ h => h
  have hbA : ¬ (fun q : Nat => s.heap.size ≤ q) b := Nat.not_le.mpr hbl
  obtain ⟨hW, hv, hr⟩ := hXI.wf
  refine lv_aload_n S.1 S.2.1 dL_law_441 rfl (lv_at hl 2 rfl) ?_
  refine lv_aload_n S.1 S.2.1 dL_law_442 rfl (lv_at hl 3 rfl) ?_
  refine lv_iload_n S.1 S.2.1 dL_law_443 rfl (lv_at hl 0 rfl) ?_
  refine lv_iconst (v := 1) S.1 S.2.1 dL_law_444 (by decide) ?_
  refine lv_iadd S.1 S.2.1 dL_law_445 ?_
  rw [nI_1 i]
  refine va_sld S.1 S.2.1 hX hbl hbA hw.2.2 (vp_in_nI (show i + 1 < L by omega) (by omega)) dL_law_446 ?_
  obtain ⟨h1, wc1, wr1, mc1, ms1, r1, w1, fs1, hh1, hC1, he1, hp1, a1, hX1⟩ := x_holdNode l hF (show i < 1000000 by omega) hXI (xs (nI (i + 1)).toNatClampNeg)
  have hroom := (hX1 (fun _ => 0)).le
  refine g_xI (As := [.int (xs (nI (i + 1)).toNatClampNeg)]) (rest := []) S hN hw hA hC1 hp1 he1 (q := (RX11, TX11, 8)) rfl (fun mc ms => cwV 1 S.2.2.2.2 gL_law_X11_holdNode rfl rfl rfl (by decide +kernel) (rm_law hh1 (by decide))) rfl hl.1 rfl (lv_room (Nat.le_of_ble_eq_true rfl)) dL_law_447 ⟨by show _ ≤ 600000; omega, by show _ ≤ 7302250; omega⟩ (fun u1 H locs hw => ?_)
  have hX1 := hX1 u1
  refine lv_aload_n S.1 S.2.1 dL_law_450 rfl (lv_at hl 1 rfl) ?_
  refine lv_aload_n S.1 S.2.1 dL_law_451 rfl (lv_at hl 3 rfl) ?_
  refine lv_iload_n S.1 S.2.1 dL_law_452 rfl (lv_at hl 0 rfl) ?_
  refine lv_iconst (v := 1) S.1 S.2.1 dL_law_453 (by decide) ?_
  refine lv_iadd S.1 S.2.1 dL_law_454 ?_
  rw [nI_1 i]
  refine va_sld S.1 S.2.1 hX hbl hbA hw.2.2 (vp_in_nI (show i + 1 < L by omega) (by omega)) dL_law_455 ?_
  obtain ⟨h2, wc2, wr2, mc2, ms2, r2, w2, fs2, hh2, ⟨rfl, rfl⟩, hC2, he2, hp2, a2, hM2⟩ := m_holdNode l hF hW hv hr hMI (xs (nI (i + 1)).toNatClampNeg)
  refine g_xI (As := [.int (xs (nI (i + 1)).toNatClampNeg)]) (rest := [.int r1]) S hN (hw.pm List.perm_append_comm) hA hC2 hp2 he2 (q := (RX12, TX12, 37)) rfl (fun mc ms => cwV 1 S.2.2.2.2 gL_law_X12_holdNode rfl rfl rfl (by decide +kernel) (rm_law hh2 (by decide))) rfl hl.1 rfl (lv_room (Nat.le_of_ble_eq_true rfl)) dL_law_456 ⟨by show _ ≤ 600000; omega, by show _ ≤ 7302250; omega⟩ (fun u2 H locs hw => ?_)
  have hone : r1 = r2 := hold_one (f := fun H => plN H (xs (nI (i + 1)).toNatClampNeg) (nd G) 0 0) a1 a2
  refine lv_icmp_eq (tgt := 589) S.1 S.2.1 dL_law_459 (by decide) (fun h9 => ?_) (fun h9 => absurd hone h9)
  exact kk _ _ _ _ _ _ _ _ _ (hX1.mono) (hM2 u2) (hw.pm List.perm_append_comm)
set_option maxRecDepth 100000 in
set_option maxHeartbeats 4000000 in
theorem law_join {p : Program} {l : Launch} {e : Env} {s : State} {m : MethodId} {below : List Frame} {meth : Method} {c : Code} {b L : Nat} {xs : Nat → Int32} {F : Nat} (hF : 40000000 ≤ F) (S : CallFix p m c cL_law 4 s #[Value.ref b] wsL_law RL) {E : Ev} (hN : KN E s) (hX : va_X b L xs s s.heap) (hbl : b < s.heap.size) {i : Nat} (hi : i + 4 ≤ L) (hL : L ≤ 2048) {G : Gr} {rk : Nat → Nat → Int32} {o : Option Nat} {a_x a_m cells slots : Nat} {XW MW : va_W} {H : Heap} {locs : List Loc} {ls : Array Slot} {Q : State → Prop} (hXI : XI E G rk o i a_x cells slots XW) (hMI : MI E G rk o a_m MW) (hw : Wo E (fun q : Nat => s.heap.size ≤ q) s (XW ++ MW) H locs) (hl : lv_has ls 4 [(3, .int (nI i)), (2, .ref a_m), (1, .ref a_x), (0, .ref b)])
    (kk : ∀ (G' : Gr) (rk' : Nat → Nat → Int32) (o' : Option Nat) (cells' slots' : Nat) (XW' MW' : va_W) (H' : Heap) (locs' : List Loc), XI E G' rk' o' (i + 1) a_x cells' slots' XW' → MI E G' rk' o' a_m MW' → Wo E (fun q : Nat => s.heap.size ≤ q) s (XW' ++ MW') H' locs' → W p l e room_1 s m #[Value.ref b] below meth c H' locs' cells' slots' Q (F0 m 589 ls [])) : W p l e room_1 s m #[Value.ref b] below meth c H locs cells slots Q (F0 m 464 ls []) := by
  have hA : ∀ q : Nat, s.heap.size ≤ q → (fun q : Nat => s.heap.size ≤ q) q := fun _ h => h
  have hbA : ¬ (fun q : Nat => s.heap.size ≤ q) b := Nat.not_le.mpr hbl
  obtain ⟨hW, hv, hr⟩ := hXI.wf
  refine lv_aload_n S.1 S.2.1 dL_law_464 rfl (lv_at hl 2 rfl) ?_
  refine lv_aload_n S.1 S.2.1 dL_law_465 rfl (lv_at hl 3 rfl) ?_
  refine lv_iload_n S.1 S.2.1 dL_law_466 rfl (lv_at hl 0 rfl) ?_
  refine lv_iconst (v := 1) S.1 S.2.1 dL_law_467 (by decide) ?_
  refine lv_iadd S.1 S.2.1 dL_law_468 ?_
  rw [nI_1 i]
  refine va_sld S.1 S.2.1 hX hbl hbA hw.2.2 (vp_in_nI (show i + 1 < L by omega) (by omega)) dL_law_469 ?_
  obtain ⟨n1, h1, wc1, wr1, mc1, ms1, r1, w1, fs1, hh1, hC1, he1, hp1, a1, hX1⟩ := x_join l hF (show i < 1000000 by omega) hXI (xs (nI (i + 1)).toNatClampNeg)
  have hroom := (hX1 (fun _ => 0)).le
  refine g_xI (As := [.int (xs (nI (i + 1)).toNatClampNeg)]) (rest := []) S hN hw hA hC1 hp1 he1 (q := (RX11, TX11, 8)) rfl (fun mc ms => cwV 1 S.2.2.2.2 gL_law_X11_join rfl rfl rfl (by decide +kernel) (rm_law hh1 (by decide))) rfl hl.1 rfl (lv_room (Nat.le_of_ble_eq_true rfl)) dL_law_470 ⟨by show _ ≤ 600000; omega, by show _ ≤ 7302250; omega⟩ (fun u1 H locs hw => ?_)
  have hX1 := hX1 u1
  refine lv_aload_n S.1 S.2.1 dL_law_473 rfl (lv_at hl 1 rfl) ?_
  refine lv_aload_n S.1 S.2.1 dL_law_474 rfl (lv_at hl 3 rfl) ?_
  refine lv_iload_n S.1 S.2.1 dL_law_475 rfl (lv_at hl 0 rfl) ?_
  refine lv_iconst (v := 1) S.1 S.2.1 dL_law_476 (by decide) ?_
  refine lv_iadd S.1 S.2.1 dL_law_477 ?_
  rw [nI_1 i]
  refine va_sld S.1 S.2.1 hX hbl hbA hw.2.2 (vp_in_nI (show i + 1 < L by omega) (by omega)) dL_law_478 ?_
  obtain ⟨n2, h2, wc2, wr2, mc2, ms2, r2, w2, fs2, hh2, ⟨rfl, rfl⟩, hC2, he2, hp2, a2, hM2⟩ := m_join l hF hW hv hr hMI (xs (nI (i + 1)).toNatClampNeg)
  refine g_xI (As := [.int (xs (nI (i + 1)).toNatClampNeg)]) (rest := [.int r1]) S hN (hw.pm List.perm_append_comm) hA hC2 hp2 he2 (q := (RX12, TX12, 37)) rfl (fun mc ms => cwV 1 S.2.2.2.2 gL_law_X12_join rfl rfl rfl (by decide +kernel) (rm_law hh2 (by decide))) rfl hl.1 rfl (lv_room (Nat.le_of_ble_eq_true rfl)) dL_law_479 ⟨by show _ ≤ 600000; omega, by show _ ≤ 7302250; omega⟩ (fun u2 H locs hw => ?_)
  have hone : r1 = r2 := (SpJ_one hW a1 a2).1
  have hon : n1 = n2 := (SpJ_one hW a1 a2).2
  subst hon
  refine lv_icmp_eq (tgt := 589) S.1 S.2.1 dL_law_482 (by decide) (fun h9 => ?_) (fun h9 => absurd hone h9)
  exact kk _ _ _ _ _ _ _ _ _ (hX1.mono) (hM2 u2) (hw.pm List.perm_append_comm)
set_option maxRecDepth 100000 in
set_option maxHeartbeats 4000000 in
theorem law_joinArc {p : Program} {l : Launch} {e : Env} {s : State} {m : MethodId} {below : List Frame} {meth : Method} {c : Code} {b L : Nat} {xs : Nat → Int32} {F : Nat} (hF : 40000000 ≤ F) (S : CallFix p m c cL_law 4 s #[Value.ref b] wsL_law RL) {E : Ev} (hN : KN E s) (hX : va_X b L xs s s.heap) (hbl : b < s.heap.size) {i : Nat} (hi : i + 4 ≤ L) (hL : L ≤ 2048) {G : Gr} {rk : Nat → Nat → Int32} {o : Option Nat} {a_x a_m cells slots : Nat} {XW MW : va_W} {H : Heap} {locs : List Loc} {ls : Array Slot} {Q : State → Prop} (hXI : XI E G rk o i a_x cells slots XW) (hMI : MI E G rk o a_m MW) (hw : Wo E (fun q : Nat => s.heap.size ≤ q) s (XW ++ MW) H locs) (hl : lv_has ls 4 [(3, .int (nI i)), (2, .ref a_m), (1, .ref a_x), (0, .ref b)])
    (kk : ∀ (G' : Gr) (rk' : Nat → Nat → Int32) (o' : Option Nat) (cells' slots' : Nat) (XW' MW' : va_W) (H' : Heap) (locs' : List Loc), XI E G' rk' o' (i + 1) a_x cells' slots' XW' → MI E G' rk' o' a_m MW' → Wo E (fun q : Nat => s.heap.size ≤ q) s (XW' ++ MW') H' locs' → W p l e room_1 s m #[Value.ref b] below meth c H' locs' cells' slots' Q (F0 m 589 ls [])) : W p l e room_1 s m #[Value.ref b] below meth c H locs cells slots Q (F0 m 487 ls []) := by
  have hA : ∀ q : Nat, s.heap.size ≤ q → (fun q : Nat => s.heap.size ≤ q) q := fun _ h => h
  have hbA : ¬ (fun q : Nat => s.heap.size ≤ q) b := Nat.not_le.mpr hbl
  obtain ⟨hW, hv, hr⟩ := hXI.wf
  refine lv_aload_n S.1 S.2.1 dL_law_487 rfl (lv_at hl 2 rfl) ?_
  refine lv_aload_n S.1 S.2.1 dL_law_488 rfl (lv_at hl 3 rfl) ?_
  refine lv_iload_n S.1 S.2.1 dL_law_489 rfl (lv_at hl 0 rfl) ?_
  refine lv_iconst (v := 1) S.1 S.2.1 dL_law_490 (by decide) ?_
  refine lv_iadd S.1 S.2.1 dL_law_491 ?_
  rw [nI_1 i]
  refine va_sld S.1 S.2.1 hX hbl hbA hw.2.2 (vp_in_nI (show i + 1 < L by omega) (by omega)) dL_law_492 ?_
  obtain ⟨h1, wc1, wr1, mc1, ms1, r1, w1, fs1, hh1, hC1, he1, hp1, a1, hX1⟩ := x_joinArc l hF (show i < 1000000 by omega) hXI (xs (nI (i + 1)).toNatClampNeg)
  have hroom := (hX1 (fun _ => 0)).le
  refine g_xI (As := [.int (xs (nI (i + 1)).toNatClampNeg)]) (rest := []) S hN hw hA hC1 hp1 he1 (q := (RX11, TX11, 8)) rfl (fun mc ms => cwV 1 S.2.2.2.2 gL_law_X11_joinArc rfl rfl rfl (by decide +kernel) (rm_law hh1 (by decide))) rfl hl.1 rfl (lv_room (Nat.le_of_ble_eq_true rfl)) dL_law_493 ⟨by show _ ≤ 600000; omega, by show _ ≤ 7302250; omega⟩ (fun u1 H locs hw => ?_)
  have hX1 := hX1 u1
  refine lv_aload_n S.1 S.2.1 dL_law_496 rfl (lv_at hl 1 rfl) ?_
  refine lv_aload_n S.1 S.2.1 dL_law_497 rfl (lv_at hl 3 rfl) ?_
  refine lv_iload_n S.1 S.2.1 dL_law_498 rfl (lv_at hl 0 rfl) ?_
  refine lv_iconst (v := 1) S.1 S.2.1 dL_law_499 (by decide) ?_
  refine lv_iadd S.1 S.2.1 dL_law_500 ?_
  rw [nI_1 i]
  refine va_sld S.1 S.2.1 hX hbl hbA hw.2.2 (vp_in_nI (show i + 1 < L by omega) (by omega)) dL_law_501 ?_
  obtain ⟨h2, wc2, wr2, mc2, ms2, r2, w2, fs2, hh2, ⟨rfl, rfl⟩, hC2, he2, hp2, a2, hM2⟩ := m_joinArc l hF hW hv hr hMI (xs (nI (i + 1)).toNatClampNeg)
  refine g_xI (As := [.int (xs (nI (i + 1)).toNatClampNeg)]) (rest := [.int r1]) S hN (hw.pm List.perm_append_comm) hA hC2 hp2 he2 (q := (RX12, TX12, 37)) rfl (fun mc ms => cwV 1 S.2.2.2.2 gL_law_X12_joinArc rfl rfl rfl (by decide +kernel) (rm_law hh2 (by decide))) rfl hl.1 rfl (lv_room (Nat.le_of_ble_eq_true rfl)) dL_law_502 ⟨by show _ ≤ 600000; omega, by show _ ≤ 7302250; omega⟩ (fun u2 H locs hw => ?_)
  have hone : r1 = r2 := a1.trans a2.symm
  refine lv_icmp_eq (tgt := 589) S.1 S.2.1 dL_law_505 (by decide) (fun h9 => ?_) (fun h9 => absurd hone h9)
  exact kk _ _ _ _ _ _ _ _ _ (hX1.mono) (hM2 u2) (hw.pm List.perm_append_comm)
set_option maxRecDepth 100000 in
set_option maxHeartbeats 4000000 in
theorem law_rank {p : Program} {l : Launch} {e : Env} {s : State} {m : MethodId} {below : List Frame} {meth : Method} {c : Code} {b L : Nat} {xs : Nat → Int32} {F : Nat} (hF : 40000000 ≤ F) (S : CallFix p m c cL_law 4 s #[Value.ref b] wsL_law RL) {E : Ev} (hN : KN E s) (hX : va_X b L xs s s.heap) (hbl : b < s.heap.size) {i : Nat} (hi : i + 4 ≤ L) (hL : L ≤ 2048) {G : Gr} {rk : Nat → Nat → Int32} {o : Option Nat} {a_x a_m cells slots : Nat} {XW MW : va_W} {H : Heap} {locs : List Loc} {ls : Array Slot} {Q : State → Prop} (hXI : XI E G rk o i a_x cells slots XW) (hMI : MI E G rk o a_m MW) (hw : Wo E (fun q : Nat => s.heap.size ≤ q) s (XW ++ MW) H locs) (hl : lv_has ls 4 [(3, .int (nI i)), (2, .ref a_m), (1, .ref a_x), (0, .ref b)])
    (kk : ∀ (G' : Gr) (rk' : Nat → Nat → Int32) (o' : Option Nat) (cells' slots' : Nat) (XW' MW' : va_W) (H' : Heap) (locs' : List Loc), XI E G' rk' o' (i + 1) a_x cells' slots' XW' → MI E G' rk' o' a_m MW' → Wo E (fun q : Nat => s.heap.size ≤ q) s (XW' ++ MW') H' locs' → W p l e room_1 s m #[Value.ref b] below meth c H' locs' cells' slots' Q (F0 m 589 ls [])) : W p l e room_1 s m #[Value.ref b] below meth c H locs cells slots Q (F0 m 510 ls []) := by
  have hA : ∀ q : Nat, s.heap.size ≤ q → (fun q : Nat => s.heap.size ≤ q) q := fun _ h => h
  have hbA : ¬ (fun q : Nat => s.heap.size ≤ q) b := Nat.not_le.mpr hbl
  obtain ⟨hW, hv, hr⟩ := hXI.wf
  refine lv_aload_n S.1 S.2.1 dL_law_510 rfl (lv_at hl 2 rfl) ?_
  refine lv_aload_n S.1 S.2.1 dL_law_511 rfl (lv_at hl 3 rfl) ?_
  refine lv_iload_n S.1 S.2.1 dL_law_512 rfl (lv_at hl 0 rfl) ?_
  refine lv_iconst (v := 1) S.1 S.2.1 dL_law_513 (by decide) ?_
  refine lv_iadd S.1 S.2.1 dL_law_514 ?_
  rw [nI_1 i]
  refine va_sld S.1 S.2.1 hX hbl hbA hw.2.2 (vp_in_nI (show i + 1 < L by omega) (by omega)) dL_law_515 ?_
  refine lv_aload_n S.1 S.2.1 dL_law_516 rfl (lv_at hl 3 rfl) ?_
  refine lv_iload_n S.1 S.2.1 dL_law_517 rfl (lv_at hl 0 rfl) ?_
  refine lv_iconst (v := 2) S.1 S.2.1 dL_law_518 (by decide) ?_
  refine lv_iadd S.1 S.2.1 dL_law_519 ?_
  rw [nI_2 i]
  refine va_sld S.1 S.2.1 hX hbl hbA hw.2.2 (vp_in_nI (show i + 2 < L by omega) (by omega)) dL_law_520 ?_
  refine lv_aload_n S.1 S.2.1 dL_law_521 rfl (lv_at hl 3 rfl) ?_
  refine lv_iload_n S.1 S.2.1 dL_law_522 rfl (lv_at hl 0 rfl) ?_
  refine lv_iconst (v := 3) S.1 S.2.1 dL_law_523 (by decide) ?_
  refine lv_iadd S.1 S.2.1 dL_law_524 ?_
  rw [nI_3 i]
  refine va_sld S.1 S.2.1 hX hbl hbA hw.2.2 (vp_in_nI (show i + 3 < L by omega) (by omega)) dL_law_525 ?_
  obtain ⟨h1, wc1, wr1, mc1, ms1, r1, w1, fs1, hh1, hC1, he1, hp1, a1, hX1⟩ := x_rank l hF (show i < 1000000 by omega) hXI (xs (nI (i + 1)).toNatClampNeg) (xs (nI (i + 2)).toNatClampNeg) (xs (nI (i + 3)).toNatClampNeg)
  have hroom := (hX1 (fun _ => 0)).le
  refine g_xI (As := [.int (xs (nI (i + 1)).toNatClampNeg), .int (xs (nI (i + 2)).toNatClampNeg), .int (xs (nI (i + 3)).toNatClampNeg)]) (rest := []) S hN hw hA hC1 hp1 he1 (q := (RX11, TX11, 8)) rfl (fun mc ms => cwV 3 S.2.2.2.2 gL_law_X11_rank rfl rfl rfl (by decide +kernel) (rm_law hh1 (by decide))) rfl hl.1 rfl (lv_room (Nat.le_of_ble_eq_true rfl)) dL_law_526 ⟨by show _ ≤ 600000; omega, by show _ ≤ 7302250; omega⟩ (fun u1 H locs hw => ?_)
  have hX1 := hX1 u1
  refine lv_aload_n S.1 S.2.1 dL_law_529 rfl (lv_at hl 1 rfl) ?_
  refine lv_aload_n S.1 S.2.1 dL_law_530 rfl (lv_at hl 3 rfl) ?_
  refine lv_iload_n S.1 S.2.1 dL_law_531 rfl (lv_at hl 0 rfl) ?_
  refine lv_iconst (v := 1) S.1 S.2.1 dL_law_532 (by decide) ?_
  refine lv_iadd S.1 S.2.1 dL_law_533 ?_
  rw [nI_1 i]
  refine va_sld S.1 S.2.1 hX hbl hbA hw.2.2 (vp_in_nI (show i + 1 < L by omega) (by omega)) dL_law_534 ?_
  refine lv_aload_n S.1 S.2.1 dL_law_535 rfl (lv_at hl 3 rfl) ?_
  refine lv_iload_n S.1 S.2.1 dL_law_536 rfl (lv_at hl 0 rfl) ?_
  refine lv_iconst (v := 2) S.1 S.2.1 dL_law_537 (by decide) ?_
  refine lv_iadd S.1 S.2.1 dL_law_538 ?_
  rw [nI_2 i]
  refine va_sld S.1 S.2.1 hX hbl hbA hw.2.2 (vp_in_nI (show i + 2 < L by omega) (by omega)) dL_law_539 ?_
  refine lv_aload_n S.1 S.2.1 dL_law_540 rfl (lv_at hl 3 rfl) ?_
  refine lv_iload_n S.1 S.2.1 dL_law_541 rfl (lv_at hl 0 rfl) ?_
  refine lv_iconst (v := 3) S.1 S.2.1 dL_law_542 (by decide) ?_
  refine lv_iadd S.1 S.2.1 dL_law_543 ?_
  rw [nI_3 i]
  refine va_sld S.1 S.2.1 hX hbl hbA hw.2.2 (vp_in_nI (show i + 3 < L by omega) (by omega)) dL_law_544 ?_
  obtain ⟨h2, wc2, wr2, mc2, ms2, r2, w2, fs2, hh2, ⟨rfl, rfl⟩, hC2, he2, hp2, a2, hM2⟩ := m_rank l hF hW hv hr hMI (xs (nI (i + 1)).toNatClampNeg) (xs (nI (i + 2)).toNatClampNeg) (xs (nI (i + 3)).toNatClampNeg)
  refine g_xI (As := [.int (xs (nI (i + 1)).toNatClampNeg), .int (xs (nI (i + 2)).toNatClampNeg), .int (xs (nI (i + 3)).toNatClampNeg)]) (rest := [.int r1]) S hN (hw.pm List.perm_append_comm) hA hC2 hp2 he2 (q := (RX12, TX12, 37)) rfl (fun mc ms => cwV 3 S.2.2.2.2 gL_law_X12_rank rfl rfl rfl (by decide +kernel) (rm_law hh2 (by decide))) rfl hl.1 rfl (lv_room (Nat.le_of_ble_eq_true rfl)) dL_law_545 ⟨by show _ ≤ 600000; omega, by show _ ≤ 7302250; omega⟩ (fun u2 H locs hw => ?_)
  have hone : r1 = r2 := a1.trans a2.symm
  refine lv_icmp_eq (tgt := 589) S.1 S.2.1 dL_law_548 (by decide) (fun h9 => ?_) (fun h9 => absurd hone h9)
  exact kk _ _ _ _ _ _ _ _ _ (hX1) (hM2 u2) (hw.pm List.perm_append_comm)
set_option maxRecDepth 100000 in
set_option maxHeartbeats 4000000 in
theorem law_stable {p : Program} {l : Launch} {e : Env} {s : State} {m : MethodId} {below : List Frame} {meth : Method} {c : Code} {b L : Nat} {xs : Nat → Int32} {F : Nat} (hF : 40000000 ≤ F) (S : CallFix p m c cL_law 4 s #[Value.ref b] wsL_law RL) {E : Ev} (hN : KN E s) (hX : va_X b L xs s s.heap) (hbl : b < s.heap.size) {i : Nat} (hi : i + 4 ≤ L) (hL : L ≤ 2048) {G : Gr} {rk : Nat → Nat → Int32} {o : Option Nat} {a_x a_m cells slots : Nat} {XW MW : va_W} {H : Heap} {locs : List Loc} {ls : Array Slot} {Q : State → Prop} (hXI : XI E G rk o i a_x cells slots XW) (hMI : MI E G rk o a_m MW) (hw : Wo E (fun q : Nat => s.heap.size ≤ q) s (XW ++ MW) H locs) (hl : lv_has ls 4 [(3, .int (nI i)), (2, .ref a_m), (1, .ref a_x), (0, .ref b)])
    (kk : ∀ (G' : Gr) (rk' : Nat → Nat → Int32) (o' : Option Nat) (cells' slots' : Nat) (XW' MW' : va_W) (H' : Heap) (locs' : List Loc), XI E G' rk' o' (i + 1) a_x cells' slots' XW' → MI E G' rk' o' a_m MW' → Wo E (fun q : Nat => s.heap.size ≤ q) s (XW' ++ MW') H' locs' → W p l e room_1 s m #[Value.ref b] below meth c H' locs' cells' slots' Q (F0 m 589 ls [])) : W p l e room_1 s m #[Value.ref b] below meth c H locs cells slots Q (F0 m 553 ls []) := by
  have hA : ∀ q : Nat, s.heap.size ≤ q → (fun q : Nat => s.heap.size ≤ q) q := fun _ h => h
  have hbA : ¬ (fun q : Nat => s.heap.size ≤ q) b := Nat.not_le.mpr hbl
  obtain ⟨hW, hv, hr⟩ := hXI.wf
  refine lv_aload_n S.1 S.2.1 dL_law_553 rfl (lv_at hl 2 rfl) ?_
  obtain ⟨h1, wc1, wr1, mc1, ms1, r1, w1, fs1, hh1, hC1, he1, hp1, a1, hX1⟩ := x_stable l hF (show i < 1000000 by omega) hXI
  have hroom := (hX1 (fun _ => 0)).le
  refine g_xI (As := []) (rest := []) S hN hw hA hC1 hp1 he1 (q := (RX11, TX11, 8)) rfl (fun mc ms => cwV 0 S.2.2.2.2 gL_law_X11_stable rfl rfl rfl (by decide +kernel) (rm_law hh1 (by decide))) rfl hl.1 rfl (lv_room (Nat.le_of_ble_eq_true rfl)) dL_law_554 ⟨by show _ ≤ 600000; omega, by show _ ≤ 7302250; omega⟩ (fun u1 H locs hw => ?_)
  have hX1 := hX1 u1
  refine lv_aload_n S.1 S.2.1 dL_law_557 rfl (lv_at hl 1 rfl) ?_
  obtain ⟨h2, wc2, wr2, mc2, ms2, r2, w2, fs2, hh2, ⟨rfl, rfl⟩, hC2, he2, hp2, a2, hM2⟩ := m_stable l hF hW hv hr hMI
  refine g_xI (As := []) (rest := [.int r1]) S hN (hw.pm List.perm_append_comm) hA hC2 hp2 he2 (q := (RX12, TX12, 37)) rfl (fun mc ms => cwV 0 S.2.2.2.2 gL_law_X12_stable rfl rfl rfl (by decide +kernel) (rm_law hh2 (by decide))) rfl hl.1 rfl (lv_room (Nat.le_of_ble_eq_true rfl)) dL_law_558 ⟨by show _ ≤ 600000; omega, by show _ ≤ 7302250; omega⟩ (fun u2 H locs hw => ?_)
  have hone : r1 = r2 := Ast_one hW a1 a2
  refine lv_icmp_eq (tgt := 589) S.1 S.2.1 dL_law_561 (by decide) (fun h9 => ?_) (fun h9 => absurd hone h9)
  exact kk _ _ _ _ _ _ _ _ _ (hX1.mono) (hM2 u2) (hw.pm List.perm_append_comm)
set_option maxRecDepth 100000 in
set_option maxHeartbeats 4000000 in
theorem law_stableMate {p : Program} {l : Launch} {e : Env} {s : State} {m : MethodId} {below : List Frame} {meth : Method} {c : Code} {b L : Nat} {xs : Nat → Int32} {F : Nat} (hF : 40000000 ≤ F) (S : CallFix p m c cL_law 4 s #[Value.ref b] wsL_law RL) {E : Ev} (hN : KN E s) (hX : va_X b L xs s s.heap) (hbl : b < s.heap.size) {i : Nat} (hi : i + 4 ≤ L) (hL : L ≤ 2048) {G : Gr} {rk : Nat → Nat → Int32} {o : Option Nat} {a_x a_m cells slots : Nat} {XW MW : va_W} {H : Heap} {locs : List Loc} {ls : Array Slot} {Q : State → Prop} (hXI : XI E G rk o i a_x cells slots XW) (hMI : MI E G rk o a_m MW) (hw : Wo E (fun q : Nat => s.heap.size ≤ q) s (XW ++ MW) H locs) (hl : lv_has ls 4 [(3, .int (nI i)), (2, .ref a_m), (1, .ref a_x), (0, .ref b)])
    (kk : ∀ (G' : Gr) (rk' : Nat → Nat → Int32) (o' : Option Nat) (cells' slots' : Nat) (XW' MW' : va_W) (H' : Heap) (locs' : List Loc), XI E G' rk' o' (i + 1) a_x cells' slots' XW' → MI E G' rk' o' a_m MW' → Wo E (fun q : Nat => s.heap.size ≤ q) s (XW' ++ MW') H' locs' → W p l e room_1 s m #[Value.ref b] below meth c H' locs' cells' slots' Q (F0 m 589 ls [])) : W p l e room_1 s m #[Value.ref b] below meth c H locs cells slots Q (F0 m 566 ls []) := by
  have hA : ∀ q : Nat, s.heap.size ≤ q → (fun q : Nat => s.heap.size ≤ q) q := fun _ h => h
  have hbA : ¬ (fun q : Nat => s.heap.size ≤ q) b := Nat.not_le.mpr hbl
  obtain ⟨hW, hv, hr⟩ := hXI.wf
  refine lv_aload_n S.1 S.2.1 dL_law_566 rfl (lv_at hl 2 rfl) ?_
  refine lv_aload_n S.1 S.2.1 dL_law_567 rfl (lv_at hl 3 rfl) ?_
  refine lv_iload_n S.1 S.2.1 dL_law_568 rfl (lv_at hl 0 rfl) ?_
  refine lv_iconst (v := 1) S.1 S.2.1 dL_law_569 (by decide) ?_
  refine lv_iadd S.1 S.2.1 dL_law_570 ?_
  rw [nI_1 i]
  refine va_sld S.1 S.2.1 hX hbl hbA hw.2.2 (vp_in_nI (show i + 1 < L by omega) (by omega)) dL_law_571 ?_
  obtain ⟨h1, wc1, wr1, mc1, ms1, r1, w1, fs1, hh1, hC1, he1, hp1, a1, hX1⟩ := x_stableMate l hF (show i < 1000000 by omega) hXI (xs (nI (i + 1)).toNatClampNeg)
  have hroom := (hX1 (fun _ => 0)).le
  refine g_xI (As := [.int (xs (nI (i + 1)).toNatClampNeg)]) (rest := []) S hN hw hA hC1 hp1 he1 (q := (RX11, TX11, 8)) rfl (fun mc ms => cwV 1 S.2.2.2.2 gL_law_X11_stableMate rfl rfl rfl (by decide +kernel) (rm_law hh1 (by decide))) rfl hl.1 rfl (lv_room (Nat.le_of_ble_eq_true rfl)) dL_law_572 ⟨by show _ ≤ 600000; omega, by show _ ≤ 7302250; omega⟩ (fun u1 H locs hw => ?_)
  have hX1 := hX1 u1
  refine lv_aload_n S.1 S.2.1 dL_law_575 rfl (lv_at hl 1 rfl) ?_
  refine lv_aload_n S.1 S.2.1 dL_law_576 rfl (lv_at hl 3 rfl) ?_
  refine lv_iload_n S.1 S.2.1 dL_law_577 rfl (lv_at hl 0 rfl) ?_
  refine lv_iconst (v := 1) S.1 S.2.1 dL_law_578 (by decide) ?_
  refine lv_iadd S.1 S.2.1 dL_law_579 ?_
  rw [nI_1 i]
  refine va_sld S.1 S.2.1 hX hbl hbA hw.2.2 (vp_in_nI (show i + 1 < L by omega) (by omega)) dL_law_580 ?_
  obtain ⟨h2, wc2, wr2, mc2, ms2, r2, w2, fs2, hh2, ⟨rfl, rfl⟩, hC2, he2, hp2, a2, hM2⟩ := m_stableMate l hF hW hv hr hMI (xs (nI (i + 1)).toNatClampNeg)
  refine g_xI (As := [.int (xs (nI (i + 1)).toNatClampNeg)]) (rest := [.int r1]) S hN (hw.pm List.perm_append_comm) hA hC2 hp2 he2 (q := (RX12, TX12, 37)) rfl (fun mc ms => cwV 1 S.2.2.2.2 gL_law_X12_stableMate rfl rfl rfl (by decide +kernel) (rm_law hh2 (by decide))) rfl hl.1 rfl (lv_room (Nat.le_of_ble_eq_true rfl)) dL_law_581 ⟨by show _ ≤ 600000; omega, by show _ ≤ 7302250; omega⟩ (fun u2 H locs hw => ?_)
  have hone : r1 = r2 := Asm_one hW a1 a2
  refine lv_icmp_eq (tgt := 589) S.1 S.2.1 dL_law_584 (by decide) (fun h9 => ?_) (fun h9 => absurd hone h9)
  exact kk _ _ _ _ _ _ _ _ _ (hX1.mono) (hM2 u2) (hw.pm List.perm_append_comm)
end
