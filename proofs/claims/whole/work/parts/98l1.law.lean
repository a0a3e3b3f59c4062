section
set_option maxRecDepth 100000 in
set_option maxHeartbeats 4000000 in
theorem law_sort {p : Program} {l : Launch} {e : Env} {s : State} {m : MethodId} {below : List Frame} {meth : Method} {c : Code} {b L : Nat} {xs : Nat → Int32} {F : Nat} (hF : 40000000 ≤ F) (S : CallFix p m c cL_law 4 s #[Value.ref b] wsL_law RL) {E : Ev} (hN : KN E s) (hX : va_X b L xs s s.heap) (hbl : b < s.heap.size) {i : Nat} (hi : i + 4 ≤ L) (hL : L ≤ 2048) {G : Gr} {rk : Nat → Nat → Int32} {o : Option Nat} {a_x a_m cells slots : Nat} {XW MW : va_W} {H : Heap} {locs : List Loc} {ls : Array Slot} {Q : State → Prop} (hXI : XI E G rk o i a_x cells slots XW) (hMI : MI E G rk o a_m MW) (hw : Wo E (fun q : Nat => s.heap.size ≤ q) s (XW ++ MW) H locs) (hl : lv_has ls 4 [(3, .int (nI i)), (2, .ref a_m), (1, .ref a_x), (0, .ref b)])
    (kk : ∀ (G' : Gr) (rk' : Nat → Nat → Int32) (o' : Option Nat) (cells' slots' : Nat) (XW' MW' : va_W) (H' : Heap) (locs' : List Loc), XI E G' rk' o' (i + 1) a_x cells' slots' XW' → MI E G' rk' o' a_m MW' → Wo E (fun q : Nat => s.heap.size ≤ q) s (XW' ++ MW') H' locs' → W p l e room_1 s m #[Value.ref b] below meth c H' locs' cells' slots' Q (F0 m 589 ls [])) : W p l e room_1 s m #[Value.ref b] below meth c H locs cells slots Q (F0 m 299 ls []) := by
  have hA : ∀ q : Nat, s.heap.size ≤ q → (fun q : Nat => s.heap.size ≤ q) q := fun _ h => h
  have hbA : ¬ (fun q : Nat => s.heap.size ≤ q) b := Nat.not_le.mpr hbl
  obtain ⟨hW, hv, hr⟩ := hXI.wf
  refine lv_aload_n S.1 S.2.1 dL_law_299 rfl (lv_at hl 2 rfl) ?_
  refine lv_aload_n S.1 S.2.1 dL_law_300 rfl (lv_at hl 3 rfl) ?_
  refine lv_iload_n S.1 S.2.1 dL_law_301 rfl (lv_at hl 0 rfl) ?_
  refine lv_iconst (v := 1) S.1 S.2.1 dL_law_302 (by decide) ?_
  refine lv_iadd S.1 S.2.1 dL_law_303 ?_
  rw [nI_1 i]
  refine va_sld S.1 S.2.1 hX hbl hbA hw.2.2 (vp_in_nI (show i + 1 < L by omega) (by omega)) dL_law_304 ?_
  obtain ⟨h1, wc1, wr1, mc1, ms1, r1, w1, fs1, hh1, hC1, he1, hp1, a1, hX1⟩ := x_sort l hF (show i < 1000000 by omega) hXI (xs (nI (i + 1)).toNatClampNeg)
  have hroom := (hX1 (fun _ => 0)).le
  refine g_xI (As := [.int (xs (nI (i + 1)).toNatClampNeg)]) (rest := []) S hN hw hA hC1 hp1 he1 (q := (RX11, TX11, 8)) rfl (fun mc ms => cwV 1 S.2.2.2.2 gL_law_X11_sort rfl rfl rfl (by decide +kernel) (rm_law hh1 (by decide))) rfl hl.1 rfl (lv_room (Nat.le_of_ble_eq_true rfl)) dL_law_305 ⟨by show _ ≤ 600000; omega, by show _ ≤ 7302250; omega⟩ (fun u1 H locs hw => ?_)
  have hX1 := hX1 u1
  refine lv_aload_n S.1 S.2.1 dL_law_308 rfl (lv_at hl 1 rfl) ?_
  refine lv_aload_n S.1 S.2.1 dL_law_309 rfl (lv_at hl 3 rfl) ?_
  refine lv_iload_n S.1 S.2.1 dL_law_310 rfl (lv_at hl 0 rfl) ?_
  refine lv_iconst (v := 1) S.1 S.2.1 dL_law_311 (by decide) ?_
  refine lv_iadd S.1 S.2.1 dL_law_312 ?_
  rw [nI_1 i]
  refine va_sld S.1 S.2.1 hX hbl hbA hw.2.2 (vp_in_nI (show i + 1 < L by omega) (by omega)) dL_law_313 ?_
  obtain ⟨h2, wc2, wr2, mc2, ms2, r2, w2, fs2, hh2, ⟨rfl, rfl⟩, hC2, he2, hp2, a2, hM2⟩ := m_sort l hF hW hv hr hMI (xs (nI (i + 1)).toNatClampNeg)
  refine g_xI (As := [.int (xs (nI (i + 1)).toNatClampNeg)]) (rest := [.int r1]) S hN (hw.pm List.perm_append_comm) hA hC2 hp2 he2 (q := (RX12, TX12, 37)) rfl (fun mc ms => cwV 1 S.2.2.2.2 gL_law_X12_sort rfl rfl rfl (by decide +kernel) (rm_law hh2 (by decide))) rfl hl.1 rfl (lv_room (Nat.le_of_ble_eq_true rfl)) dL_law_314 ⟨by show _ ≤ 600000; omega, by show _ ≤ 7302250; omega⟩ (fun u2 H locs hw => ?_)
  have hone : r1 = r2 := Av_one hW (fun v a b h h2 => SpS_one (rS_f v) h h2) a1 a2
  refine lv_icmp_eq (tgt := 589) S.1 S.2.1 dL_law_317 (by decide) (fun h9 => ?_) (fun h9 => absurd hone h9)
  exact kk _ _ _ _ _ _ _ _ _ (hX1.mono) (hM2 u2) (hw.pm List.perm_append_comm)
set_option maxRecDepth 100000 in
set_option maxHeartbeats 4000000 in
theorem law_piece {p : Program} {l : Launch} {e : Env} {s : State} {m : MethodId} {below : List Frame} {meth : Method} {c : Code} {b L : Nat} {xs : Nat → Int32} {F : Nat} (hF : 40000000 ≤ F) (S : CallFix p m c cL_law 4 s #[Value.ref b] wsL_law RL) {E : Ev} (hN : KN E s) (hX : va_X b L xs s s.heap) (hbl : b < s.heap.size) {i : Nat} (hi : i + 4 ≤ L) (hL : L ≤ 2048) {G : Gr} {rk : Nat → Nat → Int32} {o : Option Nat} {a_x a_m cells slots : Nat} {XW MW : va_W} {H : Heap} {locs : List Loc} {ls : Array Slot} {Q : State → Prop} (hXI : XI E G rk o i a_x cells slots XW) (hMI : MI E G rk o a_m MW) (hw : Wo E (fun q : Nat => s.heap.size ≤ q) s (XW ++ MW) H locs) (hl : lv_has ls 4 [(3, .int (nI i)), (2, .ref a_m), (1, .ref a_x), (0, .ref b)])
    (kk : ∀ (G' : Gr) (rk' : Nat → Nat → Int32) (o' : Option Nat) (cells' slots' : Nat) (XW' MW' : va_W) (H' : Heap) (locs' : List Loc), XI E G' rk' o' (i + 1) a_x cells' slots' XW' → MI E G' rk' o' a_m MW' → Wo E (fun q : Nat => s.heap.size ≤ q) s (XW' ++ MW') H' locs' → W p l e room_1 s m #[Value.ref b] below meth c H' locs' cells' slots' Q (F0 m 589 ls [])) : W p l e room_1 s m #[Value.ref b] below meth c H locs cells slots Q (F0 m 322 ls []) := by
  have hA : ∀ q : Nat, s.heap.size ≤ q → (fun q : Nat => s.heap.size ≤ q) q := fun _ h => h
  have hbA : ¬ (fun q : Nat => s.heap.size ≤ q) b := Nat.not_le.mpr hbl
  obtain ⟨hW, hv, hr⟩ := hXI.wf
  refine lv_aload_n S.1 S.2.1 dL_law_322 rfl (lv_at hl 2 rfl) ?_
  refine lv_aload_n S.1 S.2.1 dL_law_323 rfl (lv_at hl 3 rfl) ?_
  refine lv_iload_n S.1 S.2.1 dL_law_324 rfl (lv_at hl 0 rfl) ?_
  refine lv_iconst (v := 1) S.1 S.2.1 dL_law_325 (by decide) ?_
  refine lv_iadd S.1 S.2.1 dL_law_326 ?_
  rw [nI_1 i]
  refine va_sld S.1 S.2.1 hX hbl hbA hw.2.2 (vp_in_nI (show i + 1 < L by omega) (by omega)) dL_law_327 ?_
  obtain ⟨h1, wc1, wr1, mc1, ms1, r1, w1, fs1, hh1, hC1, he1, hp1, a1, hX1⟩ := x_piece l hF (show i < 1000000 by omega) hXI (xs (nI (i + 1)).toNatClampNeg)
  have hroom := (hX1 (fun _ => 0)).le
  refine g_xI (As := [.int (xs (nI (i + 1)).toNatClampNeg)]) (rest := []) S hN hw hA hC1 hp1 he1 (q := (RX11, TX11, 8)) rfl (fun mc ms => cwV 1 S.2.2.2.2 gL_law_X11_piece rfl rfl rfl (by decide +kernel) (rm_law hh1 (by decide))) rfl hl.1 rfl (lv_room (Nat.le_of_ble_eq_true rfl)) dL_law_328 ⟨by show _ ≤ 600000; omega, by show _ ≤ 7302250; omega⟩ (fun u1 H locs hw => ?_)
  have hX1 := hX1 u1
  refine lv_aload_n S.1 S.2.1 dL_law_331 rfl (lv_at hl 1 rfl) ?_
  refine lv_aload_n S.1 S.2.1 dL_law_332 rfl (lv_at hl 3 rfl) ?_
  refine lv_iload_n S.1 S.2.1 dL_law_333 rfl (lv_at hl 0 rfl) ?_
  refine lv_iconst (v := 1) S.1 S.2.1 dL_law_334 (by decide) ?_
  refine lv_iadd S.1 S.2.1 dL_law_335 ?_
  rw [nI_1 i]
  refine va_sld S.1 S.2.1 hX hbl hbA hw.2.2 (vp_in_nI (show i + 1 < L by omega) (by omega)) dL_law_336 ?_
  obtain ⟨h2, wc2, wr2, mc2, ms2, r2, w2, fs2, hh2, ⟨rfl, rfl⟩, hC2, he2, hp2, a2, hM2⟩ := m_piece l hF hW hv hr hMI (xs (nI (i + 1)).toNatClampNeg)
  refine g_xI (As := [.int (xs (nI (i + 1)).toNatClampNeg)]) (rest := [.int r1]) S hN (hw.pm List.perm_append_comm) hA hC2 hp2 he2 (q := (RX12, TX12, 37)) rfl (fun mc ms => cwV 1 S.2.2.2.2 gL_law_X12_piece rfl rfl rfl (by decide +kernel) (rm_law hh2 (by decide))) rfl hl.1 rfl (lv_room (Nat.le_of_ble_eq_true rfl)) dL_law_337 ⟨by show _ ≤ 600000; omega, by show _ ≤ 7302250; omega⟩ (fun u2 H locs hw => ?_)
  have hone : r1 = r2 := Av_one hW (fun v a b h h2 => SpS_one (rP_f v) h h2) a1 a2
  refine lv_icmp_eq (tgt := 589) S.1 S.2.1 dL_law_340 (by decide) (fun h9 => ?_) (fun h9 => absurd hone h9)
  exact kk _ _ _ _ _ _ _ _ _ (hX1.mono) (hM2 u2) (hw.pm List.perm_append_comm)
set_option maxRecDepth 100000 in
set_option maxHeartbeats 4000000 in
theorem law_shape {p : Program} {l : Launch} {e : Env} {s : State} {m : MethodId} {below : List Frame} {meth : Method} {c : Code} {b L : Nat} {xs : Nat → Int32} {F : Nat} (hF : 40000000 ≤ F) (S : CallFix p m c cL_law 4 s #[Value.ref b] wsL_law RL) {E : Ev} (hN : KN E s) (hX : va_X b L xs s s.heap) (hbl : b < s.heap.size) {i : Nat} (hi : i + 4 ≤ L) (hL : L ≤ 2048) {G : Gr} {rk : Nat → Nat → Int32} {o : Option Nat} {a_x a_m cells slots : Nat} {XW MW : va_W} {H : Heap} {locs : List Loc} {ls : Array Slot} {Q : State → Prop} (hXI : XI E G rk o i a_x cells slots XW) (hMI : MI E G rk o a_m MW) (hw : Wo E (fun q : Nat => s.heap.size ≤ q) s (XW ++ MW) H locs) (hl : lv_has ls 4 [(3, .int (nI i)), (2, .ref a_m), (1, .ref a_x), (0, .ref b)])
    (kk : ∀ (G' : Gr) (rk' : Nat → Nat → Int32) (o' : Option Nat) (cells' slots' : Nat) (XW' MW' : va_W) (H' : Heap) (locs' : List Loc), XI E G' rk' o' (i + 1) a_x cells' slots' XW' → MI E G' rk' o' a_m MW' → Wo E (fun q : Nat => s.heap.size ≤ q) s (XW' ++ MW') H' locs' → W p l e room_1 s m #[Value.ref b] below meth c H' locs' cells' slots' Q (F0 m 589 ls [])) : W p l e room_1 s m #[Value.ref b] below meth c H locs cells slots Q (F0 m 345 ls []) := by
  have hA : ∀ q : Nat, s.heap.size ≤ q → (fun q : Nat => s.heap.size ≤ q) q := fun _ h => h
  have hbA : ¬ (fun q : Nat => s.heap.size ≤ q) b := Nat.not_le.mpr hbl
  obtain ⟨hW, hv, hr⟩ := hXI.wf
  refine lv_aload_n S.1 S.2.1 dL_law_345 rfl (lv_at hl 2 rfl) ?_
  refine lv_aload_n S.1 S.2.1 dL_law_346 rfl (lv_at hl 3 rfl) ?_
  refine lv_iload_n S.1 S.2.1 dL_law_347 rfl (lv_at hl 0 rfl) ?_
  refine lv_iconst (v := 1) S.1 S.2.1 dL_law_348 (by decide) ?_
  refine lv_iadd S.1 S.2.1 dL_law_349 ?_
  rw [nI_1 i]
  refine va_sld S.1 S.2.1 hX hbl hbA hw.2.2 (vp_in_nI (show i + 1 < L by omega) (by omega)) dL_law_350 ?_
  obtain ⟨h1, wc1, wr1, mc1, ms1, r1, w1, fs1, hh1, hC1, he1, hp1, a1, hX1⟩ := x_shape l hF (show i < 1000000 by omega) hXI (xs (nI (i + 1)).toNatClampNeg)
  have hroom := (hX1 (fun _ => 0)).le
  refine g_xI (As := [.int (xs (nI (i + 1)).toNatClampNeg)]) (rest := []) S hN hw hA hC1 hp1 he1 (q := (RX11, TX11, 8)) rfl (fun mc ms => cwV 1 S.2.2.2.2 gL_law_X11_shape rfl rfl rfl (by decide +kernel) (rm_law hh1 (by decide))) rfl hl.1 rfl (lv_room (Nat.le_of_ble_eq_true rfl)) dL_law_351 ⟨by show _ ≤ 600000; omega, by show _ ≤ 7302250; omega⟩ (fun u1 H locs hw => ?_)
  have hX1 := hX1 u1
  refine lv_aload_n S.1 S.2.1 dL_law_354 rfl (lv_at hl 1 rfl) ?_
  refine lv_aload_n S.1 S.2.1 dL_law_355 rfl (lv_at hl 3 rfl) ?_
  refine lv_iload_n S.1 S.2.1 dL_law_356 rfl (lv_at hl 0 rfl) ?_
  refine lv_iconst (v := 1) S.1 S.2.1 dL_law_357 (by decide) ?_
  refine lv_iadd S.1 S.2.1 dL_law_358 ?_
  rw [nI_1 i]
  refine va_sld S.1 S.2.1 hX hbl hbA hw.2.2 (vp_in_nI (show i + 1 < L by omega) (by omega)) dL_law_359 ?_
  obtain ⟨h2, wc2, wr2, mc2, ms2, r2, w2, fs2, hh2, ⟨rfl, rfl⟩, hC2, he2, hp2, a2, hM2⟩ := m_shape l hF hW hv hr hMI (xs (nI (i + 1)).toNatClampNeg)
  refine g_xI (As := [.int (xs (nI (i + 1)).toNatClampNeg)]) (rest := [.int r1]) S hN (hw.pm List.perm_append_comm) hA hC2 hp2 he2 (q := (RX12, TX12, 37)) rfl (fun mc ms => cwV 1 S.2.2.2.2 gL_law_X12_shape rfl rfl rfl (by decide +kernel) (rm_law hh2 (by decide))) rfl hl.1 rfl (lv_room (Nat.le_of_ble_eq_true rfl)) dL_law_360 ⟨by show _ ≤ 600000; omega, by show _ ≤ 7302250; omega⟩ (fun u2 H locs hw => ?_)
  have hone : r1 = r2 := Ash_one a1 a2
  refine lv_icmp_eq (tgt := 589) S.1 S.2.1 dL_law_363 (by decide) (fun h9 => ?_) (fun h9 => absurd hone h9)
  exact kk _ _ _ _ _ _ _ _ _ (hX1.mono) (hM2 u2) (hw.pm List.perm_append_comm)
set_option maxRecDepth 100000 in
set_option maxHeartbeats 4000000 in
theorem law_count {p : Program} {l : Launch} {e : Env} {s : State} {m : MethodId} {below : List Frame} {meth : Method} {c : Code} {b L : Nat} {xs : Nat → Int32} {F : Nat} (hF : 40000000 ≤ F) (S : CallFix p m c cL_law 4 s #[Value.ref b] wsL_law RL) {E : Ev} (hN : KN E s) (hX : va_X b L xs s s.heap) (hbl : b < s.heap.size) {i : Nat} (hi : i + 4 ≤ L) (hL : L ≤ 2048) {G : Gr} {rk : Nat → Nat → Int32} {o : Option Nat} {a_x a_m cells slots : Nat} {XW MW : va_W} {H : Heap} {locs : List Loc} {ls : Array Slot} {Q : State → Prop} (hXI : XI E G rk o i a_x cells slots XW) (hMI : MI E G rk o a_m MW) (hw : Wo E (fun q : Nat => s.heap.size ≤ q) s (XW ++ MW) H locs) (hl : lv_has ls 4 [(3, .int (nI i)), (2, .ref a_m), (1, .ref a_x), (0, .ref b)])
    (kk : ∀ (G' : Gr) (rk' : Nat → Nat → Int32) (o' : Option Nat) (cells' slots' : Nat) (XW' MW' : va_W) (H' : Heap) (locs' : List Loc), XI E G' rk' o' (i + 1) a_x cells' slots' XW' → MI E G' rk' o' a_m MW' → Wo E (fun q : Nat => s.heap.size ≤ q) s (XW' ++ MW') H' locs' → W p l e room_1 s m #[Value.ref b] below meth c H' locs' cells' slots' Q (F0 m 589 ls [])) : W p l e room_1 s m #[Value.ref b] below meth c H locs cells slots Q (F0 m 368 ls []) := by
  have hA : ∀ q : Nat, s.heap.size ≤ q → (fun q : Nat => s.heap.size ≤ q) q := fun _ h => h
  have hbA : ¬ (fun q : Nat => s.heap.size ≤ q) b := Nat.not_le.mpr hbl
  obtain ⟨hW, hv, hr⟩ := hXI.wf
  refine lv_aload_n S.1 S.2.1 dL_law_368 rfl (lv_at hl 2 rfl) ?_
  refine lv_aload_n S.1 S.2.1 dL_law_369 rfl (lv_at hl 3 rfl) ?_
  refine lv_iload_n S.1 S.2.1 dL_law_370 rfl (lv_at hl 0 rfl) ?_
  refine lv_iconst (v := 1) S.1 S.2.1 dL_law_371 (by decide) ?_
  refine lv_iadd S.1 S.2.1 dL_law_372 ?_
  rw [nI_1 i]
  refine va_sld S.1 S.2.1 hX hbl hbA hw.2.2 (vp_in_nI (show i + 1 < L by omega) (by omega)) dL_law_373 ?_
  obtain ⟨h1, wc1, wr1, mc1, ms1, r1, w1, fs1, hh1, hC1, he1, hp1, a1, hX1⟩ := x_count l hF (show i < 1000000 by omega) hXI (xs (nI (i + 1)).toNatClampNeg)
  have hroom := (hX1 (fun _ => 0)).le
  refine g_xL (As := [.int (xs (nI (i + 1)).toNatClampNeg)]) (rest := []) S hN hw hA hC1 hp1 he1 (q := (RX11, TX11, 8)) rfl (fun mc ms => cwV 1 S.2.2.2.2 gL_law_X11_count rfl rfl rfl (by decide +kernel) (rm_law hh1 (by decide))) rfl hl.1 rfl (lv_room (Nat.le_of_ble_eq_true rfl)) dL_law_374 ⟨by show _ ≤ 600000; omega, by show _ ≤ 7302250; omega⟩ (fun u1 H locs hw => ?_)
  have hX1 := hX1 u1
  refine lv_aload_n S.1 S.2.1 dL_law_377 rfl (lv_at hl 1 rfl) ?_
  refine lv_aload_n S.1 S.2.1 dL_law_378 rfl (lv_at hl 3 rfl) ?_
  refine lv_iload_n S.1 S.2.1 dL_law_379 rfl (lv_at hl 0 rfl) ?_
  refine lv_iconst (v := 1) S.1 S.2.1 dL_law_380 (by decide) ?_
  refine lv_iadd S.1 S.2.1 dL_law_381 ?_
  rw [nI_1 i]
  refine va_sld S.1 S.2.1 hX hbl hbA hw.2.2 (vp_in_nI (show i + 1 < L by omega) (by omega)) dL_law_382 ?_
  obtain ⟨h2, wc2, wr2, mc2, ms2, r2, w2, fs2, hh2, ⟨rfl, rfl⟩, hC2, he2, hp2, a2, hM2⟩ := m_count l hF hW hv hr hMI (xs (nI (i + 1)).toNatClampNeg)
  refine g_xL (As := [.int (xs (nI (i + 1)).toNatClampNeg)]) (rest := [.long r1]) S hN (hw.pm List.perm_append_comm) hA hC2 hp2 he2 (q := (RX12, TX12, 37)) rfl (fun mc ms => cwV 1 S.2.2.2.2 gL_law_X12_count rfl rfl rfl (by decide +kernel) (rm_law hh2 (by decide))) rfl hl.1 rfl (lv_room (Nat.le_of_ble_eq_true rfl)) dL_law_383 ⟨by show _ ≤ 600000; omega, by show _ ≤ 7302250; omega⟩ (fun u2 H locs hw => ?_)
  have hone : r1 = r2 := Acn_one a1 a2
  subst hone
  refine W.lcmp S.1 S.2.1 dL_law_386 ?_
  refine lv_if_eq (tgt := 589) S.1 S.2.1 dL_law_387 (by decide) (fun h9 => ?_) (fun h9 => absurd (lg_cmp_self r1) h9)
  exact kk _ _ _ _ _ _ _ _ _ (hX1.mono) (hM2 u2) (hw.pm List.perm_append_comm)
set_option maxRecDepth 100000 in
set_option maxHeartbeats 4000000 in
theorem law_cover {p : Program} {l : Launch} {e : Env} {s : State} {m : MethodId} {below : List Frame} {meth : Method} {c : Code} {b L : Nat} {xs : Nat → Int32} {F : Nat} (hF : 40000000 ≤ F) (S : CallFix p m c cL_law 4 s #[Value.ref b] wsL_law RL) {E : Ev} (hN : KN E s) (hX : va_X b L xs s s.heap) (hbl : b < s.heap.size) {i : Nat} (hi : i + 4 ≤ L) (hL : L ≤ 2048) {G : Gr} {rk : Nat → Nat → Int32} {o : Option Nat} {a_x a_m cells slots : Nat} {XW MW : va_W} {H : Heap} {locs : List Loc} {ls : Array Slot} {Q : State → Prop} (hXI : XI E G rk o i a_x cells slots XW) (hMI : MI E G rk o a_m MW) (hw : Wo E (fun q : Nat => s.heap.size ≤ q) s (XW ++ MW) H locs) (hl : lv_has ls 4 [(3, .int (nI i)), (2, .ref a_m), (1, .ref a_x), (0, .ref b)])
    (kk : ∀ (G' : Gr) (rk' : Nat → Nat → Int32) (o' : Option Nat) (cells' slots' : Nat) (XW' MW' : va_W) (H' : Heap) (locs' : List Loc), XI E G' rk' o' (i + 1) a_x cells' slots' XW' → MI E G' rk' o' a_m MW' → Wo E (fun q : Nat => s.heap.size ≤ q) s (XW' ++ MW') H' locs' → W p l e room_1 s m #[Value.ref b] below meth c H' locs' cells' slots' Q (F0 m 589 ls [])) : W p l e room_1 s m #[Value.ref b] below meth c H locs cells slots Q (F0 m 392 ls []) := by
  have hA : ∀ q : Nat, s.heap.size ≤ q → (fun q : Nat => s.heap.size ≤ q) q := fun _ h => h
  have hbA : ¬ (fun q : Nat => s.heap.size ≤ q) b := Nat.not_le.mpr hbl
  obtain ⟨hW, hv, hr⟩ := hXI.wf
  refine lv_aload_n S.1 S.2.1 dL_law_392 rfl (lv_at hl 2 rfl) ?_
  obtain ⟨h1, wc1, wr1, mc1, ms1, r1, w1, fs1, hh1, hC1, he1, hp1, a1, hX1⟩ := x_cover l hF (show i < 1000000 by omega) hXI
  have hroom := (hX1 (fun _ => 0)).le
  refine g_xI (As := []) (rest := []) S hN hw hA hC1 hp1 he1 (q := (RX11, TX11, 8)) rfl (fun mc ms => cwV 0 S.2.2.2.2 gL_law_X11_cover rfl rfl rfl (by decide +kernel) (rm_law hh1 (by decide))) rfl hl.1 rfl (lv_room (Nat.le_of_ble_eq_true rfl)) dL_law_393 ⟨by show _ ≤ 600000; omega, by show _ ≤ 7302250; omega⟩ (fun u1 H locs hw => ?_)
  have hX1 := hX1 u1
  refine lv_aload_n S.1 S.2.1 dL_law_396 rfl (lv_at hl 1 rfl) ?_
  obtain ⟨h2, wc2, wr2, mc2, ms2, r2, w2, fs2, hh2, ⟨rfl, rfl⟩, hC2, he2, hp2, a2, hM2⟩ := m_cover l hF hW hv hr hMI
  refine g_xI (As := []) (rest := [.int r1]) S hN (hw.pm List.perm_append_comm) hA hC2 hp2 he2 (q := (RX12, TX12, 37)) rfl (fun mc ms => cwV 0 S.2.2.2.2 gL_law_X12_cover rfl rfl rfl (by decide +kernel) (rm_law hh2 (by decide))) rfl hl.1 rfl (lv_room (Nat.le_of_ble_eq_true rfl)) dL_law_397 ⟨by show _ ≤ 600000; omega, by show _ ≤ 7302250; omega⟩ (fun u2 H locs hw => ?_)
  have hone : r1 = r2 := SpC_one a1 a2
  refine lv_icmp_eq (tgt := 589) S.1 S.2.1 dL_law_400 (by decide) (fun h9 => ?_) (fun h9 => absurd hone h9)
  exact kk _ _ _ _ _ _ _ _ _ (hX1.mono) (hM2 u2) (hw.pm List.perm_append_comm)
set_option maxRecDepth 100000 in
set_option maxHeartbeats 4000000 in
theorem law_coverArc {p : Program} {l : Launch} {e : Env} {s : State} {m : MethodId} {below : List Frame} {meth : Method} {c : Code} {b L : Nat} {xs : Nat → Int32} {F : Nat} (hF : 40000000 ≤ F) (S : CallFix p m c cL_law 4 s #[Value.ref b] wsL_law RL) {E : Ev} (hN : KN E s) (hX : va_X b L xs s s.heap) (hbl : b < s.heap.size) {i : Nat} (hi : i + 4 ≤ L) (hL : L ≤ 2048) {G : Gr} {rk : Nat → Nat → Int32} {o : Option Nat} {a_x a_m cells slots : Nat} {XW MW : va_W} {H : Heap} {locs : List Loc} {ls : Array Slot} {Q : State → Prop} (hXI : XI E G rk o i a_x cells slots XW) (hMI : MI E G rk o a_m MW) (hw : Wo E (fun q : Nat => s.heap.size ≤ q) s (XW ++ MW) H locs) (hl : lv_has ls 4 [(3, .int (nI i)), (2, .ref a_m), (1, .ref a_x), (0, .ref b)])
    (kk : ∀ (G' : Gr) (rk' : Nat → Nat → Int32) (o' : Option Nat) (cells' slots' : Nat) (XW' MW' : va_W) (H' : Heap) (locs' : List Loc), XI E G' rk' o' (i + 1) a_x cells' slots' XW' → MI E G' rk' o' a_m MW' → Wo E (fun q : Nat => s.heap.size ≤ q) s (XW' ++ MW') H' locs' → W p l e room_1 s m #[Value.ref b] below meth c H' locs' cells' slots' Q (F0 m 589 ls [])) : W p l e room_1 s m #[Value.ref b] below meth c H locs cells slots Q (F0 m 405 ls []) := by
  have hA : ∀ q : Nat, s.heap.size ≤ q → (fun q : Nat => s.heap.size ≤ q) q := fun _ h => h
  have hbA : ¬ (fun q : Nat => s.heap.size ≤ q) b := Nat.not_le.mpr hbl
  obtain ⟨hW, hv, hr⟩ := hXI.wf
  refine lv_aload_n S.1 S.2.1 dL_law_405 rfl (lv_at hl 2 rfl) ?_
  refine lv_aload_n S.1 S.2.1 dL_law_406 rfl (lv_at hl 3 rfl) ?_
  refine lv_iload_n S.1 S.2.1 dL_law_407 rfl (lv_at hl 0 rfl) ?_
  refine lv_iconst (v := 1) S.1 S.2.1 dL_law_408 (by decide) ?_
  refine lv_iadd S.1 S.2.1 dL_law_409 ?_
  rw [nI_1 i]
  refine va_sld S.1 S.2.1 hX hbl hbA hw.2.2 (vp_in_nI (show i + 1 < L by omega) (by omega)) dL_law_410 ?_
  obtain ⟨h1, wc1, wr1, mc1, ms1, r1, w1, fs1, hh1, hC1, he1, hp1, a1, hX1⟩ := x_coverArc l hF (show i < 1000000 by omega) hXI (xs (nI (i + 1)).toNatClampNeg)
  have hroom := (hX1 (fun _ => 0)).le
  refine g_xI (As := [.int (xs (nI (i + 1)).toNatClampNeg)]) (rest := []) S hN hw hA hC1 hp1 he1 (q := (RX11, TX11, 8)) rfl (fun mc ms => cwV 1 S.2.2.2.2 gL_law_X11_coverArc rfl rfl rfl (by decide +kernel) (rm_law hh1 (by decide))) rfl hl.1 rfl (lv_room (Nat.le_of_ble_eq_true rfl)) dL_law_411 ⟨by show _ ≤ 600000; omega, by show _ ≤ 7302250; omega⟩ (fun u1 H locs hw => ?_)
  have hX1 := hX1 u1
  refine lv_aload_n S.1 S.2.1 dL_law_414 rfl (lv_at hl 1 rfl) ?_
  refine lv_aload_n S.1 S.2.1 dL_law_415 rfl (lv_at hl 3 rfl) ?_
  refine lv_iload_n S.1 S.2.1 dL_law_416 rfl (lv_at hl 0 rfl) ?_
  refine lv_iconst (v := 1) S.1 S.2.1 dL_law_417 (by decide) ?_
  refine lv_iadd S.1 S.2.1 dL_law_418 ?_
  rw [nI_1 i]
  refine va_sld S.1 S.2.1 hX hbl hbA hw.2.2 (vp_in_nI (show i + 1 < L by omega) (by omega)) dL_law_419 ?_
  obtain ⟨h2, wc2, wr2, mc2, ms2, r2, w2, fs2, hh2, ⟨rfl, rfl⟩, hC2, he2, hp2, a2, hM2⟩ := m_coverArc l hF hW hv hr hMI (xs (nI (i + 1)).toNatClampNeg)
  refine g_xI (As := [.int (xs (nI (i + 1)).toNatClampNeg)]) (rest := [.int r1]) S hN (hw.pm List.perm_append_comm) hA hC2 hp2 he2 (q := (RX12, TX12, 37)) rfl (fun mc ms => cwV 1 S.2.2.2.2 gL_law_X12_coverArc rfl rfl rfl (by decide +kernel) (rm_law hh2 (by decide))) rfl hl.1 rfl (lv_room (Nat.le_of_ble_eq_true rfl)) dL_law_420 ⟨by show _ ≤ 600000; omega, by show _ ≤ 7302250; omega⟩ (fun u2 H locs hw => ?_)
  have hone : r1 = r2 := SpC_one a1 a2
  refine lv_icmp_eq (tgt := 589) S.1 S.2.1 dL_law_423 (by decide) (fun h9 => ?_) (fun h9 => absurd hone h9)
  exact kk _ _ _ _ _ _ _ _ _ (hX1.mono) (hM2 u2) (hw.pm List.perm_append_comm)
set_option maxRecDepth 100000 in
set_option maxHeartbeats 4000000 in
theorem law_hold {p : Program} {l : Launch} {e : Env} {s : State} {m : MethodId} {below : List Frame} {meth : Method} {c : Code} {b L : Nat} {xs : Nat → Int32} {F : Nat} (hF : 40000000 ≤ F) (S : CallFix p m c cL_law 4 s #[Value.ref b] wsL_law RL) {E : Ev} (hN : KN E s) (hX : va_X b L xs s s.heap) (hbl : b < s.heap.size) {i : Nat} (hi : i + 4 ≤ L) (hL : L ≤ 2048) {G : Gr} {rk : Nat → Nat → Int32} {o : Option Nat} {a_x a_m cells slots : Nat} {XW MW : va_W} {H : Heap} {locs : List Loc} {ls : Array Slot} {Q : State → Prop} (hXI : XI E G rk o i a_x cells slots XW) (hMI : MI E G rk o a_m MW) (hw : Wo E (fun q : Nat => s.heap.size ≤ q) s (XW ++ MW) H locs) (hl : lv_has ls 4 [(3, .int (nI i)), (2, .ref a_m), (1, .ref a_x), (0, .ref b)])
    (kk : ∀ (G' : Gr) (rk' : Nat → Nat → Int32) (o' : Option Nat) (cells' slots' : Nat) (XW' MW' : va_W) (H' : Heap) (locs' : List Loc), XI E G' rk' o' (i + 1) a_x cells' slots' XW' → MI E G' rk' o' a_m MW' → Wo E (fun q : Nat => s.heap.size ≤ q) s (XW' ++ MW') H' locs' → W p l e room_1 s m #[Value.ref b] below meth c H' locs' cells' slots' Q (F0 m 589 ls [])) : W p l e room_1 s m #[Value.ref b] below meth c H locs cells slots Q (F0 m 428 ls []) := by
  have hA : ∀ q : Nat, s.heap.size ≤ q → (fun q : Nat => s.heap.size ≤ q) q := fun _ h => h
  have hbA : ¬ (fun q : Nat => s.heap.size ≤ q) b := Nat.not_le.mpr hbl
  obtain ⟨hW, hv, hr⟩ := hXI.wf
  refine lv_aload_n S.1 S.2.1 dL_law_428 rfl (lv_at hl 2 rfl) ?_
  obtain ⟨h1, wc1, wr1, mc1, ms1, r1, w1, fs1, hh1, hC1, he1, hp1, a1, hX1⟩ := x_hold l hF (show i < 1000000 by omega) hXI
  have hroom := (hX1 (fun _ => 0)).le
  refine g_xI (As := []) (rest := []) S hN hw hA hC1 hp1 he1 (q := (RX11, TX11, 8)) rfl (fun mc ms => cwV 0 S.2.2.2.2 gL_law_X11_hold rfl rfl rfl (by decide +kernel) (rm_law hh1 (by decide))) rfl hl.1 rfl (lv_room (Nat.le_of_ble_eq_true rfl)) dL_law_429 ⟨by show _ ≤ 600000; omega, by show _ ≤ 7302250; omega⟩ (fun u1 H locs hw => ?_)
  have hX1 := hX1 u1
  refine lv_aload_n S.1 S.2.1 dL_law_432 rfl (lv_at hl 1 rfl) ?_
  obtain ⟨h2, wc2, wr2, mc2, ms2, r2, w2, fs2, hh2, ⟨rfl, rfl⟩, hC2, he2, hp2, a2, hM2⟩ := m_hold l hF hW hv hr hMI
  refine g_xI (As := []) (rest := [.int r1]) S hN (hw.pm List.perm_append_comm) hA hC2 hp2 he2 (q := (RX12, TX12, 37)) rfl (fun mc ms => cwV 0 S.2.2.2.2 gL_law_X12_hold rfl rfl rfl (by decide +kernel) (rm_law hh2 (by decide))) rfl hl.1 rfl (lv_room (Nat.le_of_ble_eq_true rfl)) dL_law_433 ⟨by show _ ≤ 600000; omega, by show _ ≤ 7302250; omega⟩ (fun u2 H locs hw => ?_)
  have hone : r1 = r2 := hold_one (f := fun H => nI (pcF 16 H)) a1 a2
  refine lv_icmp_eq (tgt := 589) S.1 S.2.1 dL_law_436 (by decide) (fun h9 => ?_) (fun h9 => absurd hone h9)
  exact kk _ _ _ _ _ _ _ _ _ (hX1.mono) (hM2 u2) (hw.pm List.perm_append_comm)
end
