section
theorem mem_idx {α : Type} {l ws : List α} (is : List Nat) (h : is.map (fun i => l[i]?) = ws.map some) : ∀ w ∈ ws, w ∈ l := by
  intro w hw
  have h1 : some w ∈ is.map (fun i => l[i]?) := by rw [h]; exact List.mem_map.mpr ⟨w, hw, rfl⟩
  obtain ⟨i, -, hi⟩ := List.mem_map.mp h1
  exact List.mem_of_getElem? hi
set_option maxRecDepth 100000 in
theorem nest_in : ∀ w ∈ nestW, w ∈ lw_tbl := mem_idx [85, 89, 91, 92, 93, 94, 96, 97, 98, 99, 100, 101, 103, 104, 105, 106, 107, 108, 111, 112, 113, 114, 116, 117, 118, 119, 121, 122, 124, 125, 126, 127, 129, 130, 131, 132, 133, 165, 167, 266, 272, 279, 280, 281, 283, 284, 285, 287, 288, 289, 292, 293, 294, 311, 312, 313, 315, 317, 334, 368, 371, 383, 424, 431, 443, 453, 484, 509, 515, 517, 519, 531, 533, 537, 539, 570, 576, 577, 592, 661, 666, 672, 706, 733, 769, 774, 776, 807, 809, 839, 861, 863, 896, 897, 903, 913] rfl
theorem nest_tabs : ∀ w ∈ nestW, w.onTables = true := by decide +kernel
theorem arr_kn {args : Array Value} {s : State} {ty : FieldType} (h : (Cond.arrayClass ty).before args s = true) : ∃ cA, ArrOfT s cA ty ∧ s.vm.findClass ("[" ++ ty.toString) = some cA := by
  obtain ⟨cA, kA, comp, hfind, hk, hkind⟩ := Cond.arrayClass_spec h
  exact ⟨cA, fun n z => ⟨fun k h => (by cases h), kA, hk, comp, hkind⟩, hfind⟩
set_option maxRecDepth 100000 in
set_option maxHeartbeats 4000000 in
theorem KN_start {s : State} {b : Nat} (hts : ∀ w ∈ lw_tbl, w.before #[Value.ref b] s = true) : ∃ E : Ev, KN E s := by
  have h1 : ∀ w ∈ wsL_law, w.before #[Value.ref b] s = true := fun w h => hts w (wsL_law_in w h)
  obtain ⟨c0, i0, k0⟩ := u_known (C := RX0) (T := TX0) (N := 5) (n := 5) h1 inlX0 (h1 (.instantiable RX0 5) (by decide +kernel))
  obtain ⟨c1, i1, k1⟩ := u_known (C := RX1) (T := TX1) (N := 5) (n := 5) h1 inlX1 (h1 (.instantiable RX1 5) (by decide +kernel))
  obtain ⟨c2, i2, k2⟩ := u_known (C := RX2) (T := TX2) (N := 9) (n := 9) h1 inlX2 (h1 (.instantiable RX2 9) (by decide +kernel))
  obtain ⟨c3, i3, k3⟩ := u_known (C := RX3) (T := TX3) (N := 4) (n := 4) h1 inlX3 (h1 (.instantiable RX3 4) (by decide +kernel))
  obtain ⟨c4, i4, k4⟩ := u_known (C := RX4) (T := TX4) (N := 7) (n := 7) h1 inlX4 (h1 (.instantiable RX4 7) (by decide +kernel))
  obtain ⟨c5, i5, k5⟩ := u_known (C := RX5) (T := TX5) (N := 4) (n := 4) h1 inlX5 (h1 (.instantiable RX5 4) (by decide +kernel))
  obtain ⟨c6, i6, k6⟩ := u_known (C := RX6) (T := TX6) (N := 2) (n := 2) h1 inlX6 (h1 (.instantiable RX6 2) (by decide +kernel))
  obtain ⟨c7, i7, k7⟩ := u_known (C := RX7) (T := TX7) (N := 7) (n := 7) h1 inlX7 (h1 (.instantiable RX7 7) (by decide +kernel))
  obtain ⟨c8, i8, k8⟩ := u_known (C := RX8) (T := TX8) (N := 8) (n := 8) h1 inlX8 (h1 (.instantiable RX8 8) (by decide +kernel))
  obtain ⟨c9, i9, k9⟩ := u_known (C := RX9) (T := TX9) (N := 10) (n := 10) h1 inlX9 (h1 (.instantiable RX9 10) (by decide +kernel))
  obtain ⟨c10, i10, k10⟩ := u_known (C := RX10) (T := TX10) (N := 6) (n := 6) h1 inlX10 (h1 (.instantiable RX10 6) (by decide +kernel))
  obtain ⟨c11, i11, k11⟩ := u_known (C := RX11) (T := TX11) (N := 8) (n := 8) h1 inlX11 (h1 (.instantiable RX11 8) (by decide +kernel))
  obtain ⟨c12, i12, k12⟩ := u_known (C := RX12) (T := TX12) (N := 37) (n := 37) h1 inlX12 (h1 (.instantiable RX12 37) (by decide +kernel))
  obtain ⟨cI, xI, yI⟩ := arr_kn (h1 (.arrayClass .int) (by decide +kernel))
  obtain ⟨cJ, xJ, yJ⟩ := arr_kn (h1 (.arrayClass .long) (by decide +kernel))
  obtain ⟨cZ, xZ, yZ⟩ := arr_kn (h1 (.arrayClass .boolean) (by decide +kernel))
  obtain ⟨cB, xB, yB⟩ := arr_kn (h1 (.arrayClass .byte) (by decide +kernel))
  refine ⟨((fun k => match k with | 0 => c0 | 1 => c1 | 2 => c2 | 3 => c3 | 4 => c4 | 5 => c5 | 6 => c6 | 7 => c7 | 8 => c8 | 9 => c9 | 10 => c10 | 11 => c11 | _ => c12, fun k => match k with | 0 => i0 | 1 => i1 | 2 => i2 | 3 => i3 | 4 => i4 | 5 => i5 | 6 => i6 | 7 => i7 | 8 => i8 | 9 => i9 | 10 => i10 | 11 => i11 | _ => i12), (cI, cJ, cZ, cB)), ⟨?_, ?_⟩, ?_⟩
  · intro k q hq
    match k, hq with
    | 0, hq => cases hq; exact k0
    | 1, hq => cases hq; exact k1
    | 2, hq => cases hq; exact k2
    | 3, hq => cases hq; exact k3
    | 4, hq => cases hq; exact k4
    | 5, hq => cases hq; exact k5
    | 6, hq => cases hq; exact k6
    | 7, hq => cases hq; exact k7
    | 8, hq => cases hq; exact k8
    | 9, hq => cases hq; exact k9
    | 10, hq => cases hq; exact k10
    | 11, hq => cases hq; exact k11
    | 12, hq => cases hq; exact k12
    | k + 13, hq => simp at hq
  · intro k q hq
    match k, hq with
    | 0, hq => cases hq; exact ⟨xI, yI⟩
    | 1, hq => cases hq; exact ⟨xJ, yJ⟩
    | 2, hq => cases hq; exact ⟨xZ, yZ⟩
    | 3, hq => cases hq; exact ⟨xB, yB⟩
    | k + 4, hq => simp at hq
  · intro w hw
    exact va_tabs (nest_tabs w hw) rfl (hts w (nest_in w hw))
theorem giv_start {F : Nat} (hF : 40000000 ≤ F) : ∃ gv, f_X11_init F = some gv ∧ ∀ i, i < 256 → gv i = -1 := by
  obtain ⟨f2, e3, e4⟩ := fillI (F := F) (-1) (n := 256) (by decide) (by omega) (fun _ => 0)
  refine ⟨f2, ?_, e4⟩
  unfold f_X11_init f_X6_init
  rw [e3]
  rfl
def G0 : Gr := (0, 0, fun _ => 0, fun _ => 0, fun _ => 0, fun _ => false)
theorem XI_start {E : Ev} {a_x : Nat} {u : Nat → Nat} {gv : Nat → Int32} (h : ∀ i, i < 256 → gv i = -1) {ws : va_W} (hp : ws.Perm (blkB E a_x u 0 0 0 0 (fun _ => 0) (fun _ => 0) (fun _ => 0) (fun _ => 0) (fun _ => 0) 0 gv none none none none none none)) : XI E G0 (fun _ _ => -1) none 0 a_x 36 395581 ws := by
  refine ⟨0, 0, u, 0, 0, 0, 0, fun _ => 0, fun _ => 0, fun _ => 0, fun _ => 0, fun _ => 0, 0, gv, none, none, none, none, none, none, [], [], [], [], [], [], Nat.le_refl 0, Nat.le_refl 0, ⟨⟨Nat.zero_le _, Nat.zero_le _, fun i hi => absurd hi (Nat.not_lt_zero i)⟩, ⟨rfl, rfl, fun i hi => absurd hi (Nat.not_lt_zero i), fun v hv => rfl⟩, rfl, rfl, rfl, fun _ _ => Or.inl rfl, fun v u hv hu => h _ (by omega), fun _ _ _ => rfl⟩, Or.inl ⟨rfl, rfl⟩, Or.inl ⟨rfl, rfl⟩, Or.inl ⟨rfl, rfl⟩, Or.inl ⟨rfl, rfl⟩, Or.inl ⟨rfl, rfl, rfl⟩, Or.inl ⟨rfl, rfl⟩, fun _ => ⟨rfl, rfl⟩, rfl, rfl, ?_⟩
  exact hp
theorem MI_start {E : Ev} {a_m : Nat} {u : Nat → Nat} {ws : va_W} (hp : ws.Perm (blkM E a_m u 0 0 0 0 0 0 0 0 0 0 0 (fun _ => 0) (fun _ => 0) (fun _ => 0) (fun _ => 0) (fun _ => 0) (fun _ => 0) (fun _ => 0) (fun _ => 0) (fun _ => 0) (fun _ => 0) (fun _ => 0) (fun _ => 0) (fun _ => 0) (fun _ => 0) (fun _ => 0) (fun _ => 0) (fun _ => 0) (fun _ => 0) (fun _ => 0) (fun _ => 0) (fun _ => 0) (fun _ => 0) (fun _ => 0) (fun _ => 0) (fun _ => 0) (fun _ => 0))) : MI E G0 (fun _ _ => -1) none a_m ws :=
  ⟨u, 0, 0, 0, 0, 0, 0, 0, 0, 0, 0, 0, fun _ => 0, fun _ => 0, fun _ => 0, fun _ => 0, fun _ => 0, fun _ => 0, fun _ => 0, fun _ => 0, fun _ => 0, fun _ => 0, fun _ => 0, fun _ => 0, fun _ => 0, fun _ => 0, fun _ => 0, fun _ => 0, fun _ => 0, fun _ => 0, fun _ => 0, fun _ => 0, fun _ => 0, fun _ => 0, fun _ => 0, fun _ => 0, fun _ => 0, fun _ => 0, ⟨rfl, rfl, fun i hi => absurd hi (Nat.not_lt_zero i)⟩, fun v u hv => absurd hv (Nat.not_lt_zero v), Or.inl rfl, rfl, hp⟩
set_option maxRecDepth 100000 in
set_option maxHeartbeats 4000000 in
theorem law_start {p : Program} {e : Env} {s : State} {m : MethodId} {below : List Frame} {meth : Method} {c : Code} (l : Launch) {b L : Nat} {xs : Nat → Int32} {F : Nat} (hF : 40000000 ≤ F) (hL : L ≤ 2048) (S : CallFix p m c cL_law 4 s #[Value.ref b] wsL_law RL) {E : Ev} (hN : KN E s) (hX : va_X b L xs s s.heap) (hbl : b < s.heap.size) (hrt : meth.sig.returnType = ret) (hlocks : meth.locks = false) : W p l e room_1 s m #[Value.ref b] below meth c s.heap [] 0 0 (lw_Z below #[Value.ref b] s) (entryFrame m ([Value.ref b] : List Value).toArray 4) := by
  have hA : ∀ q : Nat, s.heap.size ≤ q → (fun q : Nat => s.heap.size ≤ q) q := fun _ h => h
  have hw : Wo E (fun q : Nat => s.heap.size ≤ q) s [] s.heap [] := ⟨fun k q h => by simp at h, ⟨fun i j p q h => by simp at h, fun k q h => by simp at h⟩, va_S.rf⟩
  obtain ⟨gv, hg1, hg2⟩ := giv_start hF
  have hl := lv_entry ([.ref b]) (n := 4) (Nat.le_of_ble_eq_true rfl)
  rw [lg_entry_eq]
  generalize (lg_sl ([.ref b]) ++ List.replicate (4 - (lg_sl ([.ref b])).length) Slot.unset).toArray = ls at hl ⊢
  have hl : lv_has ls 4 [(0, .ref b)] := hl
  refine g_new S hN hw hA (C := RX11) (T := TX11) (N := 8) (ci := 11) (fs := [.null, .null, .null, .null, .null, .null, .null, .null]) inlX11 tyX11 tyX11_ok (S.2.2.2.2 (.classLink RL 7 RX11) (by decide +kernel)) (S.2.2.2.2 (.instantiable RX11 8) (by decide +kernel)) (S.2.2.2.2 (.initialized RX11) (by decide +kernel)) rfl (fun j hj => by rcases (show j = 0 ∨ j = 1 ∨ j = 2 ∨ j = 3 ∨ j = 4 ∨ j = 5 ∨ j = 6 ∨ j = 7 by omega) with rfl | rfl | rfl | rfl | rfl | rfl | rfl | rfl <;> rfl) (Nat.le_of_ble_eq_true rfl) (Nat.le_of_ble_eq_true rfl) dL_law_0 (fun a_x H hw => ?_)
  have hw : Wo E (fun q : Nat => s.heap.size ≤ q) s [oC a_x 11 [.null, .null, .null, .null, .null, .null, .null, .null]] H _ := hw
  refine lv_dup S.1 S.2.1 dL_law_3 rfl ?_
  refine g_ncallv (wc := [oC a_x 11 [.null, .null, .null, .null, .null, .null, .null, .null]]) (wr := []) (va_runI (As := []) (rest := [.ref a_x]) S (c_X11_init l E F a_x gv hg1 _) (cwI 0 S.2.2.2.2 gL_law_X11_init rfl rfl rfl (S.2.2.2.2 (.initialized RX11) (by decide +kernel)) (S.2.2.2.2 (.methodLink RL 9 yX11_init) (by decide +kernel)) (S.2.2.2.2 (.instanceMethod yX11_init) (by decide +kernel)) rfl (by decide +kernel) ⟨Nat.le_of_ble_eq_true rfl, Nat.le_of_ble_eq_true rfl⟩) (preS hN hw [0] rfl rfl) rfl rfl hl.1 rfl (lv_room (Nat.le_of_ble_eq_true rfl)) dL_law_4 ⟨Nat.le_of_ble_eq_true rfl, Nat.le_of_ble_eq_true rfl⟩) hw hA [0] [] rfl rfl rfl (by decide) (fun u1 H locs hw => ?_)
  have hw : Wo E (fun q : Nat => s.heap.size ≤ q) s (blkB E a_x u1 0 0 0 0 (fun _ => 0) (fun _ => 0) (fun _ => 0) (fun _ => 0) (fun _ => 0) 0 gv none none none none none none) H _ := hw
  refine lv_astore_n (lv' := [(1, .ref a_x), (0, .ref b)]) S.1 S.2.1 dL_law_7 rfl hl (by decide) rfl (fun ls hl => ?_)
  refine g_new S hN hw hA (C := RX12) (T := TX12) (N := 37) (ci := 12) (fs := [.int 0, .int 0, .null, .null, .null, .null, .null, .int 0, .null, .null, .null, .null, .null, .null, .null, .null, .null, .null, .null, .int 0, .int 0, .int 0, .null, .int 0, .int 0, .null, .null, .int 0, .null, .null, .null, .null, .null, .null, .null, .int 0, .long 0]) inlX12 tyX12 tyX12_ok (S.2.2.2.2 (.classLink RL 10 RX12) (by decide +kernel)) (S.2.2.2.2 (.instantiable RX12 37) (by decide +kernel)) (S.2.2.2.2 (.initialized RX12) (by decide +kernel)) rfl (fun j hj => by rcases (show j = 0 ∨ j = 1 ∨ j = 2 ∨ j = 3 ∨ j = 4 ∨ j = 5 ∨ j = 6 ∨ j = 7 ∨ j = 8 ∨ j = 9 ∨ j = 10 ∨ j = 11 ∨ j = 12 ∨ j = 13 ∨ j = 14 ∨ j = 15 ∨ j = 16 ∨ j = 17 ∨ j = 18 ∨ j = 19 ∨ j = 20 ∨ j = 21 ∨ j = 22 ∨ j = 23 ∨ j = 24 ∨ j = 25 ∨ j = 26 ∨ j = 27 ∨ j = 28 ∨ j = 29 ∨ j = 30 ∨ j = 31 ∨ j = 32 ∨ j = 33 ∨ j = 34 ∨ j = 35 ∨ j = 36 by omega) with rfl | rfl | rfl | rfl | rfl | rfl | rfl | rfl | rfl | rfl | rfl | rfl | rfl | rfl | rfl | rfl | rfl | rfl | rfl | rfl | rfl | rfl | rfl | rfl | rfl | rfl | rfl | rfl | rfl | rfl | rfl | rfl | rfl | rfl | rfl | rfl | rfl <;> rfl) (Nat.le_of_ble_eq_true rfl) (Nat.le_of_ble_eq_true rfl) dL_law_8 (fun a_m H hw => ?_)
  refine lv_dup S.1 S.2.1 dL_law_11 rfl ?_
  have hwc := hw.pm List.perm_append_comm
  refine g_ncallv (wc := [oC a_m 12 [.int 0, .int 0, .null, .null, .null, .null, .null, .int 0, .null, .null, .null, .null, .null, .null, .null, .null, .null, .null, .null, .int 0, .int 0, .int 0, .null, .int 0, .int 0, .null, .null, .int 0, .null, .null, .null, .null, .null, .null, .null, .int 0, .long 0]]) (wr := blkB E a_x u1 0 0 0 0 (fun _ => 0) (fun _ => 0) (fun _ => 0) (fun _ => 0) (fun _ => 0) 0 gv none none none none none none) (va_runI (As := []) (rest := [.ref a_m]) S (c_X12_init l E a_m rfl _) (cwI 0 S.2.2.2.2 gL_law_X12_init rfl rfl rfl (S.2.2.2.2 (.initialized RX12) (by decide +kernel)) (S.2.2.2.2 (.methodLink RL 12 yX12_init) (by decide +kernel)) (S.2.2.2.2 (.instanceMethod yX12_init) (by decide +kernel)) rfl (by decide +kernel) ⟨Nat.le_of_ble_eq_true rfl, Nat.le_of_ble_eq_true rfl⟩) (preS hN hwc [0] rfl rfl) rfl rfl hl.1 rfl (lv_room (Nat.le_of_ble_eq_true rfl)) dL_law_12 ⟨Nat.le_of_ble_eq_true rfl, Nat.le_of_ble_eq_true rfl⟩) hwc hA [0] [1, 2, 3, 4, 5, 6, 7, 8, 9] rfl rfl rfl (by decide) (fun u2 H locs hw => ?_)
  refine lv_astore_n (lv' := [(2, .ref a_m), (1, .ref a_x), (0, .ref b)]) S.1 S.2.1 dL_law_15 rfl hl (by decide) rfl (fun ls hl => ?_)
  refine lv_iconst (v := 0) S.1 S.2.1 dL_law_16 (by decide) ?_
  refine lv_istore_n (lv' := [(3, .int 0), (2, .ref a_m), (1, .ref a_x), (0, .ref b)]) S.1 S.2.1 dL_law_17 rfl hl (by decide) rfl (fun ls hl => ?_)
  exact law_loop hF S hN hX hbl hL hrt hlocks (L + 1) 0 (by omega) (Nat.zero_le L) G0 (fun _ _ => -1) none 36 395581 _ _ H locs (XI_start hg2 (List.Perm.refl _)) (MI_start (List.Perm.refl _)) hw ls hl
end
