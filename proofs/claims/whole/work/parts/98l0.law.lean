section
theorem rm_law {h mc ms k : Nat} (hh : h ≤ 25) (hk : k ≤ 100) : (Ra h mc ms).frames + 1 ≤ room_1.frames ∧ 8 + (k + 11) + (Ra h mc ms).locals ≤ room_1.locals := by
  show h + 1 ≤ 2048 ∧ 8 + (k + 11) + 40 * h ≤ 84000
  omega
theorem lg_cmp_self (x : Int64) : lg_cmp x x = 0 := by
  unfold lg_cmp
  simp
theorem nI_2 (i : Nat) : nI i + 2 = nI (i + 2) := nI_add i 2
theorem nI_3 (i : Nat) : nI i + 3 = nI (i + 3) := nI_add i 3
theorem nI_4 (i : Nat) : nI i + 4 = nI (i + 4) := nI_add i 4
set_option maxRecDepth 100000 in
set_option maxHeartbeats 4000000 in
theorem law_node {p : Program} {l : Launch} {e : Env} {s : State} {m : MethodId} {below : List Frame} {meth : Method} {c : Code} {b L : Nat} {xs : Nat → Int32} {F : Nat} (hF : 40000000 ≤ F) (S : CallFix p m c cL_law 4 s #[Value.ref b] wsL_law RL) {E : Ev} (hN : KN E s) (hX : va_X b L xs s s.heap) (hbl : b < s.heap.size) {i : Nat} (hi : i + 4 ≤ L) (hL : L ≤ 2048) {G : Gr} {rk : Nat → Nat → Int32} {o : Option Nat} {a_x a_m cells slots : Nat} {XW MW : va_W} {H : Heap} {locs : List Loc} {ls : Array Slot} {Q : State → Prop} (hXI : XI E G rk o i a_x cells slots XW) (hMI : MI E G rk o a_m MW) (hw : Wo E (fun q : Nat => s.heap.size ≤ q) s (XW ++ MW) H locs) (hl : lv_has ls 4 [(3, .int (nI i)), (2, .ref a_m), (1, .ref a_x), (0, .ref b)])
    (kk : ∀ (G' : Gr) (rk' : Nat → Nat → Int32) (o' : Option Nat) (cells' slots' : Nat) (XW' MW' : va_W) (H' : Heap) (locs' : List Loc), XI E G' rk' o' (i + 1) a_x cells' slots' XW' → MI E G' rk' o' a_m MW' → Wo E (fun q : Nat => s.heap.size ≤ q) s (XW' ++ MW') H' locs' → W p l e room_1 s m #[Value.ref b] below meth c H' locs' cells' slots' Q (F0 m 589 ls [])) : W p l e room_1 s m #[Value.ref b] below meth c H locs cells slots Q (F0 m 128 ls []) := by
  have hA : ∀ q : Nat, s.heap.size ≤ q → (fun q : Nat => s.heap.size ≤ q) q := fun _ h => h
  have hbA : ¬ (fun q : Nat => s.heap.size ≤ q) b := Nat.not_le.mpr hbl
  obtain ⟨hW, hv, hr⟩ := hXI.wf
  refine lv_aload_n S.1 S.2.1 dL_law_128 rfl (lv_at hl 2 rfl) ?_
  obtain ⟨h1, wc1, wr1, mc1, ms1, r1, w1, fs1, hh1, hC1, he1, hp1, a1, hX1⟩ := x_node l hF (show i < 1000000 by omega) hXI
  have hroom := (hX1 (fun _ => 0)).le
  refine g_xI (As := []) (rest := []) S hN hw hA hC1 hp1 he1 (q := (RX11, TX11, 8)) rfl (fun mc ms => cwV 0 S.2.2.2.2 gL_law_X11_node rfl rfl rfl (by decide +kernel) (rm_law hh1 (by decide))) rfl hl.1 rfl (lv_room (Nat.le_of_ble_eq_true rfl)) dL_law_129 ⟨by show _ ≤ 600000; omega, by show _ ≤ 7302250; omega⟩ (fun u1 H locs hw => ?_)
  have hX1 := hX1 u1
  refine lv_aload_n S.1 S.2.1 dL_law_132 rfl (lv_at hl 1 rfl) ?_
  obtain ⟨h2, wc2, wr2, mc2, ms2, r2, w2, fs2, hh2, ⟨rfl, rfl⟩, hC2, he2, hp2, a2, hM2⟩ := m_node l hF hW hv hr hMI
  refine g_xI (As := []) (rest := [.int r1]) S hN (hw.pm List.perm_append_comm) hA hC2 hp2 he2 (q := (RX12, TX12, 37)) rfl (fun mc ms => cwV 0 S.2.2.2.2 gL_law_X12_node rfl rfl rfl (by decide +kernel) (rm_law hh2 (by decide))) rfl hl.1 rfl (lv_room (Nat.le_of_ble_eq_true rfl)) dL_law_133 ⟨by show _ ≤ 600000; omega, by show _ ≤ 7302250; omega⟩ (fun u2 H locs hw => ?_)
  have hone : r1 = r2 := a1.trans a2.symm
  refine lv_icmp_eq (tgt := 589) S.1 S.2.1 dL_law_136 (by decide) (fun h9 => ?_) (fun h9 => absurd hone h9)
  exact kk _ _ _ _ _ _ _ _ _ (hX1) (hM2 u2) (hw.pm List.perm_append_comm)
set_option maxRecDepth 100000 in
set_option maxHeartbeats 4000000 in
theorem law_arc {p : Program} {l : Launch} {e : Env} {s : State} {m : MethodId} {below : List Frame} {meth : Method} {c : Code} {b L : Nat} {xs : Nat → Int32} {F : Nat} (hF : 40000000 ≤ F) (S : CallFix p m c cL_law 4 s #[Value.ref b] wsL_law RL) {E : Ev} (hN : KN E s) (hX : va_X b L xs s s.heap) (hbl : b < s.heap.size) {i : Nat} (hi : i + 4 ≤ L) (hL : L ≤ 2048) {G : Gr} {rk : Nat → Nat → Int32} {o : Option Nat} {a_x a_m cells slots : Nat} {XW MW : va_W} {H : Heap} {locs : List Loc} {ls : Array Slot} {Q : State → Prop} (hXI : XI E G rk o i a_x cells slots XW) (hMI : MI E G rk o a_m MW) (hw : Wo E (fun q : Nat => s.heap.size ≤ q) s (XW ++ MW) H locs) (hl : lv_has ls 4 [(3, .int (nI i)), (2, .ref a_m), (1, .ref a_x), (0, .ref b)])
    (kk : ∀ (G' : Gr) (rk' : Nat → Nat → Int32) (o' : Option Nat) (cells' slots' : Nat) (XW' MW' : va_W) (H' : Heap) (locs' : List Loc), XI E G' rk' o' (i + 1) a_x cells' slots' XW' → MI E G' rk' o' a_m MW' → Wo E (fun q : Nat => s.heap.size ≤ q) s (XW' ++ MW') H' locs' → W p l e room_1 s m #[Value.ref b] below meth c H' locs' cells' slots' Q (F0 m 589 ls [])) : W p l e room_1 s m #[Value.ref b] below meth c H locs cells slots Q (F0 m 141 ls []) := by
  have hA : ∀ q : Nat, s.heap.size ≤ q → (fun q : Nat => s.heap.size ≤ q) q := fun _ h => h
  have hbA : ¬ (fun q : Nat => s.heap.size ≤ q) b := Nat.not_le.mpr hbl
  obtain ⟨hW, hv, hr⟩ := hXI.wf
  refine lv_aload_n S.1 S.2.1 dL_law_141 rfl (lv_at hl 2 rfl) ?_
  refine lv_aload_n S.1 S.2.1 dL_law_142 rfl (lv_at hl 3 rfl) ?_
  refine lv_iload_n S.1 S.2.1 dL_law_143 rfl (lv_at hl 0 rfl) ?_
  refine lv_iconst (v := 1) S.1 S.2.1 dL_law_144 (by decide) ?_
  refine lv_iadd S.1 S.2.1 dL_law_145 ?_
  rw [nI_1 i]
  refine va_sld S.1 S.2.1 hX hbl hbA hw.2.2 (vp_in_nI (show i + 1 < L by omega) (by omega)) dL_law_146 ?_
  refine lv_aload_n S.1 S.2.1 dL_law_147 rfl (lv_at hl 3 rfl) ?_
  refine lv_iload_n S.1 S.2.1 dL_law_148 rfl (lv_at hl 0 rfl) ?_
  refine lv_iconst (v := 2) S.1 S.2.1 dL_law_149 (by decide) ?_
  refine lv_iadd S.1 S.2.1 dL_law_150 ?_
  rw [nI_2 i]
  refine va_sld S.1 S.2.1 hX hbl hbA hw.2.2 (vp_in_nI (show i + 2 < L by omega) (by omega)) dL_law_151 ?_
  refine lv_aload_n S.1 S.2.1 dL_law_152 rfl (lv_at hl 3 rfl) ?_
  refine lv_iload_n S.1 S.2.1 dL_law_153 rfl (lv_at hl 0 rfl) ?_
  refine lv_iconst (v := 3) S.1 S.2.1 dL_law_154 (by decide) ?_
  refine lv_iadd S.1 S.2.1 dL_law_155 ?_
  rw [nI_3 i]
  refine va_sld S.1 S.2.1 hX hbl hbA hw.2.2 (vp_in_nI (show i + 3 < L by omega) (by omega)) dL_law_156 ?_
  obtain ⟨h1, wc1, wr1, mc1, ms1, r1, w1, fs1, hh1, hC1, he1, hp1, a1, hX1⟩ := x_arc l hF (show i < 1000000 by omega) hXI (xs (nI (i + 1)).toNatClampNeg) (xs (nI (i + 2)).toNatClampNeg) (xs (nI (i + 3)).toNatClampNeg)
  have hroom := (hX1 (fun _ => 0)).le
  refine g_xI (As := [.int (xs (nI (i + 1)).toNatClampNeg), .int (xs (nI (i + 2)).toNatClampNeg), .int (xs (nI (i + 3)).toNatClampNeg)]) (rest := []) S hN hw hA hC1 hp1 he1 (q := (RX11, TX11, 8)) rfl (fun mc ms => cwV 3 S.2.2.2.2 gL_law_X11_arc rfl rfl rfl (by decide +kernel) (rm_law hh1 (by decide))) rfl hl.1 rfl (lv_room (Nat.le_of_ble_eq_true rfl)) dL_law_157 ⟨by show _ ≤ 600000; omega, by show _ ≤ 7302250; omega⟩ (fun u1 H locs hw => ?_)
  have hX1 := hX1 u1
  refine lv_aload_n S.1 S.2.1 dL_law_160 rfl (lv_at hl 1 rfl) ?_
  refine lv_aload_n S.1 S.2.1 dL_law_161 rfl (lv_at hl 3 rfl) ?_
  refine lv_iload_n S.1 S.2.1 dL_law_162 rfl (lv_at hl 0 rfl) ?_
  refine lv_iconst (v := 1) S.1 S.2.1 dL_law_163 (by decide) ?_
  refine lv_iadd S.1 S.2.1 dL_law_164 ?_
  rw [nI_1 i]
  refine va_sld S.1 S.2.1 hX hbl hbA hw.2.2 (vp_in_nI (show i + 1 < L by omega) (by omega)) dL_law_165 ?_
  refine lv_aload_n S.1 S.2.1 dL_law_166 rfl (lv_at hl 3 rfl) ?_
  refine lv_iload_n S.1 S.2.1 dL_law_167 rfl (lv_at hl 0 rfl) ?_
  refine lv_iconst (v := 2) S.1 S.2.1 dL_law_168 (by decide) ?_
  refine lv_iadd S.1 S.2.1 dL_law_169 ?_
  rw [nI_2 i]
  refine va_sld S.1 S.2.1 hX hbl hbA hw.2.2 (vp_in_nI (show i + 2 < L by omega) (by omega)) dL_law_170 ?_
  refine lv_aload_n S.1 S.2.1 dL_law_171 rfl (lv_at hl 3 rfl) ?_
  refine lv_iload_n S.1 S.2.1 dL_law_172 rfl (lv_at hl 0 rfl) ?_
  refine lv_iconst (v := 3) S.1 S.2.1 dL_law_173 (by decide) ?_
  refine lv_iadd S.1 S.2.1 dL_law_174 ?_
  rw [nI_3 i]
  refine va_sld S.1 S.2.1 hX hbl hbA hw.2.2 (vp_in_nI (show i + 3 < L by omega) (by omega)) dL_law_175 ?_
  obtain ⟨h2, wc2, wr2, mc2, ms2, r2, w2, fs2, hh2, ⟨rfl, rfl⟩, hC2, he2, hp2, a2, hM2⟩ := m_arc l hF hW hv hr hMI (xs (nI (i + 1)).toNatClampNeg) (xs (nI (i + 2)).toNatClampNeg) (xs (nI (i + 3)).toNatClampNeg)
  refine g_xI (As := [.int (xs (nI (i + 1)).toNatClampNeg), .int (xs (nI (i + 2)).toNatClampNeg), .int (xs (nI (i + 3)).toNatClampNeg)]) (rest := [.int r1]) S hN (hw.pm List.perm_append_comm) hA hC2 hp2 he2 (q := (RX12, TX12, 37)) rfl (fun mc ms => cwV 3 S.2.2.2.2 gL_law_X12_arc rfl rfl rfl (by decide +kernel) (rm_law hh2 (by decide))) rfl hl.1 rfl (lv_room (Nat.le_of_ble_eq_true rfl)) dL_law_176 ⟨by show _ ≤ 600000; omega, by show _ ≤ 7302250; omega⟩ (fun u2 H locs hw => ?_)
  have hone : r1 = r2 := a1.trans a2.symm
  refine lv_icmp_eq (tgt := 589) S.1 S.2.1 dL_law_179 (by decide) (fun h9 => ?_) (fun h9 => absurd hone h9)
  exact kk _ _ _ _ _ _ _ _ _ (hX1) (hM2 u2) (hw.pm List.perm_append_comm)
set_option maxRecDepth 100000 in
set_option maxHeartbeats 4000000 in
theorem law_cut {p : Program} {l : Launch} {e : Env} {s : State} {m : MethodId} {below : List Frame} {meth : Method} {c : Code} {b L : Nat} {xs : Nat → Int32} {F : Nat} (hF : 40000000 ≤ F) (S : CallFix p m c cL_law 4 s #[Value.ref b] wsL_law RL) {E : Ev} (hN : KN E s) (hX : va_X b L xs s s.heap) (hbl : b < s.heap.size) {i : Nat} (hi : i + 4 ≤ L) (hL : L ≤ 2048) {G : Gr} {rk : Nat → Nat → Int32} {o : Option Nat} {a_x a_m cells slots : Nat} {XW MW : va_W} {H : Heap} {locs : List Loc} {ls : Array Slot} {Q : State → Prop} (hXI : XI E G rk o i a_x cells slots XW) (hMI : MI E G rk o a_m MW) (hw : Wo E (fun q : Nat => s.heap.size ≤ q) s (XW ++ MW) H locs) (hl : lv_has ls 4 [(3, .int (nI i)), (2, .ref a_m), (1, .ref a_x), (0, .ref b)])
    (kk : ∀ (G' : Gr) (rk' : Nat → Nat → Int32) (o' : Option Nat) (cells' slots' : Nat) (XW' MW' : va_W) (H' : Heap) (locs' : List Loc), XI E G' rk' o' (i + 1) a_x cells' slots' XW' → MI E G' rk' o' a_m MW' → Wo E (fun q : Nat => s.heap.size ≤ q) s (XW' ++ MW') H' locs' → W p l e room_1 s m #[Value.ref b] below meth c H' locs' cells' slots' Q (F0 m 589 ls [])) : W p l e room_1 s m #[Value.ref b] below meth c H locs cells slots Q (F0 m 184 ls []) := by
  have hA : ∀ q : Nat, s.heap.size ≤ q → (fun q : Nat => s.heap.size ≤ q) q := fun _ h => h
  have hbA : ¬ (fun q : Nat => s.heap.size ≤ q) b := Nat.not_le.mpr hbl
  obtain ⟨hW, hv, hr⟩ := hXI.wf
  refine lv_aload_n S.1 S.2.1 dL_law_184 rfl (lv_at hl 2 rfl) ?_
  refine lv_aload_n S.1 S.2.1 dL_law_185 rfl (lv_at hl 3 rfl) ?_
  refine lv_iload_n S.1 S.2.1 dL_law_186 rfl (lv_at hl 0 rfl) ?_
  refine lv_iconst (v := 1) S.1 S.2.1 dL_law_187 (by decide) ?_
  refine lv_iadd S.1 S.2.1 dL_law_188 ?_
  rw [nI_1 i]
  refine va_sld S.1 S.2.1 hX hbl hbA hw.2.2 (vp_in_nI (show i + 1 < L by omega) (by omega)) dL_law_189 ?_
  obtain ⟨h1, wc1, wr1, mc1, ms1, r1, w1, fs1, hh1, hC1, he1, hp1, a1, hX1⟩ := x_cut l hF (show i < 1000000 by omega) hXI (xs (nI (i + 1)).toNatClampNeg)
  have hroom := (hX1 (fun _ => 0)).le
  refine g_xI (As := [.int (xs (nI (i + 1)).toNatClampNeg)]) (rest := []) S hN hw hA hC1 hp1 he1 (q := (RX11, TX11, 8)) rfl (fun mc ms => cwV 1 S.2.2.2.2 gL_law_X11_cut rfl rfl rfl (by decide +kernel) (rm_law hh1 (by decide))) rfl hl.1 rfl (lv_room (Nat.le_of_ble_eq_true rfl)) dL_law_190 ⟨by show _ ≤ 600000; omega, by show _ ≤ 7302250; omega⟩ (fun u1 H locs hw => ?_)
  have hX1 := hX1 u1
  refine lv_aload_n S.1 S.2.1 dL_law_193 rfl (lv_at hl 1 rfl) ?_
  refine lv_aload_n S.1 S.2.1 dL_law_194 rfl (lv_at hl 3 rfl) ?_
  refine lv_iload_n S.1 S.2.1 dL_law_195 rfl (lv_at hl 0 rfl) ?_
  refine lv_iconst (v := 1) S.1 S.2.1 dL_law_196 (by decide) ?_
  refine lv_iadd S.1 S.2.1 dL_law_197 ?_
  rw [nI_1 i]
  refine va_sld S.1 S.2.1 hX hbl hbA hw.2.2 (vp_in_nI (show i + 1 < L by omega) (by omega)) dL_law_198 ?_
  obtain ⟨h2, wc2, wr2, mc2, ms2, r2, w2, fs2, hh2, ⟨rfl, rfl⟩, hC2, he2, hp2, a2, hM2⟩ := m_cut l hF hW hv hr hMI (xs (nI (i + 1)).toNatClampNeg)
  refine g_xI (As := [.int (xs (nI (i + 1)).toNatClampNeg)]) (rest := [.int r1]) S hN (hw.pm List.perm_append_comm) hA hC2 hp2 he2 (q := (RX12, TX12, 37)) rfl (fun mc ms => cwV 1 S.2.2.2.2 gL_law_X12_cut rfl rfl rfl (by decide +kernel) (rm_law hh2 (by decide))) rfl hl.1 rfl (lv_room (Nat.le_of_ble_eq_true rfl)) dL_law_199 ⟨by show _ ≤ 600000; omega, by show _ ≤ 7302250; omega⟩ (fun u2 H locs hw => ?_)
  have hone : r1 = r2 := a1.trans a2.symm
  refine lv_icmp_eq (tgt := 589) S.1 S.2.1 dL_law_202 (by decide) (fun h9 => ?_) (fun h9 => absurd hone h9)
  exact kk _ _ _ _ _ _ _ _ _ (hX1) (hM2 u2) (hw.pm List.perm_append_comm)
set_option maxRecDepth 100000 in
set_option maxHeartbeats 4000000 in
theorem law_clear {p : Program} {l : Launch} {e : Env} {s : State} {m : MethodId} {below : List Frame} {meth : Method} {c : Code} {b L : Nat} {xs : Nat → Int32} {F : Nat} (hF : 40000000 ≤ F) (S : CallFix p m c cL_law 4 s #[Value.ref b] wsL_law RL) {E : Ev} (hN : KN E s) (hX : va_X b L xs s s.heap) (hbl : b < s.heap.size) {i : Nat} (hi : i + 4 ≤ L) (hL : L ≤ 2048) {G : Gr} {rk : Nat → Nat → Int32} {o : Option Nat} {a_x a_m cells slots : Nat} {XW MW : va_W} {H : Heap} {locs : List Loc} {ls : Array Slot} {Q : State → Prop} (hXI : XI E G rk o i a_x cells slots XW) (hMI : MI E G rk o a_m MW) (hw : Wo E (fun q : Nat => s.heap.size ≤ q) s (XW ++ MW) H locs) (hl : lv_has ls 4 [(3, .int (nI i)), (2, .ref a_m), (1, .ref a_x), (0, .ref b)])
    (kk : ∀ (G' : Gr) (rk' : Nat → Nat → Int32) (o' : Option Nat) (cells' slots' : Nat) (XW' MW' : va_W) (H' : Heap) (locs' : List Loc), XI E G' rk' o' (i + 1) a_x cells' slots' XW' → MI E G' rk' o' a_m MW' → Wo E (fun q : Nat => s.heap.size ≤ q) s (XW' ++ MW') H' locs' → W p l e room_1 s m #[Value.ref b] below meth c H' locs' cells' slots' Q (F0 m 589 ls [])) : W p l e room_1 s m #[Value.ref b] below meth c H locs cells slots Q (F0 m 207 ls []) := by
  have hA : ∀ q : Nat, s.heap.size ≤ q → (fun q : Nat => s.heap.size ≤ q) q := fun _ h => h
  have hbA : ¬ (fun q : Nat => s.heap.size ≤ q) b := Nat.not_le.mpr hbl
  obtain ⟨hW, hv, hr⟩ := hXI.wf
  refine lv_aload_n S.1 S.2.1 dL_law_207 rfl (lv_at hl 2 rfl) ?_
  obtain ⟨h1, wc1, wr1, mc1, ms1, r1, w1, fs1, hh1, hC1, he1, hp1, a1, hX1⟩ := x_clear l hF (show i < 1000000 by omega) hXI
  have hroom := (hX1 (fun _ => 0)).le
  refine g_xI (As := []) (rest := []) S hN hw hA hC1 hp1 he1 (q := (RX11, TX11, 8)) rfl (fun mc ms => cwV 0 S.2.2.2.2 gL_law_X11_clear rfl rfl rfl (by decide +kernel) (rm_law hh1 (by decide))) rfl hl.1 rfl (lv_room (Nat.le_of_ble_eq_true rfl)) dL_law_208 ⟨by show _ ≤ 600000; omega, by show _ ≤ 7302250; omega⟩ (fun u1 H locs hw => ?_)
  have hX1 := hX1 u1
  refine lv_aload_n S.1 S.2.1 dL_law_211 rfl (lv_at hl 1 rfl) ?_
  obtain ⟨h2, wc2, wr2, mc2, ms2, r2, w2, fs2, hh2, ⟨rfl, rfl⟩, hC2, he2, hp2, a2, hM2⟩ := m_clear l hF hW hv hr hMI
  refine g_xI (As := []) (rest := [.int r1]) S hN (hw.pm List.perm_append_comm) hA hC2 hp2 he2 (q := (RX12, TX12, 37)) rfl (fun mc ms => cwV 0 S.2.2.2.2 gL_law_X12_clear rfl rfl rfl (by decide +kernel) (rm_law hh2 (by decide))) rfl hl.1 rfl (lv_room (Nat.le_of_ble_eq_true rfl)) dL_law_212 ⟨by show _ ≤ 600000; omega, by show _ ≤ 7302250; omega⟩ (fun u2 H locs hw => ?_)
  have hone : r1 = r2 := a1.trans a2.symm
  refine lv_icmp_eq (tgt := 589) S.1 S.2.1 dL_law_215 (by decide) (fun h9 => ?_) (fun h9 => absurd hone h9)
  exact kk _ _ _ _ _ _ _ _ _ (hX1) (hM2 u2) (hw.pm List.perm_append_comm)
set_option maxRecDepth 100000 in
set_option maxHeartbeats 4000000 in
theorem law_pairs {p : Program} {l : Launch} {e : Env} {s : State} {m : MethodId} {below : List Frame} {meth : Method} {c : Code} {b L : Nat} {xs : Nat → Int32} {F : Nat} (hF : 40000000 ≤ F) (S : CallFix p m c cL_law 4 s #[Value.ref b] wsL_law RL) {E : Ev} (hN : KN E s) (hX : va_X b L xs s s.heap) (hbl : b < s.heap.size) {i : Nat} (hi : i + 4 ≤ L) (hL : L ≤ 2048) {G : Gr} {rk : Nat → Nat → Int32} {o : Option Nat} {a_x a_m cells slots : Nat} {XW MW : va_W} {H : Heap} {locs : List Loc} {ls : Array Slot} {Q : State → Prop} (hXI : XI E G rk o i a_x cells slots XW) (hMI : MI E G rk o a_m MW) (hw : Wo E (fun q : Nat => s.heap.size ≤ q) s (XW ++ MW) H locs) (hl : lv_has ls 4 [(3, .int (nI i)), (2, .ref a_m), (1, .ref a_x), (0, .ref b)])
    (kk : ∀ (G' : Gr) (rk' : Nat → Nat → Int32) (o' : Option Nat) (cells' slots' : Nat) (XW' MW' : va_W) (H' : Heap) (locs' : List Loc), XI E G' rk' o' (i + 1) a_x cells' slots' XW' → MI E G' rk' o' a_m MW' → Wo E (fun q : Nat => s.heap.size ≤ q) s (XW' ++ MW') H' locs' → W p l e room_1 s m #[Value.ref b] below meth c H' locs' cells' slots' Q (F0 m 589 ls [])) : W p l e room_1 s m #[Value.ref b] below meth c H locs cells slots Q (F0 m 220 ls []) := by
  have hA : ∀ q : Nat, s.heap.size ≤ q → (fun q : Nat => s.heap.size ≤ q) q := fun _ h => h
  have hbA : ¬ (fun q : Nat => s.heap.size ≤ q) b := Nat.not_le.mpr hbl
  obtain ⟨hW, hv, hr⟩ := hXI.wf
  refine lv_aload_n S.1 S.2.1 dL_law_220 rfl (lv_at hl 2 rfl) ?_
  refine lv_aload_n S.1 S.2.1 dL_law_221 rfl (lv_at hl 3 rfl) ?_
  refine lv_iload_n S.1 S.2.1 dL_law_222 rfl (lv_at hl 0 rfl) ?_
  refine lv_iconst (v := 1) S.1 S.2.1 dL_law_223 (by decide) ?_
  refine lv_iadd S.1 S.2.1 dL_law_224 ?_
  rw [nI_1 i]
  refine va_sld S.1 S.2.1 hX hbl hbA hw.2.2 (vp_in_nI (show i + 1 < L by omega) (by omega)) dL_law_225 ?_
  obtain ⟨h1, wc1, wr1, mc1, ms1, r1, w1, fs1, hh1, hC1, he1, hp1, a1, hX1⟩ := x_pairs l hF (show i < 1000000 by omega) hXI (xs (nI (i + 1)).toNatClampNeg)
  have hroom := (hX1 (fun _ => 0)).le
  refine g_xI (As := [.int (xs (nI (i + 1)).toNatClampNeg)]) (rest := []) S hN hw hA hC1 hp1 he1 (q := (RX11, TX11, 8)) rfl (fun mc ms => cwV 1 S.2.2.2.2 gL_law_X11_pairs rfl rfl rfl (by decide +kernel) (rm_law hh1 (by decide))) rfl hl.1 rfl (lv_room (Nat.le_of_ble_eq_true rfl)) dL_law_226 ⟨by show _ ≤ 600000; omega, by show _ ≤ 7302250; omega⟩ (fun u1 H locs hw => ?_)
  have hX1 := hX1 u1
  refine lv_aload_n S.1 S.2.1 dL_law_229 rfl (lv_at hl 1 rfl) ?_
  refine lv_aload_n S.1 S.2.1 dL_law_230 rfl (lv_at hl 3 rfl) ?_
  refine lv_iload_n S.1 S.2.1 dL_law_231 rfl (lv_at hl 0 rfl) ?_
  refine lv_iconst (v := 1) S.1 S.2.1 dL_law_232 (by decide) ?_
  refine lv_iadd S.1 S.2.1 dL_law_233 ?_
  rw [nI_1 i]
  refine va_sld S.1 S.2.1 hX hbl hbA hw.2.2 (vp_in_nI (show i + 1 < L by omega) (by omega)) dL_law_234 ?_
  obtain ⟨h2, wc2, wr2, mc2, ms2, r2, w2, fs2, hh2, ⟨rfl, rfl⟩, hC2, he2, hp2, a2, hM2⟩ := m_pairs l hF hW hv hr hMI (xs (nI (i + 1)).toNatClampNeg)
  refine g_xI (As := [.int (xs (nI (i + 1)).toNatClampNeg)]) (rest := [.int r1]) S hN (hw.pm List.perm_append_comm) hA hC2 hp2 he2 (q := (RX12, TX12, 37)) rfl (fun mc ms => cwV 1 S.2.2.2.2 gL_law_X12_pairs rfl rfl rfl (by decide +kernel) (rm_law hh2 (by decide))) rfl hl.1 rfl (lv_room (Nat.le_of_ble_eq_true rfl)) dL_law_235 ⟨by show _ ≤ 600000; omega, by show _ ≤ 7302250; omega⟩ (fun u2 H locs hw => ?_)
  have hone : r1 = r2 := Ap_one a1 a2
  refine lv_icmp_eq (tgt := 589) S.1 S.2.1 dL_law_238 (by decide) (fun h9 => ?_) (fun h9 => absurd hone h9)
  exact kk _ _ _ _ _ _ _ _ _ (hX1.mono) (hM2 u2) (hw.pm List.perm_append_comm)
set_option maxRecDepth 100000 in
set_option maxHeartbeats 4000000 in
theorem law_weight {p : Program} {l : Launch} {e : Env} {s : State} {m : MethodId} {below : List Frame} {meth : Method} {c : Code} {b L : Nat} {xs : Nat → Int32} {F : Nat} (hF : 40000000 ≤ F) (S : CallFix p m c cL_law 4 s #[Value.ref b] wsL_law RL) {E : Ev} (hN : KN E s) (hX : va_X b L xs s s.heap) (hbl : b < s.heap.size) {i : Nat} (hi : i + 4 ≤ L) (hL : L ≤ 2048) {G : Gr} {rk : Nat → Nat → Int32} {o : Option Nat} {a_x a_m cells slots : Nat} {XW MW : va_W} {H : Heap} {locs : List Loc} {ls : Array Slot} {Q : State → Prop} (hXI : XI E G rk o i a_x cells slots XW) (hMI : MI E G rk o a_m MW) (hw : Wo E (fun q : Nat => s.heap.size ≤ q) s (XW ++ MW) H locs) (hl : lv_has ls 4 [(3, .int (nI i)), (2, .ref a_m), (1, .ref a_x), (0, .ref b)])
    (kk : ∀ (G' : Gr) (rk' : Nat → Nat → Int32) (o' : Option Nat) (cells' slots' : Nat) (XW' MW' : va_W) (H' : Heap) (locs' : List Loc), XI E G' rk' o' (i + 1) a_x cells' slots' XW' → MI E G' rk' o' a_m MW' → Wo E (fun q : Nat => s.heap.size ≤ q) s (XW' ++ MW') H' locs' → W p l e room_1 s m #[Value.ref b] below meth c H' locs' cells' slots' Q (F0 m 589 ls [])) : W p l e room_1 s m #[Value.ref b] below meth c H locs cells slots Q (F0 m 243 ls []) := by
  have hA : ∀ q : Nat, s.heap.size ≤ q → (fun q : Nat => s.heap.size ≤ q) q := fun _ h => h
  have hbA : ¬ (fun q : Nat => s.heap.size ≤ q) b := Nat.not_le.mpr hbl
  obtain ⟨hW, hv, hr⟩ := hXI.wf
  refine lv_aload_n S.1 S.2.1 dL_law_243 rfl (lv_at hl 2 rfl) ?_
  refine lv_aload_n S.1 S.2.1 dL_law_244 rfl (lv_at hl 3 rfl) ?_
  refine lv_iload_n S.1 S.2.1 dL_law_245 rfl (lv_at hl 0 rfl) ?_
  refine lv_iconst (v := 1) S.1 S.2.1 dL_law_246 (by decide) ?_
  refine lv_iadd S.1 S.2.1 dL_law_247 ?_
  rw [nI_1 i]
  refine va_sld S.1 S.2.1 hX hbl hbA hw.2.2 (vp_in_nI (show i + 1 < L by omega) (by omega)) dL_law_248 ?_
  obtain ⟨h1, wc1, wr1, mc1, ms1, r1, w1, fs1, hh1, hC1, he1, hp1, a1, hX1⟩ := x_weight l hF (show i < 1000000 by omega) hXI (xs (nI (i + 1)).toNatClampNeg)
  have hroom := (hX1 (fun _ => 0)).le
  refine g_xI (As := [.int (xs (nI (i + 1)).toNatClampNeg)]) (rest := []) S hN hw hA hC1 hp1 he1 (q := (RX11, TX11, 8)) rfl (fun mc ms => cwV 1 S.2.2.2.2 gL_law_X11_weight rfl rfl rfl (by decide +kernel) (rm_law hh1 (by decide))) rfl hl.1 rfl (lv_room (Nat.le_of_ble_eq_true rfl)) dL_law_249 ⟨by show _ ≤ 600000; omega, by show _ ≤ 7302250; omega⟩ (fun u1 H locs hw => ?_)
  have hX1 := hX1 u1
  refine lv_aload_n S.1 S.2.1 dL_law_252 rfl (lv_at hl 1 rfl) ?_
  refine lv_aload_n S.1 S.2.1 dL_law_253 rfl (lv_at hl 3 rfl) ?_
  refine lv_iload_n S.1 S.2.1 dL_law_254 rfl (lv_at hl 0 rfl) ?_
  refine lv_iconst (v := 1) S.1 S.2.1 dL_law_255 (by decide) ?_
  refine lv_iadd S.1 S.2.1 dL_law_256 ?_
  rw [nI_1 i]
  refine va_sld S.1 S.2.1 hX hbl hbA hw.2.2 (vp_in_nI (show i + 1 < L by omega) (by omega)) dL_law_257 ?_
  obtain ⟨h2, wc2, wr2, mc2, ms2, r2, w2, fs2, hh2, ⟨rfl, rfl⟩, hC2, he2, hp2, a2, hM2⟩ := m_weight l hF hW hv hr hMI (xs (nI (i + 1)).toNatClampNeg)
  refine g_xI (As := [.int (xs (nI (i + 1)).toNatClampNeg)]) (rest := [.int r1]) S hN (hw.pm List.perm_append_comm) hA hC2 hp2 he2 (q := (RX12, TX12, 37)) rfl (fun mc ms => cwV 1 S.2.2.2.2 gL_law_X12_weight rfl rfl rfl (by decide +kernel) (rm_law hh2 (by decide))) rfl hl.1 rfl (lv_room (Nat.le_of_ble_eq_true rfl)) dL_law_258 ⟨by show _ ≤ 600000; omega, by show _ ≤ 7302250; omega⟩ (fun u2 H locs hw => ?_)
  have hone : r1 = r2 := Ap_one a1 a2
  refine lv_icmp_eq (tgt := 589) S.1 S.2.1 dL_law_261 (by decide) (fun h9 => ?_) (fun h9 => absurd hone h9)
  exact kk _ _ _ _ _ _ _ _ _ (hX1.mono) (hM2 u2) (hw.pm List.perm_append_comm)
set_option maxRecDepth 100000 in
set_option maxHeartbeats 4000000 in
theorem law_mate {p : Program} {l : Launch} {e : Env} {s : State} {m : MethodId} {below : List Frame} {meth : Method} {c : Code} {b L : Nat} {xs : Nat → Int32} {F : Nat} (hF : 40000000 ≤ F) (S : CallFix p m c cL_law 4 s #[Value.ref b] wsL_law RL) {E : Ev} (hN : KN E s) (hX : va_X b L xs s s.heap) (hbl : b < s.heap.size) {i : Nat} (hi : i + 4 ≤ L) (hL : L ≤ 2048) {G : Gr} {rk : Nat → Nat → Int32} {o : Option Nat} {a_x a_m cells slots : Nat} {XW MW : va_W} {H : Heap} {locs : List Loc} {ls : Array Slot} {Q : State → Prop} (hXI : XI E G rk o i a_x cells slots XW) (hMI : MI E G rk o a_m MW) (hw : Wo E (fun q : Nat => s.heap.size ≤ q) s (XW ++ MW) H locs) (hl : lv_has ls 4 [(3, .int (nI i)), (2, .ref a_m), (1, .ref a_x), (0, .ref b)])
    (kk : ∀ (G' : Gr) (rk' : Nat → Nat → Int32) (o' : Option Nat) (cells' slots' : Nat) (XW' MW' : va_W) (H' : Heap) (locs' : List Loc), XI E G' rk' o' (i + 1) a_x cells' slots' XW' → MI E G' rk' o' a_m MW' → Wo E (fun q : Nat => s.heap.size ≤ q) s (XW' ++ MW') H' locs' → W p l e room_1 s m #[Value.ref b] below meth c H' locs' cells' slots' Q (F0 m 589 ls [])) : W p l e room_1 s m #[Value.ref b] below meth c H locs cells slots Q (F0 m 266 ls []) := by
  have hA : ∀ q : Nat, s.heap.size ≤ q → (fun q : Nat => s.heap.size ≤ q) q := fun _ h => h
  have hbA : ¬ (fun q : Nat => s.heap.size ≤ q) b := Nat.not_le.mpr hbl
  obtain ⟨hW, hv, hr⟩ := hXI.wf
  refine lv_aload_n S.1 S.2.1 dL_law_266 rfl (lv_at hl 2 rfl) ?_
  refine lv_aload_n S.1 S.2.1 dL_law_267 rfl (lv_at hl 3 rfl) ?_
  refine lv_iload_n S.1 S.2.1 dL_law_268 rfl (lv_at hl 0 rfl) ?_
  refine lv_iconst (v := 1) S.1 S.2.1 dL_law_269 (by decide) ?_
  refine lv_iadd S.1 S.2.1 dL_law_270 ?_
  rw [nI_1 i]
  refine va_sld S.1 S.2.1 hX hbl hbA hw.2.2 (vp_in_nI (show i + 1 < L by omega) (by omega)) dL_law_271 ?_
  refine lv_aload_n S.1 S.2.1 dL_law_272 rfl (lv_at hl 3 rfl) ?_
  refine lv_iload_n S.1 S.2.1 dL_law_273 rfl (lv_at hl 0 rfl) ?_
  refine lv_iconst (v := 2) S.1 S.2.1 dL_law_274 (by decide) ?_
  refine lv_iadd S.1 S.2.1 dL_law_275 ?_
  rw [nI_2 i]
  refine va_sld S.1 S.2.1 hX hbl hbA hw.2.2 (vp_in_nI (show i + 2 < L by omega) (by omega)) dL_law_276 ?_
  obtain ⟨h1, wc1, wr1, mc1, ms1, r1, w1, fs1, hh1, hC1, he1, hp1, a1, hX1⟩ := x_mate l hF (show i < 1000000 by omega) hXI (xs (nI (i + 1)).toNatClampNeg) (xs (nI (i + 2)).toNatClampNeg)
  have hroom := (hX1 (fun _ => 0)).le
  refine g_xI (As := [.int (xs (nI (i + 1)).toNatClampNeg), .int (xs (nI (i + 2)).toNatClampNeg)]) (rest := []) S hN hw hA hC1 hp1 he1 (q := (RX11, TX11, 8)) rfl (fun mc ms => cwV 2 S.2.2.2.2 gL_law_X11_mate rfl rfl rfl (by decide +kernel) (rm_law hh1 (by decide))) rfl hl.1 rfl (lv_room (Nat.le_of_ble_eq_true rfl)) dL_law_277 ⟨by show _ ≤ 600000; omega, by show _ ≤ 7302250; omega⟩ (fun u1 H locs hw => ?_)
  have hX1 := hX1 u1
  refine lv_aload_n S.1 S.2.1 dL_law_280 rfl (lv_at hl 1 rfl) ?_
  refine lv_aload_n S.1 S.2.1 dL_law_281 rfl (lv_at hl 3 rfl) ?_
  refine lv_iload_n S.1 S.2.1 dL_law_282 rfl (lv_at hl 0 rfl) ?_
  refine lv_iconst (v := 1) S.1 S.2.1 dL_law_283 (by decide) ?_
  refine lv_iadd S.1 S.2.1 dL_law_284 ?_
  rw [nI_1 i]
  refine va_sld S.1 S.2.1 hX hbl hbA hw.2.2 (vp_in_nI (show i + 1 < L by omega) (by omega)) dL_law_285 ?_
  refine lv_aload_n S.1 S.2.1 dL_law_286 rfl (lv_at hl 3 rfl) ?_
  refine lv_iload_n S.1 S.2.1 dL_law_287 rfl (lv_at hl 0 rfl) ?_
  refine lv_iconst (v := 2) S.1 S.2.1 dL_law_288 (by decide) ?_
  refine lv_iadd S.1 S.2.1 dL_law_289 ?_
  rw [nI_2 i]
  refine va_sld S.1 S.2.1 hX hbl hbA hw.2.2 (vp_in_nI (show i + 2 < L by omega) (by omega)) dL_law_290 ?_
  obtain ⟨h2, wc2, wr2, mc2, ms2, r2, w2, fs2, hh2, ⟨rfl, rfl⟩, hC2, he2, hp2, a2, hM2⟩ := m_mate l hF hW hv hr hMI (xs (nI (i + 1)).toNatClampNeg) (xs (nI (i + 2)).toNatClampNeg)
  refine g_xI (As := [.int (xs (nI (i + 1)).toNatClampNeg), .int (xs (nI (i + 2)).toNatClampNeg)]) (rest := [.int r1]) S hN (hw.pm List.perm_append_comm) hA hC2 hp2 he2 (q := (RX12, TX12, 37)) rfl (fun mc ms => cwV 2 S.2.2.2.2 gL_law_X12_mate rfl rfl rfl (by decide +kernel) (rm_law hh2 (by decide))) rfl hl.1 rfl (lv_room (Nat.le_of_ble_eq_true rfl)) dL_law_291 ⟨by show _ ≤ 600000; omega, by show _ ≤ 7302250; omega⟩ (fun u2 H locs hw => ?_)
  have hone : r1 = r2 := Am_one hW a1 a2
  refine lv_icmp_eq (tgt := 589) S.1 S.2.1 dL_law_294 (by decide) (fun h9 => ?_) (fun h9 => absurd hone h9)
  exact kk _ _ _ _ _ _ _ _ _ (hX1.mono) (hM2 u2) (hw.pm List.perm_append_comm)
end
