section
theorem sw_out20 {x : Int32} (h0 : ¬ x = 0) (h1 : ¬ x = 1) (h2 : ¬ x = 2) (h3 : ¬ x = 3) (h4 : ¬ x = 4) (h5 : ¬ x = 5) (h6 : ¬ x = 6) (h7 : ¬ x = 7) (h8 : ¬ x = 8) (h9 : ¬ x = 9) (h10 : ¬ x = 10) (h11 : ¬ x = 11) (h12 : ¬ x = 12) (h13 : ¬ x = 13) (h14 : ¬ x = 14) (h15 : ¬ x = 15) (h16 : ¬ x = 16) (h17 : ¬ x = 17) (h18 : ¬ x = 18) (h19 : ¬ x = 19) : x.toInt < 0 ∨ 19 < x.toInt := by
  have e : ∀ k : Int32, x.toInt = k.toInt → x = k := fun k h => Int32.toInt_inj.mp h
  have a0 : ¬ x.toInt = 0 := fun h => h0 (e 0 h)
  have a1 : ¬ x.toInt = 1 := fun h => h1 (e 1 h)
  have a2 : ¬ x.toInt = 2 := fun h => h2 (e 2 h)
  have a3 : ¬ x.toInt = 3 := fun h => h3 (e 3 h)
  have a4 : ¬ x.toInt = 4 := fun h => h4 (e 4 h)
  have a5 : ¬ x.toInt = 5 := fun h => h5 (e 5 h)
  have a6 : ¬ x.toInt = 6 := fun h => h6 (e 6 h)
  have a7 : ¬ x.toInt = 7 := fun h => h7 (e 7 h)
  have a8 : ¬ x.toInt = 8 := fun h => h8 (e 8 h)
  have a9 : ¬ x.toInt = 9 := fun h => h9 (e 9 h)
  have a10 : ¬ x.toInt = 10 := fun h => h10 (e 10 h)
  have a11 : ¬ x.toInt = 11 := fun h => h11 (e 11 h)
  have a12 : ¬ x.toInt = 12 := fun h => h12 (e 12 h)
  have a13 : ¬ x.toInt = 13 := fun h => h13 (e 13 h)
  have a14 : ¬ x.toInt = 14 := fun h => h14 (e 14 h)
  have a15 : ¬ x.toInt = 15 := fun h => h15 (e 15 h)
  have a16 : ¬ x.toInt = 16 := fun h => h16 (e 16 h)
  have a17 : ¬ x.toInt = 17 := fun h => h17 (e 17 h)
  have a18 : ¬ x.toInt = 18 := fun h => h18 (e 18 h)
  have a19 : ¬ x.toInt = 19 := fun h => h19 (e 19 h)
  omega
theorem sub4_lt {L i : Nat} (hL : L ≤ 2048) (hi : i ≤ L) (q : L < i + 4) : Int32.ofNat L - 4 < nI i := by
  rw [Int32.lt_iff_toInt_lt]
  have e1 : (nI i).toInt = i := Int32.toInt_ofNat_of_lt (by omega)
  have e2 : (Int32.ofNat L).toInt = L := Int32.toInt_ofNat_of_lt (by omega)
  rw [Int32.toInt_sub, e1, e2, show (4 : Int32).toInt = 4 by decide]
  rw [Int.bmod_def]
  omega
set_option maxRecDepth 100000 in
set_option maxHeartbeats 4000000 in
theorem law_loop {p : Program} {l : Launch} {e : Env} {s : State} {m : MethodId} {below : List Frame} {meth : Method} {c : Code} {b L : Nat} {xs : Nat → Int32} {F : Nat} (hF : 40000000 ≤ F) (S : CallFix p m c cL_law 4 s #[Value.ref b] wsL_law RL) {E : Ev} (hN : KN E s) (hX : va_X b L xs s s.heap) (hbl : b < s.heap.size) (hL : L ≤ 2048) (hrt : meth.sig.returnType = ret) (hlocks : meth.locks = false) {a_x a_m : Nat} :
    ∀ (n i : Nat), L + 1 ≤ i + n → i ≤ L → ∀ (G : Gr) (rk : Nat → Nat → Int32) (o : Option Nat) (cells slots : Nat) (XW MW : va_W) (H : Heap) (locs : List Loc), XI E G rk o i a_x cells slots XW → MI E G rk o a_m MW → Wo E (fun q : Nat => s.heap.size ≤ q) s (XW ++ MW) H locs → ∀ (ls : Array Slot), lv_has ls 4 [(3, .int (nI i)), (2, .ref a_m), (1, .ref a_x), (0, .ref b)] → W p l e room_1 s m #[Value.ref b] below meth c H locs cells slots (lw_Z below #[Value.ref b] s) (F0 m 18 ls []) := by
  have hbA : ¬ (fun q : Nat => s.heap.size ≤ q) b := Nat.not_le.mpr hbl
  intro n
  induction n with
  | zero =>
    intro i h1 h2
    exact absurd h1 (by omega)
  | succ n ih =>
    intro i h1 h2 G rk o cells slots XW MW H locs hXI hMI hw ls hl
    refine lv_iload_n S.1 S.2.1 dL_law_18 rfl (lv_at hl 0 rfl) ?_
    refine lv_aload_n S.1 S.2.1 dL_law_19 rfl (lv_at hl 3 rfl) ?_
    refine va_slen S.1 S.2.1 hX hbl hbA hw.2.2 dL_law_20 ?_
    refine lv_iconst (v := 4) S.1 S.2.1 dL_law_21 (by decide) ?_
    refine lv_isub S.1 S.2.1 dL_law_22 ?_
    refine lv_icmp_gt (tgt := 595) S.1 S.2.1 dL_law_23 (by decide) (fun c0 => ?_) (fun c0 => ?_)
    · have hroom := hXI.le
      refine lv_iconst (v := 1) S.1 S.2.1 dL_law_595 (by decide) ?_
      refine va_forget (fun q hq => hw.2.2.2.2 q hq) ?_
      refine W.widen (k := 600000) (n := 7302250) (by omega) (by omega) ?_
      exact lw_ret S.1 S.2.1 hrt hlocks dL_law_596
    · have hi4 : i + 4 ≤ L := by
        rcases Nat.lt_or_ge L (i + 4) with q | q
        · exact absurd (sub4_lt hL h2 q) c0
        · exact q
      have k589 : ∀ (G' : Gr) (rk' : Nat → Nat → Int32) (o' : Option Nat) (cells' slots' : Nat) (XW' MW' : va_W) (H' : Heap) (locs' : List Loc), XI E G' rk' o' (i + 1) a_x cells' slots' XW' → MI E G' rk' o' a_m MW' → Wo E (fun q : Nat => s.heap.size ≤ q) s (XW' ++ MW') H' locs' → W p l e room_1 s m #[Value.ref b] below meth c H' locs' cells' slots' (lw_Z below #[Value.ref b] s) (F0 m 589 ls []) := by
        intro G' rk' o' cells' slots' XW' MW' H' locs' hXI' hMI' hw'
        refine lv_iinc (v := nI (i + 4)) (lv' := [(3, .int (nI (i + 4))), (2, .ref a_m), (1, .ref a_x), (0, .ref b)]) S.1 S.2.1 dL_law_589 hl (k := 0) rfl (nI_4 i) (by decide) rfl (fun ls hl => ?_)
        refine lv_goto (tgt := 18) S.1 S.2.1 dL_law_592 (by decide) ?_
        exact ih (i + 4) (by omega) hi4 _ _ _ _ _ _ _ _ _ hXI'.mono.mono.mono hMI' hw' ls hl
      refine lv_aload_n S.1 S.2.1 dL_law_26 rfl (lv_at hl 3 rfl) ?_
      refine lv_iload_n S.1 S.2.1 dL_law_27 rfl (lv_at hl 0 rfl) ?_
      refine va_sld S.1 S.2.1 hX hbl hbA hw.2.2 (vp_in_nI (show i < L by omega) (by omega)) dL_law_28 ?_
      refine lv_bipush (v := 31) S.1 S.2.1 dL_law_29 (by decide) ?_
      refine lv_iand S.1 S.2.1 dL_law_31 ?_
      refine lv_topi (fun t et => ?_)
      by_cases t0 : t = 0
      · refine lv_tableIn (tgt := 128) S.1 S.2.1 dL_law_32 (by rw [t0]; decide) (by rw [t0]; decide) (by rw [t0]; rfl) (by decide) ?_
        exact law_node hF S hN hX hbl hi4 hL hXI hMI hw hl k589
      by_cases t1 : t = 1
      · refine lv_tableIn (tgt := 141) S.1 S.2.1 dL_law_32 (by rw [t1]; decide) (by rw [t1]; decide) (by rw [t1]; rfl) (by decide) ?_
        exact law_arc hF S hN hX hbl hi4 hL hXI hMI hw hl k589
      by_cases t2 : t = 2
      · refine lv_tableIn (tgt := 184) S.1 S.2.1 dL_law_32 (by rw [t2]; decide) (by rw [t2]; decide) (by rw [t2]; rfl) (by decide) ?_
        exact law_cut hF S hN hX hbl hi4 hL hXI hMI hw hl k589
      by_cases t3 : t = 3
      · refine lv_tableIn (tgt := 207) S.1 S.2.1 dL_law_32 (by rw [t3]; decide) (by rw [t3]; decide) (by rw [t3]; rfl) (by decide) ?_
        exact law_clear hF S hN hX hbl hi4 hL hXI hMI hw hl k589
      by_cases t4 : t = 4
      · refine lv_tableIn (tgt := 220) S.1 S.2.1 dL_law_32 (by rw [t4]; decide) (by rw [t4]; decide) (by rw [t4]; rfl) (by decide) ?_
        exact law_pairs hF S hN hX hbl hi4 hL hXI hMI hw hl k589
      by_cases t5 : t = 5
      · refine lv_tableIn (tgt := 243) S.1 S.2.1 dL_law_32 (by rw [t5]; decide) (by rw [t5]; decide) (by rw [t5]; rfl) (by decide) ?_
        exact law_weight hF S hN hX hbl hi4 hL hXI hMI hw hl k589
      by_cases t6 : t = 6
      · refine lv_tableIn (tgt := 266) S.1 S.2.1 dL_law_32 (by rw [t6]; decide) (by rw [t6]; decide) (by rw [t6]; rfl) (by decide) ?_
        exact law_mate hF S hN hX hbl hi4 hL hXI hMI hw hl k589
      by_cases t7 : t = 7
      · refine lv_tableIn (tgt := 299) S.1 S.2.1 dL_law_32 (by rw [t7]; decide) (by rw [t7]; decide) (by rw [t7]; rfl) (by decide) ?_
        exact law_sort hF S hN hX hbl hi4 hL hXI hMI hw hl k589
      by_cases t8 : t = 8
      · refine lv_tableIn (tgt := 322) S.1 S.2.1 dL_law_32 (by rw [t8]; decide) (by rw [t8]; decide) (by rw [t8]; rfl) (by decide) ?_
        exact law_piece hF S hN hX hbl hi4 hL hXI hMI hw hl k589
      by_cases t9 : t = 9
      · refine lv_tableIn (tgt := 345) S.1 S.2.1 dL_law_32 (by rw [t9]; decide) (by rw [t9]; decide) (by rw [t9]; rfl) (by decide) ?_
        exact law_shape hF S hN hX hbl hi4 hL hXI hMI hw hl k589
      by_cases t10 : t = 10
      · refine lv_tableIn (tgt := 368) S.1 S.2.1 dL_law_32 (by rw [t10]; decide) (by rw [t10]; decide) (by rw [t10]; rfl) (by decide) ?_
        exact law_count hF S hN hX hbl hi4 hL hXI hMI hw hl k589
      by_cases t11 : t = 11
      · refine lv_tableIn (tgt := 392) S.1 S.2.1 dL_law_32 (by rw [t11]; decide) (by rw [t11]; decide) (by rw [t11]; rfl) (by decide) ?_
        exact law_cover hF S hN hX hbl hi4 hL hXI hMI hw hl k589
      by_cases t12 : t = 12
      · refine lv_tableIn (tgt := 405) S.1 S.2.1 dL_law_32 (by rw [t12]; decide) (by rw [t12]; decide) (by rw [t12]; rfl) (by decide) ?_
        exact law_coverArc hF S hN hX hbl hi4 hL hXI hMI hw hl k589
      by_cases t13 : t = 13
      · refine lv_tableIn (tgt := 428) S.1 S.2.1 dL_law_32 (by rw [t13]; decide) (by rw [t13]; decide) (by rw [t13]; rfl) (by decide) ?_
        exact law_hold hF S hN hX hbl hi4 hL hXI hMI hw hl k589
      by_cases t14 : t = 14
      · refine lv_tableIn (tgt := 441) S.1 S.2.1 dL_law_32 (by rw [t14]; decide) (by rw [t14]; decide) (by rw [t14]; rfl) (by decide) ?_
        exact law_holdNode hF S hN hX hbl hi4 hL hXI hMI hw hl k589
      by_cases t15 : t = 15
      · refine lv_tableIn (tgt := 464) S.1 S.2.1 dL_law_32 (by rw [t15]; decide) (by rw [t15]; decide) (by rw [t15]; rfl) (by decide) ?_
        exact law_join hF S hN hX hbl hi4 hL hXI hMI hw hl k589
      by_cases t16 : t = 16
      · refine lv_tableIn (tgt := 487) S.1 S.2.1 dL_law_32 (by rw [t16]; decide) (by rw [t16]; decide) (by rw [t16]; rfl) (by decide) ?_
        exact law_joinArc hF S hN hX hbl hi4 hL hXI hMI hw hl k589
      by_cases t17 : t = 17
      · refine lv_tableIn (tgt := 510) S.1 S.2.1 dL_law_32 (by rw [t17]; decide) (by rw [t17]; decide) (by rw [t17]; rfl) (by decide) ?_
        exact law_rank hF S hN hX hbl hi4 hL hXI hMI hw hl k589
      by_cases t18 : t = 18
      · refine lv_tableIn (tgt := 553) S.1 S.2.1 dL_law_32 (by rw [t18]; decide) (by rw [t18]; decide) (by rw [t18]; rfl) (by decide) ?_
        exact law_stable hF S hN hX hbl hi4 hL hXI hMI hw hl k589
      by_cases t19 : t = 19
      · refine lv_tableIn (tgt := 566) S.1 S.2.1 dL_law_32 (by rw [t19]; decide) (by rw [t19]; decide) (by rw [t19]; rfl) (by decide) ?_
        exact law_stableMate hF S hN hX hbl hi4 hL hXI hMI hw hl k589
      refine lv_tableOut (tgt := 589) S.1 S.2.1 dL_law_32 (sw_out20 t0 t1 t2 t3 t4 t5 t6 t7 t8 t9 t10 t11 t12 t13 t14 t15 t16 t17 t18 t19) (by decide) ?_
      exact k589 _ _ _ _ _ _ _ _ _ hXI.mono hMI hw
end
