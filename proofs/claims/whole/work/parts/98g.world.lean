section
/-! ===== worlds whose order doesn't matter ===== -/
theorem pw_of {X : Type} {ws : List (Nat × X)} (h : ∀ (i j : Nat) (p q : Nat × X), ws[i]? = some p → ws[j]? = some q → p.1 = q.1 → i = j) : ws.Pairwise (fun p q => p.1 ≠ q.1) := by
  rw [List.pairwise_iff_getElem]
  intro i j hi hj hij e
  have := h i j _ _ (List.getElem?_eq_getElem hi) (List.getElem?_eq_getElem hj) e
  omega
theorem of_pw {X : Type} {ws : List (Nat × X)} (h : ws.Pairwise (fun p q => p.1 ≠ q.1)) : ∀ (i j : Nat) (p q : Nat × X), ws[i]? = some p → ws[j]? = some q → p.1 = q.1 → i = j := by
  rw [List.pairwise_iff_getElem] at h
  intro i j p q hi hj e
  obtain ⟨hi1, hi2⟩ := List.getElem?_eq_some_iff.mp hi
  obtain ⟨hj1, hj2⟩ := List.getElem?_eq_some_iff.mp hj
  rcases Nat.lt_trichotomy i j with c | c | c
  · exact absurd (by rw [hi2, hj2]; exact e) (h i j hi1 hj1 c)
  · exact c
  · exact absurd (by rw [hi2, hj2]; exact e.symm) (h j i hj1 hi1 c)
theorem pwP {X : Type} {ws ws' : List (Nat × X)} (hp : ws.Perm ws') (h : ws.Pairwise (fun p q => p.1 ≠ q.1)) : ws'.Pairwise (fun p q => p.1 ≠ q.1) :=
  (hp.pairwise_iff (fun h e => h e.symm)).mp h
theorem Wo.pm {E : Ev} {A : Nat → Prop} {s : State} {ws ws' : va_W} {H : Heap} {locs : List Loc} (h : Wo E A s ws H locs) (hp : ws.Perm ws') : Wo E A s ws' H locs := by
  obtain ⟨h1, h2, h3⟩ := h
  refine ⟨fun k q hk => ?_, ⟨of_pw (pwP hp (pw_of h2.1)), fun k q hk => ?_⟩, h3⟩
  · obtain ⟨j, hj⟩ := List.getElem?_of_mem (hp.mem_iff.mpr (List.mem_of_getElem? hk))
    exact h1 j q hj
  · obtain ⟨j, hj⟩ := List.getElem?_of_mem (hp.mem_iff.mpr (List.mem_of_getElem? hk))
    exact h2.2 j q hj
theorem nd_of : ∀ {l : List Nat}, l.Nodup → va_nd l = true
  | [], _ => rfl
  | a :: l, h => by
    rw [List.nodup_cons] at h
    simp only [va_nd, Bool.and_eq_true, decide_eq_true_eq]
    exact ⟨h.1, nd_of h.2⟩
def ix1 (n : Nat) : List Nat := List.range n
def ix2 (n k : Nat) : List Nat := (List.range k).map (fun i => i + n)
theorem rng1 {α : Type} (a b : List α) : (ix1 a.length).map (fun i => (a ++ b)[i]?) = a.map some := by
  apply List.ext_getElem?
  intro i
  unfold ix1
  rw [List.getElem?_map, List.getElem?_map]
  by_cases h : i < a.length
  · rw [List.getElem?_range h, Option.map_some, List.getElem?_append_left h, List.getElem?_eq_getElem h]; rfl
  · rw [List.getElem?_eq_none (by simp; omega), List.getElem?_eq_none (by omega)]; rfl
theorem rng2 {α : Type} (a b : List α) : (ix2 a.length b.length).map (fun i => (a ++ b)[i]?) = b.map some := by
  apply List.ext_getElem?
  intro i
  unfold ix2
  rw [List.map_map, List.getElem?_map, List.getElem?_map]
  by_cases h : i < b.length
  · rw [List.getElem?_range h, Option.map_some, List.getElem?_eq_getElem h]
    show some (a ++ b)[i + a.length]? = some (some b[i])
    rw [List.getElem?_append_right (by omega), Nat.add_sub_cancel, List.getElem?_eq_getElem h]
  · rw [List.getElem?_eq_none (by simp; omega), List.getElem?_eq_none (by omega)]; rfl
theorem ix1_nd (n : Nat) : va_nd (ix1 n) = true := nd_of List.nodup_range
theorem ix2_nd (n k : Nat) : va_nd (ix2 n k) = true := by
  apply nd_of
  unfold ix2 List.Nodup
  rw [List.pairwise_map]
  exact List.Pairwise.imp (fun h e => h (by omega)) (List.nodup_range (n := k))
theorem ix_dis (n k : Nat) : ∀ i ∈ ix2 n k, i ∉ ix1 n := by
  intro i hi h
  unfold ix2 at hi
  unfold ix1 at h
  rw [List.mem_map] at hi
  obtain ⟨j, -, e⟩ := hi
  rw [List.mem_range] at h
  omega
/-- the same cells, by their places -/
theorem pm_idx {α : Type} {ws ws' : List α} (n : Nat) (is : List Nat) (hn : ws.length = n) (hp : is.Perm (ix1 n)) (hs : is.map (fun i => ws[i]?) = ws'.map some) : ws.Perm ws' := by
  subst hn
  have h1 := hp.map (fun i => ws[i]?)
  have h2 := rng1 ws []
  rw [List.append_nil] at h2
  rw [hs, h2] at h1
  have h3 := h1.filterMap id
  rw [List.filterMap_map, List.filterMap_map] at h3
  simpa using h3.symm
/-- the same blocks -/
theorem pm_cnt {α : Type} {a b : List α} (h : ∀ [BEq α] [LawfulBEq α] (x : α), a.count x = b.count x) : a.Perm b := by
  haveI : DecidableEq α := fun x y => Classical.propDecidable (x = y)
  exact List.perm_iff_count.mpr (fun x => h x)
/-- a contract, with cells made or not -/
def CxI (l : Launch) (y : MethodName) (wy : List Cond) (E : Ev) (av : List Value) (h : Nat) (wc : va_W) (mc ms : Nat) (r : Int32) (w1 : (Nat → Nat) → va_W) : Prop :=
  (mc = 0 ∧ ms = 0 ∧ ∃ w, (∀ u, w1 u = w) ∧ CtI l y wy (Rm h) E av wc r w) ∨ CnI l y wy (Ra h mc ms) E av wc mc ms r w1
def CxL (l : Launch) (y : MethodName) (wy : List Cond) (E : Ev) (av : List Value) (h : Nat) (wc : va_W) (mc ms : Nat) (r : Int64) (w1 : (Nat → Nat) → va_W) : Prop :=
  (mc = 0 ∧ ms = 0 ∧ ∃ w, (∀ u, w1 u = w) ∧ CtL l y wy (Rm h) E av wc r w) ∨ CnL l y wy (Ra h mc ms) E av wc mc ms r w1
variable {p : Program} {l : Launch} {e : Env} {R : Room} {s : State} {m : MethodId} {args : Array Value} {below : List Frame} {meth : Method} {c : Code} {H : Heap} {locs : List Loc} {cells slots : Nat} {Q : State → Prop}
variable {cc bytes : ByteArray} {pc nL index n h maxL : Nat} {ls : Array Slot} {rest As : List Value} {Ts wy : List Cond} {own : String} {E : Ev} {A : Nat → Prop} {ws wr wc T : va_W} {b ci : Nat} {w1 : (Nat → Nat) → va_W} {mc ms : Nat} {y : MethodName} {ret : Option FieldType} {fs : List Value} {q : vw_C}
theorem g_ncalll {pc : Nat} {st0 : List Value} {av : Array Value} {r : Int64} (hr : va_Run p l e R s m args below meth c H locs cells slots mc ms (F0 m pc ls st0) rest (va_Ql (fun r' (_ : Nat → Nat) => r' = r) (Bn E w1 wc H.size) (va_A wc H.size) av) (va_A wc H.size)) (hw : Wo E A s ws H locs) (hA : ∀ q, s.heap.size ≤ q → A q) (isC isR : List Nat) (hC : isC.map (fun i => ws[i]?) = wc.map some) (hR : isR.map (fun i => ws[i]?) = wr.map some) (hn : va_nd isR = true) (hdis : ∀ i ∈ isR, i ∉ isC)
    (kk : ∀ (u : Nat → Nat) (H1 : Heap) (locs1 : List Loc), Wo E A s (wr ++ w1 u) H1 locs1 → W p l e R s m args below meth c H1 locs1 (cells + mc) (slots + ms) Q (F0 m (pc + 3) ls (.long r :: rest))) : W p l e R s m args below meth c H locs cells slots Q (F0 m pc ls st0) := by
  have hF := va_free (wc := wc) hw.2.1 hw.2.2 hA isC hC
  refine va_calll hr hw.2.2 (fun q _ h => hF q h) hF (fun r' u t H1 locs1 ht hvm hp hB hz hk hS => ?_)
  subst hp
  obtain ⟨b1, b2⟩ := hB
  rw [ht] at b1
  obtain ⟨j1, j2⟩ := va_join (wr := wr) (w1 := w1 u) hw.1 hw.2.1 isC isR hC hR hn hdis hk hF b1 b2
  exact kk u H1 locs1 ⟨j1, j2, hS⟩
theorem xw1 {ws wc wr T : va_W} (hp : ws.Perm (wc ++ wr)) : (ws ++ T).Perm (wc ++ (wr ++ T)) := by
  rw [← List.append_assoc]
  exact hp.append_right T
theorem xw2 {wr T w1 : va_W} : ((wr ++ T) ++ w1).Perm ((wr ++ w1) ++ T) := by
  refine pm_cnt (fun x => ?_)
  simp only [List.count_append]
  omega
theorem g_xI {r : Int32} (S : CallFix p m c cc nL s args Ts own) (hN : KN E s) (hw : Wo E A s (ws ++ T) H locs) (hA : ∀ q, s.heap.size ≤ q → A q) (hC : CxI l y wy E (.ref b :: As) h wc mc ms r w1) (hp : ws.Perm (wc ++ wr)) (he : wc[0]? = some (b, .inr (ci, fs))) (hc : vwCl[ci]? = some q) (cw : ∀ mc ms, CallW R s args own q.1 index y bytes maxL ret wy (Ra h mc ms) mc ms n) (hn : As.length = n) (hsize : ls.size = nL) {st0 : List Value} (hst : st0 = As.reverse ++ .ref b :: rest) (hW : 2 * (F0 m pc ls st0).monitorRoom + (rest.map fun v => v.category).sum ≤ 8) (hdg : decode cc pc = .ok (.invokevirtual index, 3)) (hf : cells + mc ≤ R.cells ∧ slots + ms ≤ R.slots)
    (kk : ∀ (u : Nat → Nat) (H1 : Heap) (locs1 : List Loc), Wo E A s ((wr ++ w1 u) ++ T) H1 locs1 → W p l e R s m args below meth c H1 locs1 (cells + mc) (slots + ms) Q (F0 m (pc + 3) ls (.int r :: rest))) : W p l e R s m args below meth c H locs cells slots Q (F0 m pc ls st0) := by
  have hw2 : Wo E A s (wc ++ (wr ++ T)) H locs := hw.pm (xw1 hp)
  rcases hC with ⟨rfl, rfl, w, hw1, hC⟩ | hC
  · refine g_calli (r := r) (wc := wc) (wr := wr ++ T) (w1 := w) (va_runV (As := As) (rest := rest) S (hC _) (cw 0 0) (preV (q := q) hN hw2 (ix1 wc.length) (ix1_nd _) (rng1 _ _) he hc) rfl hn hsize hst hW hdg hf) hw2 hA (ix1 wc.length) (ix2 wc.length (wr ++ T).length) (rng1 _ _) (rng2 _ _) (ix2_nd _ _) (ix_dis _ _) (fun H1 locs1 hw3 => ?_)
    have hk := kk (fun _ => 0) H1 locs1 (by rw [hw1]; exact hw3.pm xw2)
    exact hk
  · exact g_ncalli (r := r) (wc := wc) (wr := wr ++ T) (w1 := w1) (va_runV (As := As) (rest := rest) S (hC _) (cw mc ms) (preV (q := q) hN hw2 (ix1 wc.length) (ix1_nd _) (rng1 _ _) he hc) rfl hn hsize hst hW hdg hf) hw2 hA (ix1 wc.length) (ix2 wc.length (wr ++ T).length) (rng1 _ _) (rng2 _ _) (ix2_nd _ _) (ix_dis _ _) (fun u H1 locs1 hw3 => kk u H1 locs1 (hw3.pm xw2))
theorem g_xL {r : Int64} (S : CallFix p m c cc nL s args Ts own) (hN : KN E s) (hw : Wo E A s (ws ++ T) H locs) (hA : ∀ q, s.heap.size ≤ q → A q) (hC : CxL l y wy E (.ref b :: As) h wc mc ms r w1) (hp : ws.Perm (wc ++ wr)) (he : wc[0]? = some (b, .inr (ci, fs))) (hc : vwCl[ci]? = some q) (cw : ∀ mc ms, CallW R s args own q.1 index y bytes maxL ret wy (Ra h mc ms) mc ms n) (hn : As.length = n) (hsize : ls.size = nL) {st0 : List Value} (hst : st0 = As.reverse ++ .ref b :: rest) (hW : 2 * (F0 m pc ls st0).monitorRoom + (rest.map fun v => v.category).sum ≤ 8) (hdg : decode cc pc = .ok (.invokevirtual index, 3)) (hf : cells + mc ≤ R.cells ∧ slots + ms ≤ R.slots)
    (kk : ∀ (u : Nat → Nat) (H1 : Heap) (locs1 : List Loc), Wo E A s ((wr ++ w1 u) ++ T) H1 locs1 → W p l e R s m args below meth c H1 locs1 (cells + mc) (slots + ms) Q (F0 m (pc + 3) ls (.long r :: rest))) : W p l e R s m args below meth c H locs cells slots Q (F0 m pc ls st0) := by
  have hw2 : Wo E A s (wc ++ (wr ++ T)) H locs := hw.pm (xw1 hp)
  rcases hC with ⟨rfl, rfl, w, hw1, hC⟩ | hC
  · refine g_calll (r := r) (wc := wc) (wr := wr ++ T) (w1 := w) (va_runV (As := As) (rest := rest) S (hC _) (cw 0 0) (preV (q := q) hN hw2 (ix1 wc.length) (ix1_nd _) (rng1 _ _) he hc) rfl hn hsize hst hW hdg hf) hw2 hA (ix1 wc.length) (ix2 wc.length (wr ++ T).length) (rng1 _ _) (rng2 _ _) (ix2_nd _ _) (ix_dis _ _) (fun H1 locs1 hw3 => ?_)
    have hk := kk (fun _ => 0) H1 locs1 (by rw [hw1]; exact hw3.pm xw2)
    exact hk
  · exact g_ncalll (r := r) (wc := wc) (wr := wr ++ T) (w1 := w1) (va_runV (As := As) (rest := rest) S (hC _) (cw mc ms) (preV (q := q) hN hw2 (ix1 wc.length) (ix1_nd _) (rng1 _ _) he hc) rfl hn hsize hst hW hdg hf) hw2 hA (ix1 wc.length) (ix2 wc.length (wr ++ T).length) (rng1 _ _) (rng2 _ _) (ix2_nd _ _) (ix_dis _ _) (fun u H1 locs1 hw3 => kk u H1 locs1 (hw3.pm xw2))
end
