/-! ===== contracts of methods that make cells: their number and slots are told, their addresses are u 0, u 1, .. ===== -/
def Bn (E : Ev) (w1 : (Nat → Nat) → va_W) (ws : va_W) (sz : Nat) : (Nat → Nat) → State → Prop := fun u t => va_P E.1 vwCl (w1 u) t.heap ∧ va_D (va_A ws sz) (w1 u)
def CnI (l : Launch) (y : MethodName) (wy : List Cond) (rm : Room) (E : Ev) (av : List Value) (ws : va_W) (mc ms : Nat) (r : Int32) (w1 : (Nat → Nat) → va_W) : Prop :=
  ∀ sz : Nat, Met l y wy rm (Prq E av ws sz) (va_Qi (fun r' (_ : Nat → Nat) => r' = r) (Bn E w1 ws sz) (va_A ws sz)) mc ms (va_A ws sz)
def CnL (l : Launch) (y : MethodName) (wy : List Cond) (rm : Room) (E : Ev) (av : List Value) (ws : va_W) (mc ms : Nat) (r : Int64) (w1 : (Nat → Nat) → va_W) : Prop :=
  ∀ sz : Nat, Met l y wy rm (Prq E av ws sz) (va_Ql (fun r' (_ : Nat → Nat) => r' = r) (Bn E w1 ws sz) (va_A ws sz)) mc ms (va_A ws sz)
def CnV (l : Launch) (y : MethodName) (wy : List Cond) (rm : Room) (E : Ev) (av : List Value) (ws : va_W) (mc ms : Nat) (w1 : (Nat → Nat) → va_W) : Prop :=
  ∀ sz : Nat, Met l y wy rm (Prq E av ws sz) (va_Qv (fun (_ : Nat → Nat) => True) (Bn E w1 ws sz) (va_A ws sz)) mc ms (va_A ws sz)
def CnR (l : Launch) (y : MethodName) (wy : List Cond) (rm : Room) (E : Ev) (av : List Value) (ws : va_W) (mc ms : Nat) (ra : (Nat → Nat) → Nat) (w1 : (Nat → Nat) → va_W) : Prop :=
  ∀ sz : Nat, Met l y wy rm (Prq E av ws sz) (va_Qr (fun (_ : Nat → Nat) => True) (fun u a t => a = ra u ∧ Bn E w1 ws sz u t) (va_A ws sz)) mc ms (va_A ws sz)
theorem onI {l : Launch} {y : MethodName} {wy wy' : List Cond} {rm : Room} {E : Ev} {av : List Value} {ws : va_W} {w1 : (Nat → Nat) → va_W} {mc ms : Nat} {r : Int32} {cc : ByteArray} {maxL : Nat} {own : String} (hy : plainName y.cls = true) (hwy : wy = Cond.code y cc maxL (some .int) :: wy') (hown : y.cls = own)
    (body : ∀ (p : Program) (e : Env) (s : State) (m : MethodId) (below : List Frame) (meth : Method) (c : Code) (A : Nat → Prop) (ls : Array Slot) (Q : State → Prop), CallFix p m c cc maxL s av.toArray wy own → meth.name = y.name → KN E s → Wo E A s ws s.heap [] → (∀ q, s.heap.size ≤ q → A q) → (∀ l : List (Nat × Value), lv_has (lg_sl av ++ List.replicate (maxL - (lg_sl av).length) Slot.unset).toArray maxL l → lv_has ls maxL l) →
      (∀ (u : Nat → Nat) (H : Heap) (locs : List Loc) (pc : Nat) (ls : Array Slot), Wo E A s (w1 u) H locs → decode cc pc = .ok (.ireturn, 1) → W p l e rm s m av.toArray below meth c H locs mc ms Q (F0 m pc ls [.int r])) →
      W p l e rm s m av.toArray below meth c s.heap [] 0 0 Q (F0 m 0 ls [])) : CnI l y wy rm E av ws mc ms r w1 := by
  intro sz
  refine Met.ofW (cc := cc) (maxL := maxL) (ret := (some .int)) hy hwy ?_
  intro p e s m args below meth c s₁ B hml hv
  obtain ⟨rfl, hsz, hP, hK, hD0⟩ := hv
  subst hsz
  have hD := hD0.self (sz := s.heap.size)
  have hts := atoms_spec (ws := wy) B.pre
  have hlocks := B.notSynchronized
  rw [lg_entry_eq]
  refine body p e s m below meth c (va_A ws s.heap.size) _ _ ⟨B.exec, B.bytes, hml, by rw [← hown]; exact findClass_of_methodNamed B.named, hts⟩ (name_of_methodNamed B.named B.method).1 hK ⟨hP, hD, va_S.rf⟩ (fun q h => Or.inr h) (fun _ h => h) (fun u H locs pc ls hw hdg => ?_)
  exact W.iret (v := r) B.exec B.bytes B.returns (fun t ht hW => ⟨⟨r, u, rfl, rfl, by rw [ht]; exact hw.1, hw.2.1⟩, hw.2.2.F ht⟩) hw.2.2.2.2 hdg hlocks
theorem onL {l : Launch} {y : MethodName} {wy wy' : List Cond} {rm : Room} {E : Ev} {av : List Value} {ws : va_W} {w1 : (Nat → Nat) → va_W} {mc ms : Nat} {r : Int64} {cc : ByteArray} {maxL : Nat} {own : String} (hy : plainName y.cls = true) (hwy : wy = Cond.code y cc maxL (some .long) :: wy') (hown : y.cls = own)
    (body : ∀ (p : Program) (e : Env) (s : State) (m : MethodId) (below : List Frame) (meth : Method) (c : Code) (A : Nat → Prop) (ls : Array Slot) (Q : State → Prop), CallFix p m c cc maxL s av.toArray wy own → meth.name = y.name → KN E s → Wo E A s ws s.heap [] → (∀ q, s.heap.size ≤ q → A q) → (∀ l : List (Nat × Value), lv_has (lg_sl av ++ List.replicate (maxL - (lg_sl av).length) Slot.unset).toArray maxL l → lv_has ls maxL l) →
      (∀ (u : Nat → Nat) (H : Heap) (locs : List Loc) (pc : Nat) (ls : Array Slot), Wo E A s (w1 u) H locs → decode cc pc = .ok (.lreturn, 1) → W p l e rm s m av.toArray below meth c H locs mc ms Q (F0 m pc ls [.long r])) →
      W p l e rm s m av.toArray below meth c s.heap [] 0 0 Q (F0 m 0 ls [])) : CnL l y wy rm E av ws mc ms r w1 := by
  intro sz
  refine Met.ofW (cc := cc) (maxL := maxL) (ret := (some .long)) hy hwy ?_
  intro p e s m args below meth c s₁ B hml hv
  obtain ⟨rfl, hsz, hP, hK, hD0⟩ := hv
  subst hsz
  have hD := hD0.self (sz := s.heap.size)
  have hts := atoms_spec (ws := wy) B.pre
  have hlocks := B.notSynchronized
  rw [lg_entry_eq]
  refine body p e s m below meth c (va_A ws s.heap.size) _ _ ⟨B.exec, B.bytes, hml, by rw [← hown]; exact findClass_of_methodNamed B.named, hts⟩ (name_of_methodNamed B.named B.method).1 hK ⟨hP, hD, va_S.rf⟩ (fun q h => Or.inr h) (fun _ h => h) (fun u H locs pc ls hw hdg => ?_)
  exact W.lret (v := r) B.exec B.bytes B.returns (fun t ht hW => ⟨⟨r, u, rfl, rfl, by rw [ht]; exact hw.1, hw.2.1⟩, hw.2.2.F ht⟩) hw.2.2.2.2 hdg hlocks
theorem onV {l : Launch} {y : MethodName} {wy wy' : List Cond} {rm : Room} {E : Ev} {av : List Value} {ws : va_W} {w1 : (Nat → Nat) → va_W} {mc ms : Nat} {cc : ByteArray} {maxL : Nat} {own : String} (hy : plainName y.cls = true) (hwy : wy = Cond.code y cc maxL none :: wy') (hown : y.cls = own)
    (body : ∀ (p : Program) (e : Env) (s : State) (m : MethodId) (below : List Frame) (meth : Method) (c : Code) (A : Nat → Prop) (ls : Array Slot) (Q : State → Prop), CallFix p m c cc maxL s av.toArray wy own → meth.name = y.name → KN E s → Wo E A s ws s.heap [] → (∀ q, s.heap.size ≤ q → A q) → (∀ l : List (Nat × Value), lv_has (lg_sl av ++ List.replicate (maxL - (lg_sl av).length) Slot.unset).toArray maxL l → lv_has ls maxL l) →
      (∀ (u : Nat → Nat) (H : Heap) (locs : List Loc) (pc : Nat) (ls : Array Slot), Wo E A s (w1 u) H locs → decode cc pc = .ok (.return_, 1) → W p l e rm s m av.toArray below meth c H locs mc ms Q (F0 m pc ls [])) →
      W p l e rm s m av.toArray below meth c s.heap [] 0 0 Q (F0 m 0 ls [])) : CnV l y wy rm E av ws mc ms w1 := by
  intro sz
  refine Met.ofW (cc := cc) (maxL := maxL) (ret := none) hy hwy ?_
  intro p e s m args below meth c s₁ B hml hv
  obtain ⟨rfl, hsz, hP, hK, hD0⟩ := hv
  subst hsz
  have hD := hD0.self (sz := s.heap.size)
  have hts := atoms_spec (ws := wy) B.pre
  have hlocks := B.notSynchronized
  rw [lg_entry_eq]
  refine body p e s m below meth c (va_A ws s.heap.size) _ _ ⟨B.exec, B.bytes, hml, by rw [← hown]; exact findClass_of_methodNamed B.named, hts⟩ (name_of_methodNamed B.named B.method).1 hK ⟨hP, hD, va_S.rf⟩ (fun q h => Or.inr h) (fun _ h => h) (fun u H locs pc ls hw hdg => ?_)
  exact W.vret B.exec B.bytes B.returns (fun t ht hW => ⟨⟨u, rfl, trivial, by rw [ht]; exact hw.1, hw.2.1⟩, hw.2.2.F ht⟩) hw.2.2.2.2 hdg hlocks
theorem onR {l : Launch} {y : MethodName} {wy wy' : List Cond} {rm : Room} {E : Ev} {av : List Value} {ws : va_W} {w1 : (Nat → Nat) → va_W} {mc ms : Nat} {ra : (Nat → Nat) → Nat} {rC : String} {cc : ByteArray} {maxL : Nat} {own : String} (hy : plainName y.cls = true) (hwy : wy = Cond.code y cc maxL (some (.object rC)) :: wy') (hown : y.cls = own)
    (body : ∀ (p : Program) (e : Env) (s : State) (m : MethodId) (below : List Frame) (meth : Method) (c : Code) (A : Nat → Prop) (ls : Array Slot) (Q : State → Prop), CallFix p m c cc maxL s av.toArray wy own → meth.name = y.name → KN E s → Wo E A s ws s.heap [] → (∀ q, s.heap.size ≤ q → A q) → (∀ l : List (Nat × Value), lv_has (lg_sl av ++ List.replicate (maxL - (lg_sl av).length) Slot.unset).toArray maxL l → lv_has ls maxL l) →
      (∀ (u : Nat → Nat) (H : Heap) (locs : List Loc) (pc : Nat) (ls : Array Slot), Wo E A s (w1 u) H locs → decode cc pc = .ok (.areturn, 1) → W p l e rm s m av.toArray below meth c H locs mc ms Q (F0 m pc ls [.ref (ra u)])) →
      W p l e rm s m av.toArray below meth c s.heap [] 0 0 Q (F0 m 0 ls [])) : CnR l y wy rm E av ws mc ms ra w1 := by
  intro sz
  refine Met.ofW (cc := cc) (maxL := maxL) (ret := (some (.object rC))) hy hwy ?_
  intro p e s m args below meth c s₁ B hml hv
  obtain ⟨rfl, hsz, hP, hK, hD0⟩ := hv
  subst hsz
  have hD := hD0.self (sz := s.heap.size)
  have hts := atoms_spec (ws := wy) B.pre
  have hlocks := B.notSynchronized
  rw [lg_entry_eq]
  refine body p e s m below meth c (va_A ws s.heap.size) _ _ ⟨B.exec, B.bytes, hml, by rw [← hown]; exact findClass_of_methodNamed B.named, hts⟩ (name_of_methodNamed B.named B.method).1 hK ⟨hP, hD, va_S.rf⟩ (fun q h => Or.inr h) (fun _ h => h) (fun u H locs pc ls hw hdg => ?_)
  exact W.aret (v := .ref (ra u)) B.exec B.bytes B.returns (Or.inl ⟨_, rfl⟩) (Or.inr ⟨_, rfl⟩) (fun t ht hW => ⟨⟨u, ra u, rfl, trivial, rfl, by rw [ht]; exact hw.1, hw.2.1⟩, hw.2.2.F ht⟩) hw.2.2.2.2 hdg hlocks
section GN
variable {p : Program} {l : Launch} {e : Env} {R : Room} {s : State} {m : MethodId} {args : Array Value} {below : List Frame} {meth : Method} {c : Code} {H : Heap} {locs : List Loc} {cells slots : Nat} {Q : State → Prop}
variable {cc : ByteArray} {pc nL : Nat} {ls : Array Slot} {rest st0 : List Value} {Ts : List Cond} {own : String} {E : Ev} {A : Nat → Prop} {ws wr wc : va_W} {a : Nat} {w1 : (Nat → Nat) → va_W} {mc ms : Nat}
theorem g_ncalli {av : Array Value} {r : Int32} (hr : va_Run p l e R s m args below meth c H locs cells slots mc ms (F0 m pc ls st0) rest (va_Qi (fun r' (_ : Nat → Nat) => r' = r) (Bn E w1 wc H.size) (va_A wc H.size) av) (va_A wc H.size)) (hw : Wo E A s ws H locs) (hA : ∀ q, s.heap.size ≤ q → A q) (isC isR : List Nat) (hC : isC.map (fun i => ws[i]?) = wc.map some) (hR : isR.map (fun i => ws[i]?) = wr.map some) (hn : va_nd isR = true) (hdis : ∀ i ∈ isR, i ∉ isC)
    (kk : ∀ (u : Nat → Nat) (H1 : Heap) (locs1 : List Loc), Wo E A s (wr ++ w1 u) H1 locs1 → W p l e R s m args below meth c H1 locs1 (cells + mc) (slots + ms) Q (F0 m (pc + 3) ls (.int r :: rest))) : W p l e R s m args below meth c H locs cells slots Q (F0 m pc ls st0) := by
  have hF := va_free (wc := wc) hw.2.1 hw.2.2 hA isC hC
  refine va_calli hr hw.2.2 (fun q _ h => hF q h) hF (fun r' u t H1 locs1 ht hvm hp hB hz hk hS => ?_)
  subst hp
  obtain ⟨b1, b2⟩ := hB
  rw [ht] at b1
  obtain ⟨j1, j2⟩ := va_join (wr := wr) (w1 := w1 u) hw.1 hw.2.1 isC isR hC hR hn hdis hk hF b1 b2
  exact kk u H1 locs1 ⟨j1, j2, hS⟩
theorem g_ncallv {av : Array Value} (hr : va_Run p l e R s m args below meth c H locs cells slots mc ms (F0 m pc ls st0) rest (va_Qv (fun (_ : Nat → Nat) => True) (Bn E w1 wc H.size) (va_A wc H.size) av) (va_A wc H.size)) (hw : Wo E A s ws H locs) (hA : ∀ q, s.heap.size ≤ q → A q) (isC isR : List Nat) (hC : isC.map (fun i => ws[i]?) = wc.map some) (hR : isR.map (fun i => ws[i]?) = wr.map some) (hn : va_nd isR = true) (hdis : ∀ i ∈ isR, i ∉ isC)
    (kk : ∀ (u : Nat → Nat) (H1 : Heap) (locs1 : List Loc), Wo E A s (wr ++ w1 u) H1 locs1 → W p l e R s m args below meth c H1 locs1 (cells + mc) (slots + ms) Q (F0 m (pc + 3) ls rest)) : W p l e R s m args below meth c H locs cells slots Q (F0 m pc ls st0) := by
  have hF := va_free (wc := wc) hw.2.1 hw.2.2 hA isC hC
  refine va_callv hr hw.2.2 (fun q _ h => hF q h) hF (fun u t H1 locs1 ht hvm hp hB hz hk hS => ?_)
  obtain ⟨b1, b2⟩ := hB
  rw [ht] at b1
  obtain ⟨j1, j2⟩ := va_join (wr := wr) (w1 := w1 u) hw.1 hw.2.1 isC isR hC hR hn hdis hk hF b1 b2
  exact kk u H1 locs1 ⟨j1, j2, hS⟩
theorem g_ncallr {av : Array Value} {ra : (Nat → Nat) → Nat} (hr : va_Run p l e R s m args below meth c H locs cells slots mc ms (F0 m pc ls st0) rest (va_Qr (fun (_ : Nat → Nat) => True) (fun u a t => a = ra u ∧ Bn E w1 wc H.size u t) (va_A wc H.size) av) (va_A wc H.size)) (hw : Wo E A s ws H locs) (hA : ∀ q, s.heap.size ≤ q → A q) (isC isR : List Nat) (hC : isC.map (fun i => ws[i]?) = wc.map some) (hR : isR.map (fun i => ws[i]?) = wr.map some) (hn : va_nd isR = true) (hdis : ∀ i ∈ isR, i ∉ isC)
    (kk : ∀ (u : Nat → Nat) (H1 : Heap) (locs1 : List Loc), Wo E A s (wr ++ w1 u) H1 locs1 → W p l e R s m args below meth c H1 locs1 (cells + mc) (slots + ms) Q (F0 m (pc + 3) ls (.ref (ra u) :: rest))) : W p l e R s m args below meth c H locs cells slots Q (F0 m pc ls st0) := by
  have hF := va_free (wc := wc) hw.2.1 hw.2.2 hA isC hC
  refine va_callr hr hw.2.2 (fun q _ h => hF q h) hF (fun u b t H1 locs1 ht hvm hp hB hz hk hS => ?_)
  obtain ⟨b0, b1, b2⟩ := hB
  subst b0
  rw [ht] at b1
  obtain ⟨j1, j2⟩ := va_join (wr := wr) (w1 := w1 u) hw.1 hw.2.1 isC isR hC hR hn hdis hk hF b1 b2
  exact kk u H1 locs1 ⟨j1, j2, hS⟩
theorem g_new {C : String} {T : u_T} {N ci index : Nat} {fs : List Value} (S : CallFix p m c cc nL s args Ts own) (hN : KN E s) (hw : Wo E A s ws H locs) (hA : ∀ q, s.heap.size ≤ q → A q) (hin : ∀ w ∈ u_ws C T N, w ∈ Ts) (ty : Nat → FieldType) (hty : ∀ k, k < N → parseFieldDescriptor (T k).2.2.1 = some (ty k)) (hcl : (Cond.classLink own index C).before args s = true) (hinst : (Cond.instantiable C N).before args s = true) (hini : (Cond.initialized C).before args s = true) (hc : vwCl[ci]? = some (C, T, N)) (hfs : ∀ j, j < N → defaultValue (ty j) = vp_V fs j) (hcells : cells + 1 ≤ R.cells) (hslots : slots + N ≤ R.slots) (hdg : decode cc pc = .ok (.new index, 3))
    (kk : ∀ (q : Nat) (H1 : Heap), Wo E A s (ws ++ [(q, .inr (ci, fs))]) H1 locs → W p l e R s m args below meth c H1 locs (cells + 1) (slots + N) Q (F0 m (pc + 3) ls (.ref q :: rest))) : W p l e R s m args below meth c H locs cells slots Q (F0 m pc ls rest) :=
  va_new S.1 S.2.1 S.2.2.2.2 hin ty hty S.2.2.2.1 hcl hinst hini hN.1 hw.1 hw.2.1 hw.2.2 hA hc hfs hcells hslots hdg (fun q H1 x1 x2 x3 => kk q H1 ⟨x1, x2, x3⟩)
theorem g_newaI {n : Int32} {N : Nat} (S : CallFix p m c cc nL s args Ts own) (hN : KN E s) (hw : Wo E A s ws H locs) (hA : ∀ q, s.heap.size ≤ q → A q) (harr : (Cond.arrayClass .int).before args s = true) (hn : ¬ n < 0) (hNn : n.toNatClampNeg = N) (hb : N * componentBytes .int ≤ 536870912) (hcells : cells + 1 ≤ R.cells) (hslots : slots + N ≤ R.slots) (hdg : decode cc pc = .ok (.newarray .int, 2))
    (kk : ∀ (q : Nat) (H1 : Heap), Wo E A s (ws ++ [aI E q N (fun _ => 0)]) H1 locs → W p l e R s m args below meth c H1 locs (cells + 1) (slots + N) Q (F0 m (pc + 2) ls (.ref q :: rest))) : W p l e R s m args below meth c H locs cells slots Q (F0 m pc ls (.int n :: rest)) := by
  refine va_newa (atype := .int) (ty := .int) (a0 := (N, .inl (fun _ => 0))) S.1 S.2.1 harr rfl hN.1 hw.1 hw.2.1 hw.2.2 hA (fun _ => rfl) hn hNn hb hcells hslots hdg (fun q cA H1 hK x1 x2 x3 => ?_)
  have h1 := (hK.2 4 _ rfl).2
  have h2 := (hN.1.2 0 _ rfl).2
  have h3 : cA = E.2.1 := Option.some.inj (h1.symm.trans h2)
  subst h3
  exact kk q H1 ⟨x1, x2, x3⟩
theorem g_newaJ {n : Int32} {N : Nat} (S : CallFix p m c cc nL s args Ts own) (hN : KN E s) (hw : Wo E A s ws H locs) (hA : ∀ q, s.heap.size ≤ q → A q) (harr : (Cond.arrayClass .long).before args s = true) (hn : ¬ n < 0) (hNn : n.toNatClampNeg = N) (hb : N * componentBytes .long ≤ 536870912) (hcells : cells + 1 ≤ R.cells) (hslots : slots + N ≤ R.slots) (hdg : decode cc pc = .ok (.newarray .long, 2))
    (kk : ∀ (q : Nat) (H1 : Heap), Wo E A s (ws ++ [aJ E q N (fun _ => 0)]) H1 locs → W p l e R s m args below meth c H1 locs (cells + 1) (slots + N) Q (F0 m (pc + 2) ls (.ref q :: rest))) : W p l e R s m args below meth c H locs cells slots Q (F0 m pc ls (.int n :: rest)) := by
  refine va_newa (atype := .long) (ty := .long) (a0 := (N, .inr (.inl (fun _ => 0)))) S.1 S.2.1 harr rfl hN.1 hw.1 hw.2.1 hw.2.2 hA (fun _ => rfl) hn hNn hb hcells hslots hdg (fun q cA H1 hK x1 x2 x3 => ?_)
  have h1 := (hK.2 4 _ rfl).2
  have h2 := (hN.1.2 1 _ rfl).2
  have h3 : cA = E.2.2.1 := Option.some.inj (h1.symm.trans h2)
  subst h3
  exact kk q H1 ⟨x1, x2, x3⟩
theorem g_newaZ {n : Int32} {N : Nat} (S : CallFix p m c cc nL s args Ts own) (hN : KN E s) (hw : Wo E A s ws H locs) (hA : ∀ q, s.heap.size ≤ q → A q) (harr : (Cond.arrayClass .boolean).before args s = true) (hn : ¬ n < 0) (hNn : n.toNatClampNeg = N) (hb : N * componentBytes .boolean ≤ 536870912) (hcells : cells + 1 ≤ R.cells) (hslots : slots + N ≤ R.slots) (hdg : decode cc pc = .ok (.newarray .boolean, 2))
    (kk : ∀ (q : Nat) (H1 : Heap), Wo E A s (ws ++ [aZ E q N (fun _ => 0)]) H1 locs → W p l e R s m args below meth c H1 locs (cells + 1) (slots + N) Q (F0 m (pc + 2) ls (.ref q :: rest))) : W p l e R s m args below meth c H locs cells slots Q (F0 m pc ls (.int n :: rest)) := by
  refine va_newa (atype := .boolean) (ty := .boolean) (a0 := (N, .inl (fun _ => 0))) S.1 S.2.1 harr rfl hN.1 hw.1 hw.2.1 hw.2.2 hA (fun _ => rfl) hn hNn hb hcells hslots hdg (fun q cA H1 hK x1 x2 x3 => ?_)
  have h1 := (hK.2 4 _ rfl).2
  have h2 := (hN.1.2 2 _ rfl).2
  have h3 : cA = E.2.2.2.1 := Option.some.inj (h1.symm.trans h2)
  subst h3
  exact kk q H1 ⟨x1, x2, x3⟩
theorem g_newaB {n : Int32} {N : Nat} (S : CallFix p m c cc nL s args Ts own) (hN : KN E s) (hw : Wo E A s ws H locs) (hA : ∀ q, s.heap.size ≤ q → A q) (harr : (Cond.arrayClass .byte).before args s = true) (hn : ¬ n < 0) (hNn : n.toNatClampNeg = N) (hb : N * componentBytes .byte ≤ 536870912) (hcells : cells + 1 ≤ R.cells) (hslots : slots + N ≤ R.slots) (hdg : decode cc pc = .ok (.newarray .byte, 2))
    (kk : ∀ (q : Nat) (H1 : Heap), Wo E A s (ws ++ [aB E q N (fun _ => 0)]) H1 locs → W p l e R s m args below meth c H1 locs (cells + 1) (slots + N) Q (F0 m (pc + 2) ls (.ref q :: rest))) : W p l e R s m args below meth c H locs cells slots Q (F0 m pc ls (.int n :: rest)) := by
  refine va_newa (atype := .byte) (ty := .byte) (a0 := (N, .inl (fun _ => 0))) S.1 S.2.1 harr rfl hN.1 hw.1 hw.2.1 hw.2.2 hA (fun _ => rfl) hn hNn hb hcells hslots hdg (fun q cA H1 hK x1 x2 x3 => ?_)
  have h1 := (hK.2 4 _ rfl).2
  have h2 := (hN.1.2 3 _ rfl).2
  have h3 : cA = E.2.2.2.2 := Option.some.inj (h1.symm.trans h2)
  subst h3
  exact kk q H1 ⟨x1, x2, x3⟩
end GN
