/-! the environment of the walks: class numbers, array classes; the shape of a contract; rows around the kit's rows -/
abbrev Ev : Type := va_G × (ClassId × ClassId × ClassId × ClassId)
abbrev eT (E : Ev) : List (ClassId × FieldType) := [(E.2.1, .int), (E.2.2.1, .long), (E.2.2.2.1, .boolean), (E.2.2.2.2, .byte)]
abbrev aI (E : Ev) (a n : Nat) (f : Nat → Int32) : Nat × va_E := (a, .inl (E.2.1, n, .inl f))
abbrev aJ (E : Ev) (a n : Nat) (f : Nat → Int64) : Nat × va_E := (a, .inl (E.2.2.1, n, .inr (.inl f)))
abbrev aZ (E : Ev) (a n : Nat) (f : Nat → Int32) : Nat × va_E := (a, .inl (E.2.2.2.1, n, .inl f))
abbrev aB (E : Ev) (a n : Nat) (f : Nat → Int32) : Nat × va_E := (a, .inl (E.2.2.2.2, n, .inl f))
abbrev oC (a ci : Nat) (fs : List Value) : Nat × va_E := (a, .inr (ci, fs))
def nestW : List Cond := [
  .methodLinkNest "PairMatching" 11 ⟨"PairMatching$Graph", "<init>", "()V"⟩ "PairMatching",
  .fieldLinkNest "PairMatching" 23 "PairMatching$Graph" "nodes" "I" "PairMatching",
  .fieldLinkNest "PairMatching$Stables" 51 "PairMatching$Graph" "nodes" "I" "PairMatching",
  .fieldLinkNest "PairMatching$Parts" 26 "PairMatching$Graph" "nodes" "I" "PairMatching",
  .fieldLinkNest "PairMatching$Sorts" 74 "PairMatching$Graph" "nodes" "I" "PairMatching",
  .fieldLinkNest "PairMatching$Joins" 96 "PairMatching$Graph" "nodes" "I" "PairMatching",
  .fieldLinkNest "PairMatching$Stables" 79 "PairMatching$Graph" "made" "I" "PairMatching",
  .fieldLinkNest "PairMatching" 35 "PairMatching$Graph" "made" "I" "PairMatching",
  .fieldLinkNest "PairMatching$Counts" 51 "PairMatching$Graph" "made" "I" "PairMatching",
  .fieldLinkNest "PairMatching$Joins" 72 "PairMatching$Graph" "made" "I" "PairMatching",
  .fieldLinkNest "PairMatching$Ways" 82 "PairMatching$Graph" "made" "I" "PairMatching",
  .fieldLinkNest "PairMatching" 49 "PairMatching$Graph" "living" "I" "PairMatching",
  .fieldLinkNest "PairMatching$Ways" 37 "PairMatching$Graph" "age" "I" "PairMatching",
  .fieldLinkNest "PairMatching$Sorts" 35 "PairMatching$Graph" "age" "I" "PairMatching",
  .fieldLinkNest "PairMatching$Counts" 32 "PairMatching$Graph" "age" "I" "PairMatching",
  .fieldLinkNest "PairMatching$Holds" 23 "PairMatching$Graph" "age" "I" "PairMatching",
  .fieldLinkNest "PairMatching$Joins" 30 "PairMatching$Graph" "age" "I" "PairMatching",
  .fieldLinkNest "PairMatching$Stables" 40 "PairMatching$Graph" "age" "I" "PairMatching",
  .fieldLinkNest "PairMatching$Stables" 86 "PairMatching$Graph" "oneEnd" "[I" "PairMatching",
  .fieldLinkNest "PairMatching$Counts" 58 "PairMatching$Graph" "oneEnd" "[I" "PairMatching",
  .fieldLinkNest "PairMatching$Joins" 82 "PairMatching$Graph" "oneEnd" "[I" "PairMatching",
  .fieldLinkNest "PairMatching$Ways" 95 "PairMatching$Graph" "oneEnd" "[I" "PairMatching",
  .fieldLinkNest "PairMatching$Stables" 89 "PairMatching$Graph" "otherEnd" "[I" "PairMatching",
  .fieldLinkNest "PairMatching$Counts" 61 "PairMatching$Graph" "otherEnd" "[I" "PairMatching",
  .fieldLinkNest "PairMatching$Joins" 85 "PairMatching$Graph" "otherEnd" "[I" "PairMatching",
  .fieldLinkNest "PairMatching$Ways" 98 "PairMatching$Graph" "otherEnd" "[I" "PairMatching",
  .fieldLinkNest "PairMatching$Joins" 79 "PairMatching$Graph" "weights" "[I" "PairMatching",
  .fieldLinkNest "PairMatching$Ways" 88 "PairMatching$Graph" "weights" "[I" "PairMatching",
  .fieldLinkNest "PairMatching$Stables" 82 "PairMatching$Graph" "alive" "[Z" "PairMatching",
  .fieldLinkNest "PairMatching$Counts" 54 "PairMatching$Graph" "alive" "[Z" "PairMatching",
  .fieldLinkNest "PairMatching$Joins" 75 "PairMatching$Graph" "alive" "[Z" "PairMatching",
  .fieldLinkNest "PairMatching$Ways" 85 "PairMatching$Graph" "alive" "[Z" "PairMatching",
  .fieldLinkNest "PairMatching$Ways" 48 "PairMatching$Graph" "joined" "[I" "PairMatching",
  .fieldLinkNest "PairMatching$Holds" 26 "PairMatching$Graph" "joined" "[I" "PairMatching",
  .fieldLinkNest "PairMatching$Stables" 109 "PairMatching$Graph" "joined" "[I" "PairMatching",
  .fieldLinkNest "PairMatching$Parts" 53 "PairMatching$Graph" "joined" "[I" "PairMatching",
  .fieldLinkNest "PairMatching$Sorts" 104 "PairMatching$Graph" "joined" "[I" "PairMatching",
  .fieldLinkNest "PairMatching$Stables" 45 "PairMatching$Ranks" "age" "I" "PairMatching",
  .fieldLinkNest "PairMatching$Stables" 106 "PairMatching$Ranks" "given" "[I" "PairMatching",
  .methodLinkNest "PairMatching$Ways" 11 ⟨"PairMatching$Chooser", "<init>", "()V"⟩ "PairMatching",
  .methodLinkNest "PairMatching$Chooser" 11 ⟨"PairMatching$Rests", "<init>", "()V"⟩ "PairMatching",
  .fieldLinkNest "PairMatching$Sorts" 66 "PairMatching$Rests" "sets" "[I" "PairMatching",
  .fieldLinkNest "PairMatching$Chooser" 50 "PairMatching$Rests" "sets" "[I" "PairMatching",
  .fieldLinkNest "PairMatching$Counts" 68 "PairMatching$Rests" "sets" "[I" "PairMatching",
  .fieldLinkNest "PairMatching$Sorts" 91 "PairMatching$Rests" "later" "[I" "PairMatching",
  .fieldLinkNest "PairMatching$Counts" 85 "PairMatching$Rests" "later" "[I" "PairMatching",
  .fieldLinkNest "PairMatching$Chooser" 75 "PairMatching$Rests" "later" "[I" "PairMatching",
  .fieldLinkNest "PairMatching$Sorts" 88 "PairMatching$Rests" "laters" "[I" "PairMatching",
  .fieldLinkNest "PairMatching$Counts" 82 "PairMatching$Rests" "laters" "[I" "PairMatching",
  .fieldLinkNest "PairMatching$Chooser" 72 "PairMatching$Rests" "laters" "[I" "PairMatching",
  .fieldLinkNest "PairMatching$Counts" 38 "PairMatching$Rests" "amount" "I" "PairMatching",
  .fieldLinkNest "PairMatching$Sorts" 63 "PairMatching$Rests" "amount" "I" "PairMatching",
  .fieldLinkNest "PairMatching$Chooser" 46 "PairMatching$Rests" "amount" "I" "PairMatching",
  .fieldLinkNest "PairMatching$Ways" 40 "PairMatching$Chooser" "rests" "LPairMatching$Rests;" "PairMatching",
  .fieldLinkNest "PairMatching$Joins" 43 "PairMatching$Chooser" "rests" "LPairMatching$Rests;" "PairMatching",
  .fieldLinkNest "PairMatching" 218 "PairMatching$Chooser" "rests" "LPairMatching$Rests;" "PairMatching",
  .fieldLinkNest "PairMatching$Joins" 99 "PairMatching$Chooser" "gain" "[I" "PairMatching",
  .fieldLinkNest "PairMatching$Joins" 114 "PairMatching$Chooser" "mark" "[J" "PairMatching",
  .fieldLinkNest "PairMatching" 214 "PairMatching$Ways" "chooser" "LPairMatching$Chooser;" "PairMatching",
  .methodLinkNest "PairMatching$Rests" 43 ⟨"PairMatching", "has", "(II)Z"⟩ "PairMatching",
  .methodLinkNest "PairMatching$Rests" 47 ⟨"PairMatching", "cell", "(II)I"⟩ "PairMatching",
  .methodLinkNest "PairMatching$Rests" 55 ⟨"PairMatching", "leastNode", "(I)I"⟩ "PairMatching",
  .methodLinkNest "PairMatching$Ways" 101 ⟨"PairMatching", "markOf", "(I)J"⟩ "PairMatching",
  .methodLinkNest "PairMatching$Chooser" 42 ⟨"PairMatching", "cell", "(II)I"⟩ "PairMatching",
  .methodLinkNest "PairMatching$Chooser" 57 ⟨"PairMatching", "leastNode", "(I)I"⟩ "PairMatching",
  .methodLinkNest "PairMatching$Chooser" 78 ⟨"PairMatching", "has", "(II)Z"⟩ "PairMatching",
  .methodLinkNest "PairMatching$Graph" 51 ⟨"PairMatching", "markOf", "(I)J"⟩ "PairMatching",
  .methodLinkNest "PairMatching$Sorts" 11 ⟨"PairMatching$Parts", "<init>", "()V"⟩ "PairMatching",
  .fieldLinkNest "PairMatching" 124 "PairMatching$Parts" "amount" "I" "PairMatching",
  .fieldLinkNest "PairMatching" 111 "PairMatching$Parts" "odd" "I" "PairMatching",
  .fieldLinkNest "PairMatching" 120 "PairMatching$Parts" "twoSided" "Z" "PairMatching",
  .fieldLinkNest "PairMatching" 95 "PairMatching$Sorts" "pieces" "LPairMatching$Parts;" "PairMatching",
  .fieldLinkNest "PairMatching" 117 "PairMatching$Sorts" "whole" "LPairMatching$Parts;" "PairMatching",
  .fieldLinkNest "PairMatching" 104 "PairMatching$Sorts" "besides" "I" "PairMatching",
  .fieldLinkNest "PairMatching" 114 "PairMatching$Sorts" "uncovered" "I" "PairMatching",
  .methodLinkNest "PairMatching$Sorts" 81 ⟨"PairMatching", "leastNode", "(I)I"⟩ "PairMatching",
  .methodLinkNest "PairMatching$Sorts" 94 ⟨"PairMatching", "cell", "(II)I"⟩ "PairMatching",
  .methodLinkNest "PairMatching$Sorts" 59 ⟨"PairMatching", "has", "(II)Z"⟩ "PairMatching",
  .methodLinkNest "PairMatching$Parts" 31 ⟨"PairMatching", "has", "(II)Z"⟩ "PairMatching",
  .methodLinkNest "PairMatching$Counts" 64 ⟨"PairMatching", "cell", "(II)I"⟩ "PairMatching",
  .methodLinkNest "PairMatching$Counts" 71 ⟨"PairMatching", "leastNode", "(I)I"⟩ "PairMatching",
  .methodLinkNest "PairMatching$Counts" 88 ⟨"PairMatching", "has", "(II)Z"⟩ "PairMatching",
  .fieldLinkNest "PairMatching" 145 "PairMatching$Holds" "chosen" "I" "PairMatching",
  .methodLinkNest "PairMatching$Holds" 61 ⟨"PairMatching", "has", "(II)Z"⟩ "PairMatching",
  .methodLinkNest "PairMatching$Joins" 11 ⟨"PairMatching$Chooser", "<init>", "()V"⟩ "PairMatching",
  .fieldLinkNest "PairMatching" 165 "PairMatching$Joins" "told" "J" "PairMatching",
  .fieldLinkNest "PairMatching" 176 "PairMatching$Joins" "isTold" "Z" "PairMatching",
  .methodLinkNest "PairMatching$Joins" 88 ⟨"PairMatching", "markOf", "(I)J"⟩ "PairMatching",
  .methodLinkNest "PairMatching$Joins" 102 ⟨"PairMatching", "cell", "(II)I"⟩ "PairMatching",
  .methodLinkNest "PairMatching$Ranks" 25 ⟨"PairMatching", "cell", "(II)I"⟩ "PairMatching",
  .fieldLinkNest "PairMatching" 186 "PairMatching$Stables" "total" "I" "PairMatching",
  .fieldLinkNest "PairMatching" 191 "PairMatching$Stables" "first" "J" "PairMatching",
  .methodLinkNest "PairMatching$Stables" 92 ⟨"PairMatching", "cell", "(II)I"⟩ "PairMatching",
  .methodLinkNest "PairMatching$Stables" 96 ⟨"PairMatching", "markOf", "(I)J"⟩ "PairMatching",
  .methodLinkNest "PairMatching$Stables" 112 ⟨"PairMatching", "has", "(II)Z"⟩ "PairMatching",
  .methodLinkNest "PairMatching$Stables" 120 ⟨"PairMatching", "leastNode", "(I)I"⟩ "PairMatching"]
def isNest (w : Cond) : Bool := match w with
  | .fieldLinkNest .. => true
  | .methodLinkNest .. => true
  | _ => false
theorem nestW_ok : ∀ w ∈ nestW, isNest w = true := by decide +kernel
theorem nest_warm {w : Cond} (h : isNest w = true) {s U : State} (hW : s.WarmedH U.vm) (hZ : va_Nw w s) : va_Nw w U := by
  cases w <;> first | exact va_Nw.warmF hW hZ | exact va_Nw.warmM hW hZ | (simp [isNest] at h)
theorem nest_same {w : Cond} (h : isNest w = true) {s U : State} (hv : s.vm = U.vm) (hZ : va_Nw w s) : va_Nw w U := by
  cases w <;> first | exact va_Nw.same rfl hv hZ | (simp [isNest] at h)
def KN (E : Ev) (U : State) : Prop := va_K E.1 vwCl (eT E) U ∧ ∀ w ∈ nestW, va_Nw w U
theorem KN.warm {E : Ev} {s U : State} (h : KN E s) (hW : s.WarmedH U.vm) : KN E U := ⟨va_K.moved hW.alike h.1, fun w hw => nest_warm (nestW_ok w hw) hW (h.2 w hw)⟩
theorem KN.same {E : Ev} {s U : State} (h : KN E s) (hv : s.vm = U.vm) : KN E U := ⟨va_K.moved (by rw [hv]; exact Vm.Alike.refl _) h.1, fun w hw => nest_same (nestW_ok w hw) hv (h.2 w hw)⟩
theorem fm_of {α : Type} {ws w : List α} {is : List Nat} (h : is.map (fun i => ws[i]?) = w.map some) : is.filterMap (fun i => ws[i]?) = w := by
  have e : is.filterMap (fun i => ws[i]?) = (is.map (fun i => ws[i]?)).filterMap id := by rw [List.filterMap_map]; rfl
  rw [e, h, List.filterMap_map]
  simp
/-- the world of a walk -/
def Wo (E : Ev) (A : Nat → Prop) (s : State) (ws : va_W) (H : Heap) (locs : List Loc) : Prop := va_P E.1 vwCl ws H ∧ va_D A ws ∧ va_S A s.heap H locs
theorem Wo.sub {E : Ev} {A : Nat → Prop} {s : State} {ws ws' : va_W} {H : Heap} {locs : List Loc} (h : Wo E A s ws H locs) (is : List Nat) (hn : va_nd is = true) (hs : is.map (fun i => ws[i]?) = ws'.map some) : Wo E A s ws' H locs :=
  ⟨h.1.sub is (fm_of hs), h.2.1.sub is hn hs, h.2.2⟩
/-- a contract's start and its ends: int, long, nothing, a reference; the answer and the world behind it are told -/
def Prq (E : Ev) (av : List Value) (ws : va_W) (sz : Nat) : Array Value → State → Prop := va_Pc av (fun U => U.heap.size = sz ∧ va_P E.1 vwCl ws U.heap ∧ KN E U ∧ va_D (fun _ => True) ws)
def Bq (E : Ev) (w1 : va_W) (ws : va_W) (sz : Nat) : Unit → State → Prop := fun _ t => va_P E.1 vwCl w1 t.heap ∧ va_D (va_A ws sz) w1
def CtI (l : Launch) (y : MethodName) (wy : List Cond) (rm : Room) (E : Ev) (av : List Value) (ws : va_W) (r : Int32) (w1 : va_W) : Prop :=
  ∀ sz : Nat, Met l y wy rm (Prq E av ws sz) (va_Qi (fun r' (_ : Unit) => r' = r) (Bq E w1 ws sz) (va_A ws sz)) 0 0 (va_A ws sz)
def CtL (l : Launch) (y : MethodName) (wy : List Cond) (rm : Room) (E : Ev) (av : List Value) (ws : va_W) (r : Int64) (w1 : va_W) : Prop :=
  ∀ sz : Nat, Met l y wy rm (Prq E av ws sz) (va_Ql (fun r' (_ : Unit) => r' = r) (Bq E w1 ws sz) (va_A ws sz)) 0 0 (va_A ws sz)
def CtV (l : Launch) (y : MethodName) (wy : List Cond) (rm : Room) (E : Ev) (av : List Value) (ws : va_W) (w1 : va_W) : Prop :=
  ∀ sz : Nat, Met l y wy rm (Prq E av ws sz) (va_Qv (fun (_ : Unit) => True) (Bq E w1 ws sz) (va_A ws sz)) 0 0 (va_A ws sz)
theorem Prq.blind {E : Ev} {av : List Value} {ws : va_W} {sz : Nat} : FrameBlind (Prq E av ws sz) := fun a U g mk q => by
  obtain ⟨q0, q1, qP, qK, qD⟩ := q
  exact ⟨q0, q1, qP, qK.same rfl, qD⟩
theorem preS {E : Ev} {A : Nat → Prop} {s : State} {ws wc : va_W} {H : Heap} {locs : List Loc} {av : List Value} (hN : KN E s) (hw : Wo E A s ws H locs) (isC : List Nat) (hn : va_nd isC = true) (hC : isC.map (fun i => ws[i]?) = wc.map some) : PreS s H (Prq E av wc H.size) av :=
  ⟨Prq.blind, fun U hU hW => ⟨rfl, by rw [hU], by rw [hU]; exact hw.1.sub isC (fm_of hC), hN.warm hW, (hw.2.1.sub isC hn hC).weaken (fun _ _ _ _ => trivial)⟩⟩
theorem preV {E : Ev} {A : Nat → Prop} {s : State} {ws wc : va_W} {H : Heap} {locs : List Loc} {av : List Value} {b ci : Nat} {fs : List Value} {q : vw_C} (hN : KN E s) (hw : Wo E A s ws H locs) (isC : List Nat) (hn : va_nd isC = true) (hC : isC.map (fun i => ws[i]?) = wc.map some) (he : wc[0]? = some (b, .inr (ci, fs))) (hc : vwCl[ci]? = some q) : PreV s H q.1 b (Prq E (.ref b :: av) wc H.size) av :=
  ⟨Prq.blind, va_recv hN.1 (hw.1.sub isC (fm_of hC)) hc he, fun U hU hW => ⟨rfl, by rw [hU], by rw [hU]; exact hw.1.sub isC (fm_of hC), hN.warm hW, (hw.2.1.sub isC hn hC).weaken (fun _ _ _ _ => trivial)⟩⟩
section GW
variable {p : Program} {l : Launch} {e : Env} {R : Room} {s : State} {m : MethodId} {args : Array Value} {below : List Frame} {meth : Method} {c : Code} {H : Heap} {locs : List Loc} {cells slots : Nat} {Q : State → Prop}
variable {cc : ByteArray} {pc nL : Nat} {ls : Array Slot} {rest st0 : List Value} {Ts : List Cond} {own : String} {E : Ev} {A : Nat → Prop} {ws w1 wr wc : va_W} {a : Nat}
theorem g_get {C : String} {T : u_T} {N ci index : Nat} {fs : List Value} {v : Value} (S : CallFix p m c cc nL s args Ts own) (hN : KN E s) (hw : Wo E A s ws H locs) (q0 k : Nat) (hin : ∀ w ∈ u_ws C T N, w ∈ Ts) (hlink : (Cond.fieldLink own index (T k).1 (T k).2.1 (T k).2.2.1).before args s = true) (hdg : decode cc pc = .ok (.getfield index, 3)) (he : ws[q0]? = some (a, .inr (ci, fs))) (hc : vwCl[ci]? = some (C, T, N)) (hk : k < N) (hv : fs[k]? = some v)
    (kk : W p l e R s m args below meth c H locs cells slots Q (F0 m (pc + 3) ls (v :: rest))) : W p l e R s m args below meth c H locs cells slots Q (F0 m pc ls (.ref a :: rest)) :=
  va_get S.1 S.2.1 S.2.2.2.2 hin S.2.2.2.1 hN.1 hw.1 q0 he hc k hk hlink (fun _ h => h) hv hdg kk
theorem g_getN {C host : String} {T : u_T} {N ci index : Nat} {fs : List Value} {v : Value} (S : CallFix p m c cc nL s args Ts own) (hN : KN E s) (hw : Wo E A s ws H locs) (q0 k : Nat) (hin : ∀ w ∈ u_ws C T N, w ∈ Ts) (hlink : Cond.fieldLinkNest own index (T k).1 (T k).2.1 (T k).2.2.1 host ∈ nestW) (hdg : decode cc pc = .ok (.getfield index, 3)) (he : ws[q0]? = some (a, .inr (ci, fs))) (hc : vwCl[ci]? = some (C, T, N)) (hk : k < N) (hv : fs[k]? = some v)
    (kk : W p l e R s m args below meth c H locs cells slots Q (F0 m (pc + 3) ls (v :: rest))) : W p l e R s m args below meth c H locs cells slots Q (F0 m pc ls (.ref a :: rest)) :=
  va_getN S.1 S.2.1 S.2.2.2.2 hin S.2.2.2.1 hN.1 hw.1 q0 he hc k hk ((hN.2 _ hlink).use rfl) (fun _ h => h) hv hdg kk
theorem g_put {C : String} {T : u_T} {N ci index : Nat} {fs : List Value} {v : Value} {ty : FieldType} (S : CallFix p m c cc nL s args Ts own) (hN : KN E s) (hw : Wo E A s ws H locs) (q0 k : Nat) (hin : ∀ w ∈ u_ws C T N, w ∈ Ts) (hlink : (Cond.fieldLink own index (T k).1 (T k).2.1 (T k).2.2.1).before args s = true) (ty0 : Nat → FieldType) (hty : ∀ k, k < N → parseFieldDescriptor (T k).2.2.1 = some (ty0 k)) (hnm : ∀ a, a < N → ∀ b, b < N → a ≠ b → (T a).2.1 ≠ (T b).2.1) (hdg : decode cc pc = .ok (.putfield index, 3)) (he : ws[q0]? = some (a, .inr (ci, fs))) (hc : vwCl[ci]? = some (C, T, N)) (hk : k < N) (hfin : (T k).2.2.2 = false) (hd : parseFieldDescriptor (T k).2.2.1 = some ty) (hn : narrow ty v = v) (hfit : fits ty v = true) (hl : k < fs.length) (h1 : ws.set q0 (a, .inr (ci, fs.set k v)) = w1)
    (kk : ∀ (H1 : Heap) (locs1 : List Loc), Wo E A s w1 H1 locs1 → W p l e R s m args below meth c H1 locs1 cells slots Q (F0 m (pc + 3) ls rest)) : W p l e R s m args below meth c H locs cells slots Q (F0 m pc ls (v :: .ref a :: rest)) := by
  subst h1
  exact va_put S.1 S.2.1 S.2.2.2.2 hin ty0 hty hnm S.2.2.2.1 hN.1 hw.1 hw.2.1 hw.2.2 q0 he hc k hk hlink (fun _ h => h) hfin hd hn hfit hl hdg (fun H1 l1 x1 x2 x3 => kk H1 l1 ⟨x1, x2, x3⟩)
theorem g_putF {C : String} {T : u_T} {N ci index : Nat} {fs : List Value} {v : Value} {ty : FieldType} (S : CallFix p m c cc nL s args Ts own) (hN : KN E s) (hw : Wo E A s ws H locs) (q0 k : Nat) (hin : ∀ w ∈ u_ws C T N, w ∈ Ts) (hlink : (Cond.fieldLink own index (T k).1 (T k).2.1 (T k).2.2.1).before args s = true) (ty0 : Nat → FieldType) (hty : ∀ k, k < N → parseFieldDescriptor (T k).2.2.1 = some (ty0 k)) (hnm : ∀ a, a < N → ∀ b, b < N → a ≠ b → (T a).2.1 ≠ (T b).2.1) (hdg : decode cc pc = .ok (.putfield index, 3)) (hin2 : meth.name = "<init>") (he : ws[q0]? = some (a, .inr (ci, fs))) (hc : vwCl[ci]? = some (C, T, N)) (hk : k < N) (hfin : (T k).2.2.2 = true) (hdecl : (T k).1 = own) (hd : parseFieldDescriptor (T k).2.2.1 = some ty) (hn : narrow ty v = v) (hfit : fits ty v = true) (hl : k < fs.length) (h1 : ws.set q0 (a, .inr (ci, fs.set k v)) = w1)
    (kk : ∀ (H1 : Heap) (locs1 : List Loc), Wo E A s w1 H1 locs1 → W p l e R s m args below meth c H1 locs1 cells slots Q (F0 m (pc + 3) ls rest)) : W p l e R s m args below meth c H locs cells slots Q (F0 m pc ls (v :: .ref a :: rest)) := by
  subst h1
  exact va_putF S.1 S.2.1 S.2.2.2.2 hin ty0 hty hnm S.2.2.2.1 hN.1 hw.1 hw.2.1 hw.2.2 q0 he hc k hk hlink (fun _ h => h) hfin hin2 hdecl hd hn hfit hl hdg (fun H1 l1 x1 x2 x3 => kk H1 l1 ⟨x1, x2, x3⟩)
theorem g_iald {n : Nat} {f : Nat → Int32} {i : Int32} (S : CallFix p m c cc nL s args Ts own) (hN : KN E s) (hw : Wo E A s ws H locs) (q0 : Nat) (hi : vp_in i n) (hdg : decode cc pc = .ok (.iaload, 1)) (ha : ws[q0]? = some (aI E a n f))
    (kk : W p l e R s m args below meth c H locs cells slots Q (F0 m (pc + 1) ls (.int (f i.toNatClampNeg) :: rest))) : W p l e R s m args below meth c H locs cells slots Q (F0 m pc ls (.int i :: .ref a :: rest)) :=
  va_iald S.1 S.2.1 hN.1 hw.1 q0 0 ha rfl hi hdg kk
theorem g_lald {n : Nat} {f : Nat → Int64} {i : Int32} (S : CallFix p m c cc nL s args Ts own) (hN : KN E s) (hw : Wo E A s ws H locs) (q0 : Nat) (hi : vp_in i n) (hdg : decode cc pc = .ok (.laload, 1)) (ha : ws[q0]? = some (aJ E a n f))
    (kk : W p l e R s m args below meth c H locs cells slots Q (F0 m (pc + 1) ls (.long (f i.toNatClampNeg) :: rest))) : W p l e R s m args below meth c H locs cells slots Q (F0 m pc ls (.int i :: .ref a :: rest)) :=
  va_lald S.1 S.2.1 hN.1 hw.1 q0 1 ha rfl hi hdg kk
theorem g_zald {n : Nat} {f : Nat → Int32} {i : Int32} (S : CallFix p m c cc nL s args Ts own) (hN : KN E s) (hw : Wo E A s ws H locs) (q0 : Nat) (hi : vp_in i n) (hdg : decode cc pc = .ok (.baload, 1)) (ha : ws[q0]? = some (aZ E a n f))
    (kk : W p l e R s m args below meth c H locs cells slots Q (F0 m (pc + 1) ls (.int (f i.toNatClampNeg) :: rest))) : W p l e R s m args below meth c H locs cells slots Q (F0 m pc ls (.int i :: .ref a :: rest)) :=
  va_zald S.1 S.2.1 hN.1 hw.1 q0 2 ha rfl hi hdg kk
theorem g_bald {n : Nat} {f : Nat → Int32} {i : Int32} (S : CallFix p m c cc nL s args Ts own) (hN : KN E s) (hw : Wo E A s ws H locs) (q0 : Nat) (hi : vp_in i n) (hdg : decode cc pc = .ok (.baload, 1)) (ha : ws[q0]? = some (aB E a n f))
    (kk : W p l e R s m args below meth c H locs cells slots Q (F0 m (pc + 1) ls (.int (f i.toNatClampNeg) :: rest))) : W p l e R s m args below meth c H locs cells slots Q (F0 m pc ls (.int i :: .ref a :: rest)) :=
  va_bald S.1 S.2.1 hN.1 hw.1 q0 3 ha rfl hi hdg kk
theorem g_iast {n : Nat} {f : Nat → Int32} {i x : Int32} (S : CallFix p m c cc nL s args Ts own) (hN : KN E s) (hw : Wo E A s ws H locs) (q0 : Nat) (hi : vp_in i n) (hdg : decode cc pc = .ok (.iastore, 1)) (ha : ws[q0]? = some (aI E a n f)) (h1 : ws.set q0 (aI E a n (upd f i.toNatClampNeg x)) = w1)
    (kk : ∀ (H1 : Heap) (locs1 : List Loc), Wo E A s w1 H1 locs1 → W p l e R s m args below meth c H1 locs1 cells slots Q (F0 m (pc + 1) ls rest)) : W p l e R s m args below meth c H locs cells slots Q (F0 m pc ls (.int x :: .int i :: .ref a :: rest)) := by
  subst h1
  exact va_iast S.1 S.2.1 hN.1 hw.1 hw.2.1 hw.2.2 q0 0 ha rfl hi hdg (fun H1 l1 x1 x2 x3 => kk H1 l1 ⟨x1, x2, x3⟩)
theorem g_last {n : Nat} {f : Nat → Int64} {i : Int32} {x : Int64} (S : CallFix p m c cc nL s args Ts own) (hN : KN E s) (hw : Wo E A s ws H locs) (q0 : Nat) (hi : vp_in i n) (hdg : decode cc pc = .ok (.lastore, 1)) (ha : ws[q0]? = some (aJ E a n f)) (h1 : ws.set q0 (aJ E a n (vp_updL f i.toNatClampNeg x)) = w1)
    (kk : ∀ (H1 : Heap) (locs1 : List Loc), Wo E A s w1 H1 locs1 → W p l e R s m args below meth c H1 locs1 cells slots Q (F0 m (pc + 1) ls rest)) : W p l e R s m args below meth c H locs cells slots Q (F0 m pc ls (.long x :: .int i :: .ref a :: rest)) := by
  subst h1
  exact va_last S.1 S.2.1 hN.1 hw.1 hw.2.1 hw.2.2 q0 1 ha rfl hi hdg (fun H1 l1 x1 x2 x3 => kk H1 l1 ⟨x1, x2, x3⟩)
theorem g_zast {n : Nat} {f : Nat → Int32} {i x : Int32} (S : CallFix p m c cc nL s args Ts own) (hN : KN E s) (hw : Wo E A s ws H locs) (q0 : Nat) (hi : vp_in i n) (hdg : decode cc pc = .ok (.bastore, 1)) (ha : ws[q0]? = some (aZ E a n f)) (h1 : ws.set q0 (aZ E a n (upd f i.toNatClampNeg (x &&& 1))) = w1)
    (kk : ∀ (H1 : Heap) (locs1 : List Loc), Wo E A s w1 H1 locs1 → W p l e R s m args below meth c H1 locs1 cells slots Q (F0 m (pc + 1) ls rest)) : W p l e R s m args below meth c H locs cells slots Q (F0 m pc ls (.int x :: .int i :: .ref a :: rest)) := by
  subst h1
  exact va_zast S.1 S.2.1 hN.1 hw.1 hw.2.1 hw.2.2 q0 2 ha rfl hi hdg (fun H1 l1 x1 x2 x3 => kk H1 l1 ⟨x1, x2, x3⟩)
theorem g_bast {n : Nat} {f : Nat → Int32} {i x : Int32} (S : CallFix p m c cc nL s args Ts own) (hN : KN E s) (hw : Wo E A s ws H locs) (q0 : Nat) (hi : vp_in i n) (hdg : decode cc pc = .ok (.bastore, 1)) (ha : ws[q0]? = some (aB E a n f)) (h1 : ws.set q0 (aB E a n (upd f i.toNatClampNeg x.toInt8.toInt32)) = w1)
    (kk : ∀ (H1 : Heap) (locs1 : List Loc), Wo E A s w1 H1 locs1 → W p l e R s m args below meth c H1 locs1 cells slots Q (F0 m (pc + 1) ls rest)) : W p l e R s m args below meth c H locs cells slots Q (F0 m pc ls (.int x :: .int i :: .ref a :: rest)) := by
  subst h1
  exact va_bast S.1 S.2.1 hN.1 hw.1 hw.2.1 hw.2.2 q0 3 ha rfl hi hdg (fun H1 l1 x1 x2 x3 => kk H1 l1 ⟨x1, x2, x3⟩)
theorem g_calli {av : Array Value} {r : Int32} (hr : va_Run p l e R s m args below meth c H locs cells slots 0 0 (F0 m pc ls st0) rest (va_Qi (fun r' (_ : Unit) => r' = r) (Bq E w1 wc H.size) (va_A wc H.size) av) (va_A wc H.size)) (hw : Wo E A s ws H locs) (hA : ∀ q, s.heap.size ≤ q → A q) (isC isR : List Nat) (hC : isC.map (fun i => ws[i]?) = wc.map some) (hR : isR.map (fun i => ws[i]?) = wr.map some) (hn : va_nd isR = true) (hdis : ∀ i ∈ isR, i ∉ isC)
    (kk : ∀ (H1 : Heap) (locs1 : List Loc), Wo E A s (wr ++ w1) H1 locs1 → W p l e R s m args below meth c H1 locs1 cells slots Q (F0 m (pc + 3) ls (.int r :: rest))) : W p l e R s m args below meth c H locs cells slots Q (F0 m pc ls st0) := by
  have hF := va_free (wc := wc) hw.2.1 hw.2.2 hA isC hC
  refine va_calli hr hw.2.2 (fun q _ h => hF q h) hF (fun r' u t H1 locs1 ht hvm hp hB hz hk hS => ?_)
  subst hp
  obtain ⟨b1, b2⟩ := hB
  rw [ht] at b1
  obtain ⟨j1, j2⟩ := va_join (wr := wr) (w1 := w1) hw.1 hw.2.1 isC isR hC hR hn hdis hk hF b1 b2
  exact kk H1 locs1 ⟨j1, j2, hS⟩
theorem g_calll {av : Array Value} {r : Int64} (hr : va_Run p l e R s m args below meth c H locs cells slots 0 0 (F0 m pc ls st0) rest (va_Ql (fun r' (_ : Unit) => r' = r) (Bq E w1 wc H.size) (va_A wc H.size) av) (va_A wc H.size)) (hw : Wo E A s ws H locs) (hA : ∀ q, s.heap.size ≤ q → A q) (isC isR : List Nat) (hC : isC.map (fun i => ws[i]?) = wc.map some) (hR : isR.map (fun i => ws[i]?) = wr.map some) (hn : va_nd isR = true) (hdis : ∀ i ∈ isR, i ∉ isC)
    (kk : ∀ (H1 : Heap) (locs1 : List Loc), Wo E A s (wr ++ w1) H1 locs1 → W p l e R s m args below meth c H1 locs1 cells slots Q (F0 m (pc + 3) ls (.long r :: rest))) : W p l e R s m args below meth c H locs cells slots Q (F0 m pc ls st0) := by
  have hF := va_free (wc := wc) hw.2.1 hw.2.2 hA isC hC
  refine va_calll hr hw.2.2 (fun q _ h => hF q h) hF (fun r' u t H1 locs1 ht hvm hp hB hz hk hS => ?_)
  subst hp
  obtain ⟨b1, b2⟩ := hB
  rw [ht] at b1
  obtain ⟨j1, j2⟩ := va_join (wr := wr) (w1 := w1) hw.1 hw.2.1 isC isR hC hR hn hdis hk hF b1 b2
  exact kk H1 locs1 ⟨j1, j2, hS⟩
theorem g_callv {av : Array Value} (hr : va_Run p l e R s m args below meth c H locs cells slots 0 0 (F0 m pc ls st0) rest (va_Qv (fun (_ : Unit) => True) (Bq E w1 wc H.size) (va_A wc H.size) av) (va_A wc H.size)) (hw : Wo E A s ws H locs) (hA : ∀ q, s.heap.size ≤ q → A q) (isC isR : List Nat) (hC : isC.map (fun i => ws[i]?) = wc.map some) (hR : isR.map (fun i => ws[i]?) = wr.map some) (hn : va_nd isR = true) (hdis : ∀ i ∈ isR, i ∉ isC)
    (kk : ∀ (H1 : Heap) (locs1 : List Loc), Wo E A s (wr ++ w1) H1 locs1 → W p l e R s m args below meth c H1 locs1 cells slots Q (F0 m (pc + 3) ls rest)) : W p l e R s m args below meth c H locs cells slots Q (F0 m pc ls st0) := by
  have hF := va_free (wc := wc) hw.2.1 hw.2.2 hA isC hC
  refine va_callv hr hw.2.2 (fun q _ h => hF q h) hF (fun u t H1 locs1 ht hvm hp hB hz hk hS => ?_)
  obtain ⟨b1, b2⟩ := hB
  rw [ht] at b1
  obtain ⟨j1, j2⟩ := va_join (wr := wr) (w1 := w1) hw.1 hw.2.1 isC isR hC hR hn hdis hk hF b1 b2
  exact kk H1 locs1 ⟨j1, j2, hS⟩
end GW
/-- a method's entry: from the contract's start to the walk -/
def Ra (h mc ms : Nat) : Room := { frames := h, cells := mc, slots := ms, locals := 40 * h }
abbrev Rm (h : Nat) : Room := Ra h 0 0
theorem ofI {l : Launch} {y : MethodName} {wy wy' : List Cond} {rm : Room} {E : Ev} {av : List Value} {ws w1 : va_W} {r : Int32} {cc : ByteArray} {maxL : Nat} {own : String} (hrc : rm.cells = 0) (hrs : rm.slots = 0) (hy : plainName y.cls = true) (hwy : wy = Cond.code y cc maxL (some .int) :: wy') (hown : y.cls = own)
    (body : ∀ (p : Program) (e : Env) (s : State) (m : MethodId) (below : List Frame) (meth : Method) (c : Code) (A : Nat → Prop) (ls : Array Slot) (Q : State → Prop), CallFix p m c cc maxL s av.toArray wy own → meth.name = y.name → KN E s → Wo E A s ws s.heap [] → (∀ q, s.heap.size ≤ q → A q) → (∀ l : List (Nat × Value), lv_has (lg_sl av ++ List.replicate (maxL - (lg_sl av).length) Slot.unset).toArray maxL l → lv_has ls maxL l) →
      (∀ (H : Heap) (locs : List Loc) (pc : Nat) (ls : Array Slot), Wo E A s w1 H locs → decode cc pc = .ok (.ireturn, 1) → W p l e rm s m av.toArray below meth c H locs 0 0 Q (F0 m pc ls [.int r])) →
      W p l e rm s m av.toArray below meth c s.heap [] 0 0 Q (F0 m 0 ls [])) : CtI l y wy rm E av ws r w1 := by
  intro sz
  refine Met.ofW (cc := cc) (maxL := maxL) (ret := (some .int)) hy hwy ?_
  intro p e s m args below meth c s₁ B hml hv
  obtain ⟨rfl, hsz, hP, hK, hD0⟩ := hv
  subst hsz
  have hD := hD0.self (sz := s.heap.size)
  have hts := atoms_spec (ws := wy) B.pre
  have hlocks := B.notSynchronized
  rw [lg_entry_eq]
  refine body p e s m below meth c (va_A ws s.heap.size) _ _ ⟨B.exec, B.bytes, hml, by rw [← hown]; exact findClass_of_methodNamed B.named, hts⟩ (name_of_methodNamed B.named B.method).1 hK ⟨hP, hD, va_S.rf⟩ (fun q h => Or.inr h) (fun _ h => h) (fun H locs pc ls hw hdg => ?_)
  exact W.iret (v := r) B.exec B.bytes B.returns (fun t ht hW => ⟨⟨r, (), rfl, rfl, by rw [ht]; exact hw.1, hw.2.1⟩, hw.2.2.F ht⟩) hw.2.2.2.2 hdg hlocks
theorem ofZ {l : Launch} {y : MethodName} {wy wy' : List Cond} {rm : Room} {E : Ev} {av : List Value} {ws w1 : va_W} {r : Int32} {cc : ByteArray} {maxL : Nat} {own : String} (hrc : rm.cells = 0) (hrs : rm.slots = 0) (hy : plainName y.cls = true) (hwy : wy = Cond.code y cc maxL (some .boolean) :: wy') (hown : y.cls = own)
    (body : ∀ (p : Program) (e : Env) (s : State) (m : MethodId) (below : List Frame) (meth : Method) (c : Code) (A : Nat → Prop) (ls : Array Slot) (Q : State → Prop), CallFix p m c cc maxL s av.toArray wy own → meth.name = y.name → KN E s → Wo E A s ws s.heap [] → (∀ q, s.heap.size ≤ q → A q) → (∀ l : List (Nat × Value), lv_has (lg_sl av ++ List.replicate (maxL - (lg_sl av).length) Slot.unset).toArray maxL l → lv_has ls maxL l) →
      (∀ (H : Heap) (locs : List Loc) (pc : Nat) (ls : Array Slot), Wo E A s w1 H locs → decode cc pc = .ok (.ireturn, 1) → r &&& 1 = r → W p l e rm s m av.toArray below meth c H locs 0 0 Q (F0 m pc ls [.int r])) →
      W p l e rm s m av.toArray below meth c s.heap [] 0 0 Q (F0 m 0 ls [])) : CtI l y wy rm E av ws r w1 := by
  intro sz
  refine Met.ofW (cc := cc) (maxL := maxL) (ret := (some .boolean)) hy hwy ?_
  intro p e s m args below meth c s₁ B hml hv
  obtain ⟨rfl, hsz, hP, hK, hD0⟩ := hv
  subst hsz
  have hD := hD0.self (sz := s.heap.size)
  have hts := atoms_spec (ws := wy) B.pre
  have hlocks := B.notSynchronized
  rw [lg_entry_eq]
  refine body p e s m below meth c (va_A ws s.heap.size) _ _ ⟨B.exec, B.bytes, hml, by rw [← hown]; exact findClass_of_methodNamed B.named, hts⟩ (name_of_methodNamed B.named B.method).1 hK ⟨hP, hD, va_S.rf⟩ (fun q h => Or.inr h) (fun _ h => h) (fun H locs pc ls hw hdg hz => ?_)
  exact W.zret (v := r) B.exec B.bytes B.returns (by show Value.int (r &&& 1) = .int r; rw [hz]) (fun t ht hW => ⟨⟨r, (), rfl, rfl, by rw [ht]; exact hw.1, hw.2.1⟩, hw.2.2.F ht⟩) hw.2.2.2.2 hdg hlocks
theorem ofL {l : Launch} {y : MethodName} {wy wy' : List Cond} {rm : Room} {E : Ev} {av : List Value} {ws w1 : va_W} {r : Int64} {cc : ByteArray} {maxL : Nat} {own : String} (hrc : rm.cells = 0) (hrs : rm.slots = 0) (hy : plainName y.cls = true) (hwy : wy = Cond.code y cc maxL (some .long) :: wy') (hown : y.cls = own)
    (body : ∀ (p : Program) (e : Env) (s : State) (m : MethodId) (below : List Frame) (meth : Method) (c : Code) (A : Nat → Prop) (ls : Array Slot) (Q : State → Prop), CallFix p m c cc maxL s av.toArray wy own → meth.name = y.name → KN E s → Wo E A s ws s.heap [] → (∀ q, s.heap.size ≤ q → A q) → (∀ l : List (Nat × Value), lv_has (lg_sl av ++ List.replicate (maxL - (lg_sl av).length) Slot.unset).toArray maxL l → lv_has ls maxL l) →
      (∀ (H : Heap) (locs : List Loc) (pc : Nat) (ls : Array Slot), Wo E A s w1 H locs → decode cc pc = .ok (.lreturn, 1) → W p l e rm s m av.toArray below meth c H locs 0 0 Q (F0 m pc ls [.long r])) →
      W p l e rm s m av.toArray below meth c s.heap [] 0 0 Q (F0 m 0 ls [])) : CtL l y wy rm E av ws r w1 := by
  intro sz
  refine Met.ofW (cc := cc) (maxL := maxL) (ret := (some .long)) hy hwy ?_
  intro p e s m args below meth c s₁ B hml hv
  obtain ⟨rfl, hsz, hP, hK, hD0⟩ := hv
  subst hsz
  have hD := hD0.self (sz := s.heap.size)
  have hts := atoms_spec (ws := wy) B.pre
  have hlocks := B.notSynchronized
  rw [lg_entry_eq]
  refine body p e s m below meth c (va_A ws s.heap.size) _ _ ⟨B.exec, B.bytes, hml, by rw [← hown]; exact findClass_of_methodNamed B.named, hts⟩ (name_of_methodNamed B.named B.method).1 hK ⟨hP, hD, va_S.rf⟩ (fun q h => Or.inr h) (fun _ h => h) (fun H locs pc ls hw hdg => ?_)
  exact W.lret (v := r) B.exec B.bytes B.returns (fun t ht hW => ⟨⟨r, (), rfl, rfl, by rw [ht]; exact hw.1, hw.2.1⟩, hw.2.2.F ht⟩) hw.2.2.2.2 hdg hlocks
theorem ofV {l : Launch} {y : MethodName} {wy wy' : List Cond} {rm : Room} {E : Ev} {av : List Value} {ws w1 : va_W} {cc : ByteArray} {maxL : Nat} {own : String} (hrc : rm.cells = 0) (hrs : rm.slots = 0) (hy : plainName y.cls = true) (hwy : wy = Cond.code y cc maxL none :: wy') (hown : y.cls = own)
    (body : ∀ (p : Program) (e : Env) (s : State) (m : MethodId) (below : List Frame) (meth : Method) (c : Code) (A : Nat → Prop) (ls : Array Slot) (Q : State → Prop), CallFix p m c cc maxL s av.toArray wy own → meth.name = y.name → KN E s → Wo E A s ws s.heap [] → (∀ q, s.heap.size ≤ q → A q) → (∀ l : List (Nat × Value), lv_has (lg_sl av ++ List.replicate (maxL - (lg_sl av).length) Slot.unset).toArray maxL l → lv_has ls maxL l) →
      (∀ (H : Heap) (locs : List Loc) (pc : Nat) (ls : Array Slot), Wo E A s w1 H locs → decode cc pc = .ok (.return_, 1) → W p l e rm s m av.toArray below meth c H locs 0 0 Q (F0 m pc ls [])) →
      W p l e rm s m av.toArray below meth c s.heap [] 0 0 Q (F0 m 0 ls [])) : CtV l y wy rm E av ws w1 := by
  intro sz
  refine Met.ofW (cc := cc) (maxL := maxL) (ret := none) hy hwy ?_
  intro p e s m args below meth c s₁ B hml hv
  obtain ⟨rfl, hsz, hP, hK, hD0⟩ := hv
  subst hsz
  have hD := hD0.self (sz := s.heap.size)
  have hts := atoms_spec (ws := wy) B.pre
  have hlocks := B.notSynchronized
  rw [lg_entry_eq]
  refine body p e s m below meth c (va_A ws s.heap.size) _ _ ⟨B.exec, B.bytes, hml, by rw [← hown]; exact findClass_of_methodNamed B.named, hts⟩ (name_of_methodNamed B.named B.method).1 hK ⟨hP, hD, va_S.rf⟩ (fun q h => Or.inr h) (fun _ h => h) (fun H locs pc ls hw hdg => ?_)
  exact W.vret B.exec B.bytes B.returns (fun t ht hW => ⟨⟨(), rfl, trivial, by rw [ht]; exact hw.1, hw.2.1⟩, hw.2.2.F ht⟩) hw.2.2.2.2 hdg hlocks
/-- pure rows of the turned methods: a read and a write that may fall outside -/
def rd {α β : Type} (n : Nat) (f : Nat → α) (i : Int32) (k : α → Option β) : Option β := if i < 0 ∨ n ≤ i.toNatClampNeg then none else k (f i.toNatClampNeg)
def wr {α β : Type} (n : Nat) (f : Nat → α) (i : Int32) (x : α) (k : (Nat → α) → Option β) : Option β := if i < 0 ∨ n ≤ i.toNatClampNeg then none else k (va_up f i.toNatClampNeg x)
theorem rd_s {α β : Type} {n : Nat} {f : Nat → α} {i : Int32} {k : α → Option β} {o : β} (h : rd n f i k = some o) : vp_in i n ∧ k (f i.toNatClampNeg) = some o := by
  unfold rd at h
  by_cases c : i < 0 ∨ n ≤ i.toNatClampNeg
  · rw [if_pos c] at h; cases h
  · rw [if_neg c] at h; exact ⟨c, h⟩
theorem wr_s {α β : Type} {n : Nat} {f : Nat → α} {i : Int32} {x : α} {k : (Nat → α) → Option β} {o : β} (h : wr n f i x k = some o) : vp_in i n ∧ k (va_up f i.toNatClampNeg x) = some o := by
  unfold wr at h
  by_cases c : i < 0 ∨ n ≤ i.toNatClampNeg
  · rw [if_pos c] at h; cases h
  · rw [if_neg c] at h; exact ⟨c, h⟩
def gd {β : Type} (c : Prop) [Decidable c] (k : Option β) : Option β := if c then k else none
theorem gd_s {β : Type} {c : Prop} [Decidable c] {k : Option β} {o : β} (h : gd c k = some o) : c ∧ k = some o := by
  unfold gd at h
  by_cases hc : c
  · rw [if_pos hc] at h; exact ⟨hc, h⟩
  · rw [if_neg hc] at h; cases h
theorem bd_s {α β : Type} {x : Option α} {k : α → Option β} {o : β} (h : x.bind k = some o) : ∃ y, x = some y ∧ k y = some o := by
  cases x with
  | none => cases h
  | some y => exact ⟨y, rfl, h⟩
theorem if_t {α : Type} {c : Prop} [Decidable c] (hc : c) {a b x : α} (h : (if c then a else b) = x) : a = x := by rw [if_pos hc] at h; exact h
theorem if_f {α : Type} {c : Prop} [Decidable c] (hc : ¬ c) {a b x : α} (h : (if c then a else b) = x) : b = x := by rw [if_neg hc] at h; exact h
def ltt {α β : Type} (x : α) (k : α → β) : β := k x
def jn {α β : Type} (f : α) (k : α → β) : β := k f
theorem jn_s {α β : Type} {f : α} {k : α → β} {o : β} (h : jn f k = o) : ∃ j, j = f ∧ k j = o := ⟨f, rfl, h⟩
theorem ltt_s {α β : Type} {x : α} {k : α → β} {o : β} (h : ltt x k = o) : ∃ j, j = x ∧ k j = o := ⟨x, rfl, h⟩
def bd2 {α1 α2 β : Type} (x : Option (α1 × α2)) (k : α1 → α2 → Option β) : Option β := x.bind (fun y => k y.1 y.2)
theorem bd2_s {α1 α2 β : Type} {x : Option (α1 × α2)} {k : α1 → α2 → Option β} {o : β} (h : bd2 x k = some o) : ∃ u1 u2, x = some (u1, u2) ∧ k u1 u2 = some o := by
  cases x with
  | none => cases h
  | some y => exact ⟨y.1, y.2, rfl, h⟩
def bd3 {α1 α2 α3 β : Type} (x : Option (α1 × α2 × α3)) (k : α1 → α2 → α3 → Option β) : Option β := x.bind (fun y => k y.1 y.2.1 y.2.2)
theorem bd3_s {α1 α2 α3 β : Type} {x : Option (α1 × α2 × α3)} {k : α1 → α2 → α3 → Option β} {o : β} (h : bd3 x k = some o) : ∃ u1 u2 u3, x = some (u1, u2, u3) ∧ k u1 u2 u3 = some o := by
  cases x with
  | none => cases h
  | some y => exact ⟨y.1, y.2.1, y.2.2, rfl, h⟩
def bd4 {α1 α2 α3 α4 β : Type} (x : Option (α1 × α2 × α3 × α4)) (k : α1 → α2 → α3 → α4 → Option β) : Option β := x.bind (fun y => k y.1 y.2.1 y.2.2.1 y.2.2.2)
theorem bd4_s {α1 α2 α3 α4 β : Type} {x : Option (α1 × α2 × α3 × α4)} {k : α1 → α2 → α3 → α4 → Option β} {o : β} (h : bd4 x k = some o) : ∃ u1 u2 u3 u4, x = some (u1, u2, u3, u4) ∧ k u1 u2 u3 u4 = some o := by
  cases x with
  | none => cases h
  | some y => exact ⟨y.1, y.2.1, y.2.2.1, y.2.2.2, rfl, h⟩
def bd5 {α1 α2 α3 α4 α5 β : Type} (x : Option (α1 × α2 × α3 × α4 × α5)) (k : α1 → α2 → α3 → α4 → α5 → Option β) : Option β := x.bind (fun y => k y.1 y.2.1 y.2.2.1 y.2.2.2.1 y.2.2.2.2)
theorem bd5_s {α1 α2 α3 α4 α5 β : Type} {x : Option (α1 × α2 × α3 × α4 × α5)} {k : α1 → α2 → α3 → α4 → α5 → Option β} {o : β} (h : bd5 x k = some o) : ∃ u1 u2 u3 u4 u5, x = some (u1, u2, u3, u4, u5) ∧ k u1 u2 u3 u4 u5 = some o := by
  cases x with
  | none => cases h
  | some y => exact ⟨y.1, y.2.1, y.2.2.1, y.2.2.2.1, y.2.2.2.2, rfl, h⟩
def bd6 {α1 α2 α3 α4 α5 α6 β : Type} (x : Option (α1 × α2 × α3 × α4 × α5 × α6)) (k : α1 → α2 → α3 → α4 → α5 → α6 → Option β) : Option β := x.bind (fun y => k y.1 y.2.1 y.2.2.1 y.2.2.2.1 y.2.2.2.2.1 y.2.2.2.2.2)
theorem bd6_s {α1 α2 α3 α4 α5 α6 β : Type} {x : Option (α1 × α2 × α3 × α4 × α5 × α6)} {k : α1 → α2 → α3 → α4 → α5 → α6 → Option β} {o : β} (h : bd6 x k = some o) : ∃ u1 u2 u3 u4 u5 u6, x = some (u1, u2, u3, u4, u5, u6) ∧ k u1 u2 u3 u4 u5 u6 = some o := by
  cases x with
  | none => cases h
  | some y => exact ⟨y.1, y.2.1, y.2.2.1, y.2.2.2.1, y.2.2.2.2.1, y.2.2.2.2.2, rfl, h⟩
def bd7 {α1 α2 α3 α4 α5 α6 α7 β : Type} (x : Option (α1 × α2 × α3 × α4 × α5 × α6 × α7)) (k : α1 → α2 → α3 → α4 → α5 → α6 → α7 → Option β) : Option β := x.bind (fun y => k y.1 y.2.1 y.2.2.1 y.2.2.2.1 y.2.2.2.2.1 y.2.2.2.2.2.1 y.2.2.2.2.2.2)
theorem bd7_s {α1 α2 α3 α4 α5 α6 α7 β : Type} {x : Option (α1 × α2 × α3 × α4 × α5 × α6 × α7)} {k : α1 → α2 → α3 → α4 → α5 → α6 → α7 → Option β} {o : β} (h : bd7 x k = some o) : ∃ u1 u2 u3 u4 u5 u6 u7, x = some (u1, u2, u3, u4, u5, u6, u7) ∧ k u1 u2 u3 u4 u5 u6 u7 = some o := by
  cases x with
  | none => cases h
  | some y => exact ⟨y.1, y.2.1, y.2.2.1, y.2.2.2.1, y.2.2.2.2.1, y.2.2.2.2.2.1, y.2.2.2.2.2.2, rfl, h⟩
def bd8 {α1 α2 α3 α4 α5 α6 α7 α8 β : Type} (x : Option (α1 × α2 × α3 × α4 × α5 × α6 × α7 × α8)) (k : α1 → α2 → α3 → α4 → α5 → α6 → α7 → α8 → Option β) : Option β := x.bind (fun y => k y.1 y.2.1 y.2.2.1 y.2.2.2.1 y.2.2.2.2.1 y.2.2.2.2.2.1 y.2.2.2.2.2.2.1 y.2.2.2.2.2.2.2)
theorem bd8_s {α1 α2 α3 α4 α5 α6 α7 α8 β : Type} {x : Option (α1 × α2 × α3 × α4 × α5 × α6 × α7 × α8)} {k : α1 → α2 → α3 → α4 → α5 → α6 → α7 → α8 → Option β} {o : β} (h : bd8 x k = some o) : ∃ u1 u2 u3 u4 u5 u6 u7 u8, x = some (u1, u2, u3, u4, u5, u6, u7, u8) ∧ k u1 u2 u3 u4 u5 u6 u7 u8 = some o := by
  cases x with
  | none => cases h
  | some y => exact ⟨y.1, y.2.1, y.2.2.1, y.2.2.2.1, y.2.2.2.2.1, y.2.2.2.2.2.1, y.2.2.2.2.2.2.1, y.2.2.2.2.2.2.2, rfl, h⟩
def bd9 {α1 α2 α3 α4 α5 α6 α7 α8 α9 β : Type} (x : Option (α1 × α2 × α3 × α4 × α5 × α6 × α7 × α8 × α9)) (k : α1 → α2 → α3 → α4 → α5 → α6 → α7 → α8 → α9 → Option β) : Option β := x.bind (fun y => k y.1 y.2.1 y.2.2.1 y.2.2.2.1 y.2.2.2.2.1 y.2.2.2.2.2.1 y.2.2.2.2.2.2.1 y.2.2.2.2.2.2.2.1 y.2.2.2.2.2.2.2.2)
theorem bd9_s {α1 α2 α3 α4 α5 α6 α7 α8 α9 β : Type} {x : Option (α1 × α2 × α3 × α4 × α5 × α6 × α7 × α8 × α9)} {k : α1 → α2 → α3 → α4 → α5 → α6 → α7 → α8 → α9 → Option β} {o : β} (h : bd9 x k = some o) : ∃ u1 u2 u3 u4 u5 u6 u7 u8 u9, x = some (u1, u2, u3, u4, u5, u6, u7, u8, u9) ∧ k u1 u2 u3 u4 u5 u6 u7 u8 u9 = some o := by
  cases x with
  | none => cases h
  | some y => exact ⟨y.1, y.2.1, y.2.2.1, y.2.2.2.1, y.2.2.2.2.1, y.2.2.2.2.2.1, y.2.2.2.2.2.2.1, y.2.2.2.2.2.2.2.1, y.2.2.2.2.2.2.2.2, rfl, h⟩
def bd10 {α1 α2 α3 α4 α5 α6 α7 α8 α9 α10 β : Type} (x : Option (α1 × α2 × α3 × α4 × α5 × α6 × α7 × α8 × α9 × α10)) (k : α1 → α2 → α3 → α4 → α5 → α6 → α7 → α8 → α9 → α10 → Option β) : Option β := x.bind (fun y => k y.1 y.2.1 y.2.2.1 y.2.2.2.1 y.2.2.2.2.1 y.2.2.2.2.2.1 y.2.2.2.2.2.2.1 y.2.2.2.2.2.2.2.1 y.2.2.2.2.2.2.2.2.1 y.2.2.2.2.2.2.2.2.2)
theorem bd10_s {α1 α2 α3 α4 α5 α6 α7 α8 α9 α10 β : Type} {x : Option (α1 × α2 × α3 × α4 × α5 × α6 × α7 × α8 × α9 × α10)} {k : α1 → α2 → α3 → α4 → α5 → α6 → α7 → α8 → α9 → α10 → Option β} {o : β} (h : bd10 x k = some o) : ∃ u1 u2 u3 u4 u5 u6 u7 u8 u9 u10, x = some (u1, u2, u3, u4, u5, u6, u7, u8, u9, u10) ∧ k u1 u2 u3 u4 u5 u6 u7 u8 u9 u10 = some o := by
  cases x with
  | none => cases h
  | some y => exact ⟨y.1, y.2.1, y.2.2.1, y.2.2.2.1, y.2.2.2.2.1, y.2.2.2.2.2.1, y.2.2.2.2.2.2.1, y.2.2.2.2.2.2.2.1, y.2.2.2.2.2.2.2.2.1, y.2.2.2.2.2.2.2.2.2, rfl, h⟩
def bd11 {α1 α2 α3 α4 α5 α6 α7 α8 α9 α10 α11 β : Type} (x : Option (α1 × α2 × α3 × α4 × α5 × α6 × α7 × α8 × α9 × α10 × α11)) (k : α1 → α2 → α3 → α4 → α5 → α6 → α7 → α8 → α9 → α10 → α11 → Option β) : Option β := x.bind (fun y => k y.1 y.2.1 y.2.2.1 y.2.2.2.1 y.2.2.2.2.1 y.2.2.2.2.2.1 y.2.2.2.2.2.2.1 y.2.2.2.2.2.2.2.1 y.2.2.2.2.2.2.2.2.1 y.2.2.2.2.2.2.2.2.2.1 y.2.2.2.2.2.2.2.2.2.2)
theorem bd11_s {α1 α2 α3 α4 α5 α6 α7 α8 α9 α10 α11 β : Type} {x : Option (α1 × α2 × α3 × α4 × α5 × α6 × α7 × α8 × α9 × α10 × α11)} {k : α1 → α2 → α3 → α4 → α5 → α6 → α7 → α8 → α9 → α10 → α11 → Option β} {o : β} (h : bd11 x k = some o) : ∃ u1 u2 u3 u4 u5 u6 u7 u8 u9 u10 u11, x = some (u1, u2, u3, u4, u5, u6, u7, u8, u9, u10, u11) ∧ k u1 u2 u3 u4 u5 u6 u7 u8 u9 u10 u11 = some o := by
  cases x with
  | none => cases h
  | some y => exact ⟨y.1, y.2.1, y.2.2.1, y.2.2.2.1, y.2.2.2.2.1, y.2.2.2.2.2.1, y.2.2.2.2.2.2.1, y.2.2.2.2.2.2.2.1, y.2.2.2.2.2.2.2.2.1, y.2.2.2.2.2.2.2.2.2.1, y.2.2.2.2.2.2.2.2.2.2, rfl, h⟩
def bd12 {α1 α2 α3 α4 α5 α6 α7 α8 α9 α10 α11 α12 β : Type} (x : Option (α1 × α2 × α3 × α4 × α5 × α6 × α7 × α8 × α9 × α10 × α11 × α12)) (k : α1 → α2 → α3 → α4 → α5 → α6 → α7 → α8 → α9 → α10 → α11 → α12 → Option β) : Option β := x.bind (fun y => k y.1 y.2.1 y.2.2.1 y.2.2.2.1 y.2.2.2.2.1 y.2.2.2.2.2.1 y.2.2.2.2.2.2.1 y.2.2.2.2.2.2.2.1 y.2.2.2.2.2.2.2.2.1 y.2.2.2.2.2.2.2.2.2.1 y.2.2.2.2.2.2.2.2.2.2.1 y.2.2.2.2.2.2.2.2.2.2.2)
theorem bd12_s {α1 α2 α3 α4 α5 α6 α7 α8 α9 α10 α11 α12 β : Type} {x : Option (α1 × α2 × α3 × α4 × α5 × α6 × α7 × α8 × α9 × α10 × α11 × α12)} {k : α1 → α2 → α3 → α4 → α5 → α6 → α7 → α8 → α9 → α10 → α11 → α12 → Option β} {o : β} (h : bd12 x k = some o) : ∃ u1 u2 u3 u4 u5 u6 u7 u8 u9 u10 u11 u12, x = some (u1, u2, u3, u4, u5, u6, u7, u8, u9, u10, u11, u12) ∧ k u1 u2 u3 u4 u5 u6 u7 u8 u9 u10 u11 u12 = some o := by
  cases x with
  | none => cases h
  | some y => exact ⟨y.1, y.2.1, y.2.2.1, y.2.2.2.1, y.2.2.2.2.1, y.2.2.2.2.2.1, y.2.2.2.2.2.2.1, y.2.2.2.2.2.2.2.1, y.2.2.2.2.2.2.2.2.1, y.2.2.2.2.2.2.2.2.2.1, y.2.2.2.2.2.2.2.2.2.2.1, y.2.2.2.2.2.2.2.2.2.2.2, rfl, h⟩
theorem sw_out4 {x : Int32} (h0 : ¬ x = 0) (h1 : ¬ x = 1) (h2 : ¬ x = 2) (h3 : ¬ x = 3) : x.toInt < 0 ∨ 3 < x.toInt := by
  have e : ∀ k : Int32, x.toInt = k.toInt → x = k := fun k h => Int32.toInt_inj.mp h
  have a0 : ¬ x.toInt = 0 := fun h => h0 (e 0 h)
  have a1 : ¬ x.toInt = 1 := fun h => h1 (e 1 h)
  have a2 : ¬ x.toInt = 2 := fun h => h2 (e 2 h)
  have a3 : ¬ x.toInt = 3 := fun h => h3 (e 3 h)
  omega
theorem sw_out5 {x : Int32} (h0 : ¬ x = 0) (h1 : ¬ x = 1) (h2 : ¬ x = 2) (h3 : ¬ x = 3) (h4 : ¬ x = 4) : x.toInt < 0 ∨ 4 < x.toInt := by
  have e : ∀ k : Int32, x.toInt = k.toInt → x = k := fun k h => Int32.toInt_inj.mp h
  have a4 : ¬ x.toInt = 4 := fun h => h4 (e 4 h)
  have := sw_out4 h0 h1 h2 h3
  omega
theorem rm_le {a b k x y z v : Nat} (h : a + 1 ≤ b) (hk : k ≤ 21) : (Ra a x y).frames + 1 ≤ (Ra b z v).frames ∧ 8 + (k + 11) + (Ra a x y).locals ≤ (Ra b z v).locals := by
  show a + 1 ≤ b ∧ 8 + (k + 11) + 40 * a ≤ 40 * b
  omega
theorem rm_f {b x y : Nat} (h : 1 ≤ b) : 1 ≤ (Ra b x y).frames := h
theorem rm_l {b k x y : Nat} (h : k ≤ 40 * b) : k ≤ (Ra b x y).locals := h
