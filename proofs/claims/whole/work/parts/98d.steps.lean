section
/-- an age that was stored while the graph's own was at most a -/
def Ag (a : Nat) (w : Int32) : Prop := w = -1 ∨ ∃ c, c ≤ a ∧ w = nI c
theorem Ag_self (a : Nat) : Ag a (nI a) := Or.inr ⟨a, Nat.le_refl a, rfl⟩
theorem Ag_fresh (a : Nat) : Ag a (-1) := Or.inl rfl
theorem Ag_mono {a b : Nat} {w : Int32} (h : Ag a w) (hab : a ≤ b) : Ag b w := by
  rcases h with h | ⟨c, h1, h2⟩
  · exact Or.inl h
  · exact Or.inr ⟨c, by omega, h2⟩
theorem nI_nm1 {a : Nat} (ha : a < 2000000000) : ¬ (-1 : Int32) = nI a := by
  intro h
  have h1 : (0 : Int32) ≤ nI a := nI_le (a := 0) (by omega) (by omega)
  rw [← h] at h1
  exact absurd h1 (by decide)
theorem Ag_ne {a : Nat} {w : Int32} (h : Ag a w) (ha : a + 1 < 2000000000) : ¬ w = nI (a + 1) := by
  rcases h with h | ⟨c, h1, h2⟩
  · rw [h]; exact nI_nm1 ha
  · rw [h2]
    intro e
    have := (nI_eq (by omega) (by omega)).mp e
    omega
theorem Ag_nef {a : Nat} (ha : a + 1 < 2000000000) : ¬ (-1 : Int32) = nI a := nI_nm1 (by omega)
/-- each module's knowledge over a change of the graph: nothing of it is of the new age -/
theorem WaO_next {G G' : Gr} {age age' : Int32} {sl so se later laters : Nat → Int32} {am : Int32} {known found : Nat → Int32} {sets : Nat → Int64} {wage : Int32} (h : WaO G age sl so se later laters am known found sets wage) (hne : ¬ wage = age') : WaO G' age' sl so se later laters am known found sets wage := ⟨h.1, fun e => absurd e hne⟩
theorem JcO_next {G G' : Gr} {age age' jage : Int32} {sl so se gain : Nat → Int32} {mark : Nat → Int64} {reached : Nat → Int32} {pk : Int32} (h : JcO G age jage sl so se gain mark reached pk) (hne : ¬ jage = age') : JcO G' age' jage sl so se gain mark reached pk := ⟨h.1, fun e => absurd e hne⟩
/-- the changes as told to both sides: the answer, whether the graph is another now, the graph -/
def upN (f : Nat → Nat) (i x : Nat) : Nat → Nat := fun j => if j = i then x else f j
def upB (f : Nat → Bool) (i : Nat) (x : Bool) : Nat → Bool := fun j => if j = i then x else f j
def stNode (G : Gr) : Int32 × Bool × Gr := if nd G = 16 then (-4, false, G) else (nI (nd G), true, (nd G + 1, md G, fr G, tt G, wt G, al G))
def stArc (G : Gr) (p1 p2 p3 : Int32) : Int32 × Bool × Gr := if f_X2_isNode p1 (nI (nd G)) = 0 then (-1, false, G) else if f_X2_isNode p2 (nI (nd G)) = 0 then (-1, false, G) else if p1 = p2 then (-2, false, G) else if p3 < 0 then (-2, false, G) else if p3 ≤ 1000 then (if md G = 60 then (-4, false, G) else (nI (md G), true, (nd G, md G + 1, upN (fr G) (md G) p1.toNatClampNeg, upN (tt G) (md G) p2.toNatClampNeg, upN (wt G) (md G) p3.toNatClampNeg, upB (al G) (md G) true))) else (-2, false, G)
def lvC (G : Gr) : Nat → Nat
  | 0 => 0
  | i + 1 => lvC G i + if al G i = true then 1 else 0
def cutG (G : Gr) (i : Nat) : Gr := (nd G, md G, fr G, tt G, wt G, upB (al G) i false)
def stCut (G : Gr) (p : Int32) : Int32 × Bool × Gr := if p < 0 then (-1, false, G) else if nI (md G) ≤ p then (-1, false, G) else if al G p.toNatClampNeg = true then (nI (lvC (cutG G p.toNatClampNeg) (md G)), true, cutG G p.toNatClampNeg) else (-1, false, G)
def stClear (G : Gr) : Int32 × Bool × Gr := (nI (nd G), true, (0, 0, fr G, tt G, wt G, al G))
def okR (G : Gr) (p1 p2 p3 : Int32) : Bool := if f_X2_isNode p1 (nI (nd G)) = 0 then false else if f_X2_isNode p2 (nI (nd G)) = 0 then false else if p1 = p2 then false else if p3 < -1 then false else if p3 ≤ 99 then true else false
def cdR (G : Gr) (p1 p2 : Int32) : Int32 := if f_X2_isNode p1 (nI (nd G)) = 0 then -1 else if f_X2_isNode p2 (nI (nd G)) = 0 then -1 else -2
def upR (rk : Nat → Nat → Int32) (v u : Nat) (x : Int32) : Nat → Nat → Int32 := fun a b => if a = v ∧ b = u then x else rk a b
def stRank (G : Gr) (rk : Nat → Nat → Int32) (p1 p2 p3 : Int32) : Int32 × (Nat → Nat → Int32) := if okR G p1 p2 p3 = true then (rk p1.toNatClampNeg p2.toNatClampNeg, upR rk p1.toNatClampNeg p2.toNatClampNeg p3) else (cdR G p1 p2, rk)
end
