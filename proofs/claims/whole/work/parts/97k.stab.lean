/-! ===== stable pairs: the search over the least node that is not settled ===== -/
def opB (G : Gr) (rk : Nat → Nat → Int32) (v u : Nat) : Bool := (adj G v).testBit u && decide (rk v u ≠ -1) && decide (rk u v ≠ -1)
theorem opB_iff {G : Gr} {rk : Nat → Nat → Int32} {v u : Nat} : opB G rk v u = true ↔ (adj G v).testBit u = true ∧ rk v u ≠ -1 ∧ rk u v ≠ -1 := by
  unfold opB
  rw [Bool.and_eq_true, Bool.and_eq_true, decide_eq_true_eq, decide_eq_true_eq]
  exact ⟨fun h => ⟨h.1.1, h.1.2, h.2⟩, fun h => ⟨⟨h.1, h.2.1⟩, h.2.2⟩⟩
theorem opB_sym {G : Gr} (hW : Wf G) {rk : Nat → Nat → Int32} (v u : Nat) : opB G rk v u = opB G rk u v := by
  rw [Bool.eq_iff_iff, opB_iff, opB_iff, adj_sym hW]
  exact ⟨fun h => ⟨h.1, h.2.2, h.2.1⟩, fun h => ⟨h.1, h.2.2, h.2.1⟩⟩
theorem opB_in {G : Gr} (hW : Wf G) {rk : Nat → Nat → Int32} {v u : Nat} (h : opB G rk v u = true) : v < nd G ∧ u < nd G ∧ v ≠ u := adj_in hW (opB_iff.mp h).1
/-- v, with the partner p v (itself: nobody), would rather have o -/
def Wn (rk : Nat → Nat → Int32) (p : Nat → Nat) (v o : Nat) : Prop := p v = v ∨ rk v o < rk v (p v)
def Blk (G : Gr) (rk : Nat → Nat → Int32) (S : Nat) (p : Nat → Nat) : Prop := ∃ v o, S.testBit v = true ∧ S.testBit o = true ∧ opB G rk v o = true ∧ Wn rk p v o ∧ Wn rk p o v
def JOK (G : Gr) (rk : Nat → Nat → Int32) (J : (Nat → Nat) → Nat → Nat × Nat → Nat × Nat) : Prop := ∀ p X s, (Blk G rk (allN G) p → J p X s = s) ∧ (¬ Blk G rk (allN G) p → J p X s = (s.1 + 1, if X < s.2 then s.2 else X))
theorem J_ex (G : Gr) (rk : Nat → Nat → Int32) : ∃ J, JOK G rk J := by
  refine ⟨fun p X s => @ite _ (Blk G rk (allN G) p) (Classical.propDecidable _) s (s.1 + 1, if X < s.2 then s.2 else X), fun p X s => ⟨fun h => if_pos h, fun h => if_neg h⟩⟩
def RnU (R : Nat → (Nat → Nat) → Nat → Nat × Nat → Nat × Nat) (op : Nat → Nat → Bool) (ar : Nat → Nat → Nat) (S x : Nat) (p : Nat → Nat) (X : Nat) : Nat → Nat → Nat × Nat → Nat × Nat
  | 0, _, s => s
  | c + 1, u, s => RnU R op ar S x p X c (u + 1) (if S.testBit u = false ∧ op x u = true then R (S ||| (2 ^ x ||| 2 ^ u)) (va_up (va_up p x u) u x) (X ||| mkA (ar x u)) s else s)
theorem RnU_s (R : Nat → (Nat → Nat) → Nat → Nat × Nat → Nat × Nat) (op : Nat → Nat → Bool) (ar : Nat → Nat → Nat) (S x : Nat) (p : Nat → Nat) (X c u : Nat) (s : Nat × Nat) : RnU R op ar S x p X (c + 1) u s = RnU R op ar S x p X c (u + 1) (if S.testBit u = false ∧ op x u = true then R (S ||| (2 ^ x ||| 2 ^ u)) (va_up (va_up p x u) u x) (X ||| mkA (ar x u)) s else s) := rfl
def Rn (G : Gr) (op : Nat → Nat → Bool) (ar : Nat → Nat → Nat) (J : (Nat → Nat) → Nat → Nat × Nat → Nat × Nat) : Nat → Nat → (Nat → Nat) → Nat → Nat × Nat → Nat × Nat
  | 0, _, p, X, s => J p X s
  | k + 1, S, p, X, s => if dif (allN G) S = 0 then J p X s else RnU (Rn G op ar J k) op ar S (low 16 (dif (allN G) S)) p X (nd G - (low 16 (dif (allN G) S) + 1)) (low 16 (dif (allN G) S) + 1) (Rn G op ar J k (S ||| 2 ^ low 16 (dif (allN G) S)) (va_up p (low 16 (dif (allN G) S)) (low 16 (dif (allN G) S))) X s)
theorem Rn_s (G : Gr) (op : Nat → Nat → Bool) (ar : Nat → Nat → Nat) (J : (Nat → Nat) → Nat → Nat × Nat → Nat × Nat) (k S : Nat) (p : Nat → Nat) (X : Nat) (s : Nat × Nat) : Rn G op ar J (k + 1) S p X s = if dif (allN G) S = 0 then J p X s else RnU (Rn G op ar J k) op ar S (low 16 (dif (allN G) S)) p X (nd G - (low 16 (dif (allN G) S) + 1)) (low 16 (dif (allN G) S) + 1) (Rn G op ar J k (S ||| 2 ^ low 16 (dif (allN G) S)) (va_up p (low 16 (dif (allN G) S)) (low 16 (dif (allN G) S))) X s) := rfl
theorem dif0 {a b : Nat} (h : dif a b = 0) {v : Nat} (hv : a.testBit v = true) : b.testBit v = true := by
  have := dif_bit a b v
  rw [h, Nat.zero_testBit, hv] at this
  cases x : b.testBit v with
  | true => rfl
  | false => rw [x] at this; cases this
/-- how many are not settled yet -/
def un (G : Gr) (S : Nat) : Nat := pcF 16 (dif (allN G) S)
theorem un_one {G : Gr} {S x : Nat} (hx : x < 16) (h : (dif (allN G) S).testBit x = true) : un G (S ||| 2 ^ x) + 1 = un G S := by
  unfold un
  have e : dif (allN G) (S ||| 2 ^ x) = dif (dif (allN G) S) (2 ^ x) := (dif_dif _ _ _).symm
  rw [e]
  exact pcF_dif 16 _ x hx h
theorem un_two {G : Gr} {S x u : Nat} (hx : x < 16) (hu : u < 16) (hxu : x ≠ u) (h : (dif (allN G) S).testBit x = true) (h2 : (dif (allN G) S).testBit u = true) : un G (S ||| (2 ^ x ||| 2 ^ u)) + 2 = un G S := by
  have e : S ||| (2 ^ x ||| 2 ^ u) = (S ||| 2 ^ x) ||| 2 ^ u := (Nat.or_assoc _ _ _).symm
  have h3 := un_one hx h
  have h4 := un_one (S := S ||| 2 ^ x) (x := u) hu (by
    rw [← dif_dif, dif_bit, h2, Nat.testBit_two_pow]; simp [hxu])
  rw [e]
  omega
theorem RnU_congr {R R' : Nat → (Nat → Nat) → Nat → Nat × Nat → Nat × Nat} {op : Nat → Nat → Bool} {ar : Nat → Nat → Nat} {S x : Nat} {p : Nat → Nat} {X : Nat} : ∀ (c u : Nat) (s : Nat × Nat), (∀ w s, u ≤ w → w < u + c → S.testBit w = false → op x w = true → R (S ||| (2 ^ x ||| 2 ^ w)) (va_up (va_up p x w) w x) (X ||| mkA (ar x w)) s = R' (S ||| (2 ^ x ||| 2 ^ w)) (va_up (va_up p x w) w x) (X ||| mkA (ar x w)) s) → RnU R op ar S x p X c u s = RnU R' op ar S x p X c u s := by
  intro c
  induction c with
  | zero => intro u s _; rfl
  | succ c ih =>
    intro u s h
    rw [RnU_s, RnU_s]
    have e : (if S.testBit u = false ∧ op x u = true then R (S ||| (2 ^ x ||| 2 ^ u)) (va_up (va_up p x u) u x) (X ||| mkA (ar x u)) s else s) = (if S.testBit u = false ∧ op x u = true then R' (S ||| (2 ^ x ||| 2 ^ u)) (va_up (va_up p x u) u x) (X ||| mkA (ar x u)) s else s) := by
      by_cases q : S.testBit u = false ∧ op x u = true
      · rw [if_pos q, if_pos q]; exact h u s (Nat.le_refl _) (by omega) q.1 q.2
      · rw [if_neg q, if_neg q]
    rw [e]
    exact ih (u + 1) _ (fun w s h1 h2 => h w s (by omega) (by omega))
theorem low_un {G : Gr} (hW : Wf G) {S : Nat} (h : dif (allN G) S ≠ 0) : low 16 (dif (allN G) S) < nd G ∧ (dif (allN G) S).testBit (low 16 (dif (allN G) S)) = true ∧ S.testBit (low 16 (dif (allN G) S)) = false ∧ ∀ i, i < low 16 (dif (allN G) S) → S.testBit i = true := by
  have ha := allN_lt hW
  have hn := hW.1
  have hle := dif_le (allN G) S
  have hb := low_bit (k := 16) (Nat.pos_of_ne_zero h) (show dif (allN G) S < 2 ^ 16 by omega)
  have hb2 := hb
  rw [dif_bit, Bool.and_eq_true, allN_bit, decide_eq_true_eq, Bool.not_eq_true'] at hb2
  refine ⟨hb2.1, hb, hb2.2, fun i hi => ?_⟩
  have := low_min (k := 16) (Nat.pos_of_ne_zero h) (show dif (allN G) S < 2 ^ 16 by omega) hi
  rw [dif_bit, allN_bit, decide_eq_true (show i < nd G by omega), Bool.true_and] at this
  cases x : S.testBit i with
  | true => rfl
  | false => rw [x] at this; cases this
theorem Rn_fuel {G : Gr} (hW : Wf G) {rk : Nat → Nat → Int32} {ar : Nat → Nat → Nat} {J : (Nat → Nat) → Nat → Nat × Nat → Nat × Nat} : ∀ (k S : Nat) (p : Nat → Nat) (X : Nat) (s : Nat × Nat), un G S ≤ k → Rn G (opB G rk) ar J k S p X s = Rn G (opB G rk) ar J (k + 1) S p X s := by
  have ha := allN_lt hW
  have hn := hW.1
  intro k
  induction k with
  | zero =>
    intro S p X s h
    rw [Rn_s, if_pos]
    · rfl
    · rcases Nat.eq_zero_or_pos (dif (allN G) S) with c | c
      · exact c
      · have := pcF_pos (Nat.lt_of_le_of_lt (dif_le (allN G) S) ha) c
        unfold un at h
        omega
  | succ k ih =>
    intro S p X s h
    rw [Rn_s, Rn_s]
    by_cases c : dif (allN G) S = 0
    · rw [if_pos c, if_pos c]
    · rw [if_neg c, if_neg c]
      obtain ⟨l1, l2, l3, -⟩ := low_un hW c
      have h1 := un_one (show low 16 (dif (allN G) S) < 16 by omega) l2
      rw [ih _ _ _ _ (by omega)]
      refine RnU_congr _ _ _ (fun w s hw1 hw2 hw3 hw4 => ih _ _ _ _ ?_)
      have hwn := (opB_in hW hw4).2.1
      have h2 := un_two (S := S) (x := low 16 (dif (allN G) S)) (u := w) (by omega) (by omega) (by omega) l2 (by rw [dif_bit, allN_bit, decide_eq_true hwn, hw3]; rfl)
      omega
theorem Rn_fuel' {G : Gr} (hW : Wf G) {rk : Nat → Nat → Int32} {ar : Nat → Nat → Nat} {J : (Nat → Nat) → Nat → Nat × Nat → Nat × Nat} {S : Nat} {p : Nat → Nat} {X : Nat} {s : Nat × Nat} : ∀ (d k : Nat), un G S ≤ k → Rn G (opB G rk) ar J k S p X s = Rn G (opB G rk) ar J (k + d) S p X s := by
  intro d
  induction d with
  | zero => intro k _; rfl
  | succ d ih => intro k h; rw [ih k h, Rn_fuel hW (k + d) S p X s (by omega)]; rfl
/-- who blocks once blocks for good -/
theorem Rn_blk {G : Gr} (hW : Wf G) {rk : Nat → Nat → Int32} {ar : Nat → Nat → Nat} {J : (Nat → Nat) → Nat → Nat × Nat → Nat × Nat} (hJ : JOK G rk J) : ∀ (k S : Nat) (p : Nat → Nat) (X : Nat) (s : Nat × Nat), (∀ v, S.testBit v = true → v < nd G) → Blk G rk S p → Rn G (opB G rk) ar J k S p X s = s := by
  have up : ∀ (S S' : Nat) (p p' : Nat → Nat), (∀ v, S.testBit v = true → S'.testBit v = true) → (∀ v, S.testBit v = true → p' v = p v) → Blk G rk S p → Blk G rk S' p' := by
    rintro S S' p p' h1 h2 ⟨v, o, a1, a2, a3, a4, a5⟩
    refine ⟨v, o, h1 v a1, h1 o a2, a3, ?_, ?_⟩
    · unfold Wn at a4 ⊢; rw [h2 v a1]; exact a4
    · unfold Wn at a5 ⊢; rw [h2 o a2]; exact a5
  intro k
  induction k with
  | zero =>
    intro S p X s hS hB
    exact (hJ p X s).1 (up S (allN G) p p (fun v hv => by rw [allN_bit]; exact decide_eq_true (hS v hv)) (fun _ _ => rfl) hB)
  | succ k ih =>
    intro S p X s hS hB
    rw [Rn_s]
    by_cases c : dif (allN G) S = 0
    · rw [if_pos c]
      exact (hJ p X s).1 (up S (allN G) p p (fun v hv => by rw [allN_bit]; exact decide_eq_true (hS v hv)) (fun _ _ => rfl) hB)
    · rw [if_neg c]
      obtain ⟨l1, l2, l3, -⟩ := low_un hW c
      generalize low 16 (dif (allN G) S) = x at l1 l2 l3
      have hx : ∀ v, S.testBit v = true → v ≠ x := fun v hv e => by rw [e, l3] at hv; cases hv
      rw [ih (S ||| 2 ^ x) _ X s (fun v hv => by
        rw [Nat.testBit_or, Nat.testBit_two_pow, Bool.or_eq_true, decide_eq_true_eq] at hv
        rcases hv with hv | hv
        · exact hS v hv
        · omega) (up S _ p _ (fun v hv => by rw [Nat.testBit_or, hv]; rfl) (fun v hv => up_n (hx v hv)) hB)]
      have : ∀ c u s, RnU (Rn G (opB G rk) ar J k) (opB G rk) ar S x p X c u s = s := by
        intro c
        induction c with
        | zero => intro u s; rfl
        | succ c ihc =>
          intro u s
          rw [RnU_s, ihc]
          by_cases q : S.testBit u = false ∧ opB G rk x u = true
          · rw [if_pos q]
            have hun := (opB_in hW q.2).2.1
            have hu : ∀ v, S.testBit v = true → v ≠ u := fun v hv e => by rw [e, q.1] at hv; cases hv
            refine ih _ _ _ s (fun v hv => ?_) (up S _ p _ (fun v hv => by rw [Nat.testBit_or, hv]; rfl) (fun v hv => by rw [up_n (hu v hv), up_n (hx v hv)]) hB)
            rw [Nat.testBit_or, Nat.testBit_or, Nat.testBit_two_pow, Nat.testBit_two_pow, Bool.or_eq_true, Bool.or_eq_true, decide_eq_true_eq, decide_eq_true_eq] at hv
            rcases hv with hv | hv | hv
            · exact hS v hv
            · omega
            · omega
          · rw [if_neg q]
      exact this _ _ _
