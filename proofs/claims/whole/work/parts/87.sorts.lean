/-! ===== the sorts: the greatest size, and the nodes that some set of that size leaves ===== -/
theorem sum1 (X : Nat) : ∀ k, sumX (fun _ => 1) X k = (cX X k : Int) := by
  intro k
  induction k with
  | zero => rfl
  | succ k ih =>
    unfold sumX
    rw [ih, cX_s]
    by_cases c : inX X k = true
    · rw [if_pos c, if_pos c]; omega
    · rw [if_neg c, if_neg c]; omega
theorem cX_add {X i : Nat} (hi : i < 60) (h : inX X i = false) : cX (X + mkA i) 60 = cX X 60 + 1 := by
  have h2 : sumX (fun _ => 1) (X + mkA i) 60 = sumX (fun _ => 1) X 60 + 1 := by
    have := sumX_add (val := fun _ => 1) hi h 60 (Nat.le_refl _)
    rw [if_pos hi] at this
    exact this
  rw [sum1, sum1] at h2
  omega
theorem Cov_add {G : Gr} {Y i v : Nat} (hi : i < 60) (h : inX Y i = false) : Cov G (Y + mkA i) v ↔ Cov G Y v ∨ fr G i = v ∨ tt G i = v := by
  constructor
  · rintro ⟨j, j1, j2, j3⟩
    rw [inX_add hi h j1] at j2
    rcases Bool.or_eq_true _ _ |>.mp j2 with c | c
    · exact Or.inl ⟨j, j1, c, j3⟩
    · have c := of_decide_eq_true c
      subst c
      exact Or.inr j3
  · rintro (⟨j, j1, j2, j3⟩ | c)
    · exact ⟨j, j1, by rw [inX_add hi h j1, j2]; rfl, j3⟩
    · exact ⟨i, hi, by rw [inX_add hi h hi]; simp, c⟩
theorem mt_add {G : Gr} (hW : Wf G) {s u Y i : Nat} (h0 : 0 < s) (hs : s < 65536) (hu : (rst s).testBit u = true) (hM : Mt G (dif (rst s) (2 ^ u)) Y) (hi : i < md G) (ha : al G i = true) (hJ : Jn G i (low 16 s) u) : inX Y i = false ∧ Mt G s (Y + mkA i) := by
  have hi60 : i < 60 := by have := hW.2.1; omega
  obtain ⟨a1, a2, a3⟩ := hM
  have apart : ∀ l, l < 60 → inX Y l = true → fr G l ≠ low 16 s ∧ fr G l ≠ u ∧ tt G l ≠ low 16 s ∧ tt G l ≠ u := by
    intro l hl hx
    obtain ⟨-, -, b3, b4⟩ := a2 l hl hx
    rw [rst2_bit] at b3 b4
    simp at b3 b4
    exact ⟨fun x => b3.1.2 x.symm, fun x => b3.2 x.symm, fun x => b4.1.2 x.symm, fun x => b4.2 x.symm⟩
  have hnot : inX Y i = false := by
    cases hh : inX Y i with
    | false => rfl
    | true =>
      have := apart i hi60 hh
      rcases hJ with ⟨x, y⟩ | ⟨x, y⟩
      · exact absurd x this.1
      · exact absurd x this.2.1
  have hlb := low_bit (k := 16) h0 hs
  have hub : s.testBit u = true := by rw [rst_bit] at hu; simp at hu; exact hu.1
  have hends : s.testBit (fr G i) = true ∧ s.testBit (tt G i) = true := by
    rcases hJ with ⟨x, y⟩ | ⟨x, y⟩
    · rw [x, y]; exact ⟨hlb, hub⟩
    · rw [x, y]; exact ⟨hub, hlb⟩
  refine ⟨hnot, ?_, fun l hl hx => ?_, fun l l' hl hl2 hx hy hne => ?_⟩
  · have e := add_bit (X := Y) (j := 59 - i) hnot
    show Y + 2 ^ (59 - i) < 2 ^ 60
    rw [e]
    exact Nat.or_lt_two_pow a1 mkA_lt
  · rw [inX_add hi60 hnot hl] at hx
    rcases Bool.or_eq_true _ _ |>.mp hx with c | c
    · obtain ⟨b1, b2, b3, b4⟩ := a2 l hl c
      rw [rst2_bit] at b3 b4
      simp at b3 b4
      exact ⟨b1, b2, b3.1.1, b4.1.1⟩
    · have c := of_decide_eq_true c
      subst c
      exact ⟨hi, ha, hends⟩
  · rw [inX_add hi60 hnot hl] at hx
    rw [inX_add hi60 hnot hl2] at hy
    rcases Bool.or_eq_true _ _ |>.mp hx with c | c <;> rcases Bool.or_eq_true _ _ |>.mp hy with d | d
    · exact a3 l l' hl hl2 c d hne
    · have d := of_decide_eq_true d
      subst d
      have := apart l hl c
      rcases hJ with ⟨x, y⟩ | ⟨x, y⟩ <;> rw [x, y] <;> exact ⟨by omega, by omega, by omega, by omega⟩
    · have c := of_decide_eq_true c
      subst c
      have := apart l' hl2 d
      rcases hJ with ⟨x, y⟩ | ⟨x, y⟩ <;> rw [x, y] <;> exact ⟨by omega, by omega, by omega, by omega⟩
    · exact absurd ((of_decide_eq_true c).trans (of_decide_eq_true d).symm) hne
theorem mt_split {G : Gr} (hW : Wf G) {s X : Nat} (h0 : 0 < s) (hs : s < 65536) (hM : Mt G s X) : (Mt G (rst s) X ∧ ¬ Cov G X (low 16 s)) ∨ ∃ u i, low 16 s < u ∧ u < 16 ∧ (adj G (low 16 s)).testBit u = true ∧ (rst s).testBit u = true ∧ i < md G ∧ al G i = true ∧ Jn G i (low 16 s) u ∧ inX X i = true ∧ Mt G (dif (rst s) (2 ^ u)) (dif X (mkA i)) := by
  by_cases hcov : Cov G X (low 16 s)
  · right
    obtain ⟨i, i1, i2, i3⟩ := hcov
    obtain ⟨b1, b2, b3, b4⟩ := hM.2.1 i i1 i2
    obtain ⟨w1, w2, w3, -⟩ := hW.2.2 i b1
    obtain ⟨u, hJ, hub⟩ : ∃ u, Jn G i (low 16 s) u ∧ s.testBit u = true := by
      rcases i3 with x | x
      · exact ⟨tt G i, Or.inl ⟨x, rfl⟩, b4⟩
      · exact ⟨fr G i, Or.inr ⟨rfl, x⟩, b3⟩
    have hadj : (adj G (low 16 s)).testBit u = true := (adj_bit hW _ _).mpr ⟨i, b1, b2, hJ⟩
    obtain ⟨-, k2, k3⟩ := adj_in hW hadj
    have hu16 : u < 16 := by have := hW.1; omega
    have hlu : low 16 s < u := by
      rcases Nat.lt_trichotomy u (low 16 s) with x | x | x
      · rw [low_min (k := 16) h0 hs x] at hub; cases hub
      · exact absurd x.symm k3
      · exact x
    have hru : (rst s).testBit u = true := by
      rw [rst_bit, hub]
      have : ¬ low 16 s = u := by omega
      simp [this]
    refine ⟨u, i, hlu, hu16, hadj, hru, b1, b2, hJ, i2, Nat.lt_of_le_of_lt (dif_le _ _) hM.1, fun l hl2 hx => ?_, fun l l' hl2 hl3 hx hy hne => ?_⟩
    · rw [inX_dif i1 hl2] at hx
      simp at hx
      obtain ⟨c1, c2, c3, c4⟩ := hM.2.1 l hl2 hx.1
      obtain ⟨d1, d2, d3, d4⟩ := hM.2.2 l i hl2 i1 hx.1 i2 hx.2
      refine ⟨c1, c2, ?_, ?_⟩
      · rw [rst2_bit, c3]
        have x1 : ¬ low 16 s = fr G l := by rcases hJ with ⟨x, y⟩ | ⟨x, y⟩ <;> omega
        have x2 : ¬ u = fr G l := by rcases hJ with ⟨x, y⟩ | ⟨x, y⟩ <;> omega
        simp [x1, x2]
      · rw [rst2_bit, c4]
        have x1 : ¬ low 16 s = tt G l := by rcases hJ with ⟨x, y⟩ | ⟨x, y⟩ <;> omega
        have x2 : ¬ u = tt G l := by rcases hJ with ⟨x, y⟩ | ⟨x, y⟩ <;> omega
        simp [x1, x2]
    · rw [inX_dif i1 hl2] at hx
      rw [inX_dif i1 hl3] at hy
      simp at hx hy
      exact hM.2.2 l l' hl2 hl3 hx.1 hy.1 hne
  · left
    refine ⟨⟨hM.1, fun i i1 i2 => ?_, hM.2.2⟩, hcov⟩
    obtain ⟨b1, b2, b3, b4⟩ := hM.2.1 i i1 i2
    have x1 : ¬ low 16 s = fr G i := fun x => hcov ⟨i, i1, i2, Or.inl x.symm⟩
    have x2 : ¬ low 16 s = tt G i := fun x => hcov ⟨i, i1, i2, Or.inr x.symm⟩
    refine ⟨b1, b2, ?_, ?_⟩
    · rw [rst_bit, b3]; simp [x1]
    · rw [rst_bit, b4]; simp [x2]
theorem mt_sub {G : Gr} {s t X : Nat} (h : ∀ v, s.testBit v = true → t.testBit v = true) (hM : Mt G s X) : Mt G t X := by
  refine ⟨hM.1, fun i i1 i2 => ?_, hM.2.2⟩
  obtain ⟨b1, b2, b3, b4⟩ := hM.2.1 i i1 i2
  exact ⟨b1, b2, h _ b3, h _ b4⟩
/-- of the sets in P the greatest size, and the nodes of s that one of that size leaves -/
def BL (G : Gr) (P : Nat → Prop) (s c L : Nat) : Prop := (∃ X, P X ∧ cX X 60 = c) ∧ (∀ X, P X → cX X 60 ≤ c) ∧ ∀ v, L.testBit v = true ↔ s.testBit v = true ∧ ∃ X, P X ∧ cX X 60 = c ∧ ¬ Cov G X v
theorem BL_congr {G : Gr} {P Q : Nat → Prop} {s c L : Nat} (h : ∀ X, P X ↔ Q X) (hb : BL G P s c L) : BL G Q s c L := by
  have : P = Q := funext fun X => propext (h X)
  subst this
  exact hb
theorem BL_eq {G : Gr} {P Q : Nat → Prop} {s c L M : Nat} (hp : BL G P s c L) (hq : BL G Q s c M) : BL G (fun X => P X ∨ Q X) s c (L ||| M) := by
  obtain ⟨⟨X, x1, x2⟩, x3, x4⟩ := hp
  obtain ⟨-, y3, y4⟩ := hq
  refine ⟨⟨X, Or.inl x1, x2⟩, fun Z hZ => hZ.elim (x3 Z) (y3 Z), fun v => ?_⟩
  rw [Nat.testBit_or, Bool.or_eq_true, x4, y4]
  constructor
  · rintro (⟨h1, Z, h2, h3⟩ | ⟨h1, Z, h2, h3⟩)
    · exact ⟨h1, Z, Or.inl h2, h3⟩
    · exact ⟨h1, Z, Or.inr h2, h3⟩
  · rintro ⟨h1, Z, h2 | h2, h3⟩
    · exact Or.inl ⟨h1, Z, h2, h3⟩
    · exact Or.inr ⟨h1, Z, h2, h3⟩
theorem BL_gt {G : Gr} {P Q : Nat → Prop} {s c L : Nat} (hp : BL G P s c L) (hq : ∀ X, Q X → cX X 60 < c) : BL G (fun X => P X ∨ Q X) s c L := by
  obtain ⟨⟨X, x1, x2⟩, x3, x4⟩ := hp
  refine ⟨⟨X, Or.inl x1, x2⟩, fun Z hZ => hZ.elim (x3 Z) (fun h => Nat.le_of_lt (hq Z h)), fun v => ?_⟩
  rw [x4]
  constructor
  · rintro ⟨h1, Z, h2, h3⟩
    exact ⟨h1, Z, Or.inl h2, h3⟩
  · rintro ⟨h1, Z, h2 | h2, h3, h4⟩
    · exact ⟨h1, Z, h2, h3, h4⟩
    · have := hq Z h2
      omega
theorem BL_lt {G : Gr} {P Q : Nat → Prop} {s c L : Nat} (hq : BL G Q s c L) (hp : ∀ X, P X → cX X 60 < c) : BL G (fun X => P X ∨ Q X) s c L := BL_congr (fun X => Or.comm) (BL_gt hq hp)
def SzQ (G : Gr) (P : Nat → Prop) (s : Nat) (x : Int32) : Prop := ∃ c L, x = nI (c * 65536 + L) ∧ c ≤ 8 ∧ L < 65536 ∧ BL G P s c L
theorem or_hi {c L M : Nat} (hL : L < 65536) (hM : M < 65536) : (c * 65536 + L) ||| (c * 65536 + M) = c * 65536 + (L ||| M) := by
  have h1 := Nat.two_pow_add_eq_or_of_lt (i := 16) hL c
  have h2 := Nat.two_pow_add_eq_or_of_lt (i := 16) hM c
  have h3 := Nat.two_pow_add_eq_or_of_lt (i := 16) (Nat.or_lt_two_pow (n := 16) hL hM) c
  rw [show c * 65536 = 2 ^ 16 * c by omega, h1, h2, h3]
  apply Nat.eq_of_testBit_eq
  intro j
  simp only [Nat.testBit_or]
  cases (2 ^ 16 * c).testBit j <;> cases L.testBit j <;> rfl
theorem or_lo {c L M : Nat} (hL : L < 65536) (hM : M < 65536) : (c * 65536 + L) ||| M = c * 65536 + (L ||| M) := by
  have h1 := Nat.two_pow_add_eq_or_of_lt (i := 16) hL c
  have h3 := Nat.two_pow_add_eq_or_of_lt (i := 16) (Nat.or_lt_two_pow (n := 16) hL hM) c
  rw [show c * 65536 = 2 ^ 16 * c by omega, h1, h3]
  apply Nat.eq_of_testBit_eq
  intro j
  simp only [Nat.testBit_or]
  cases (2 ^ 16 * c).testBit j <;> cases L.testBit j <;> rfl
theorem better_eq {G : Gr} {P Q : Nat → Prop} {s : Nat} {x y : Int32} (hx : SzQ G P s x) (hy : SzQ G Q s y) : SzQ G (fun X => P X ∨ Q X) s (f_X8_better x y) := by
  obtain ⟨c, L, rfl, c8, hL, hb⟩ := hx
  obtain ⟨d, M, rfl, d8, hM, hd⟩ := hy
  unfold f_X8_better
  rw [show (65536 : Int32) = nI 65536 from rfl, pk_div (by omega) (by decide) (by decide), pk_div (by omega) (by decide) (by decide), show (c * 65536 + L) / 65536 = c by omega, show (d * 65536 + M) / 65536 = d by omega]
  by_cases e : c = d
  · subst e
    rw [if_pos rfl, nI_or, or_hi hL hM]
    exact ⟨c, _, rfl, c8, Nat.or_lt_two_pow (n := 16) hL hM, BL_eq hb hd⟩
  · rw [if_neg (fun h => e ((nI_eq (by omega) (by omega)).mp h))]
    by_cases f : c ≤ d
    · rw [if_pos ((nI_leI (by omega) (by omega)).mpr f)]
      refine ⟨d, M, rfl, d8, hM, BL_lt hd (fun X hX => ?_)⟩
      have := hb.2.1 X hX
      omega
    · rw [if_neg (fun h => f ((nI_leI (by omega) (by omega)).mp h))]
      refine ⟨c, L, rfl, c8, hL, BL_gt hb (fun X hX => ?_)⟩
      have := hd.2.1 X hX
      omega
/-- sets of pairs of s in which the least node goes with u -/
def PUu (G : Gr) (s u X : Nat) : Prop := ∃ Y i, Mt G (dif (rst s) (2 ^ u)) Y ∧ i < md G ∧ al G i = true ∧ Jn G i (low 16 s) u ∧ X = Y + mkA i
def PIi (G : Gr) (s i X : Nat) : Prop := ∃ j, i ≤ j ∧ j < (nbr (adj G (low 16 s)) (low 16 s)).length ∧ (rst s).testBit ((nbr (adj G (low 16 s)) (low 16 s)).getD j 0) = true ∧ PUu G s ((nbr (adj G (low 16 s)) (low 16 s)).getD j 0) X
theorem PI_all {G : Gr} (hW : Wf G) {s : Nat} (h0 : 0 < s) (hs : s < 65536) (X : Nat) : (Mt G (rst s) X ∨ PIi G s 0 X) ↔ Mt G s X := by
  have hl := low_lt (k := 16) h0 hs
  constructor
  · rintro (h | ⟨j, -, j2, j3, Y, i, h1, h2, h3, h4, rfl⟩)
    · exact mt_sub (fun v hv => by rw [rst_bit] at hv; simp at hv; exact hv.1) h
    · exact (mt_add hW h0 hs j3 h1 h2 h3 h4).2
  · intro h
    rcases mt_split hW h0 hs h with ⟨h, -⟩ | ⟨u, i, h1, h2, h3, h4, h5, h6, h7, h8, h9⟩
    · exact Or.inl h
    · right
      have hm : u ∈ nbr (adj G (low 16 s)) (low 16 s) := (nbr_mem hl).mpr ⟨h1, h2, h3⟩
      obtain ⟨j, hj, hju⟩ := List.getElem_of_mem hm
      have e : (nbr (adj G (low 16 s)) (low 16 s)).getD j 0 = u := by rw [gD hj]; exact hju
      refine ⟨j, Nat.zero_le _, hj, by rw [e]; exact h4, ?_⟩
      rw [e]
      exact ⟨dif X (mkA i), i, h9, h5, h6, h7, (dif_add h8).symm⟩
theorem SzQ_leave {G : Gr} {s : Nat} (h0 : 0 < s) (hs : s < 65536) {x : Int32} (h : SzQ G (Mt G (rst s)) (rst s) x) : SzQ G (Mt G (rst s)) s (x ||| nI (2 ^ low 16 s)) := by
  obtain ⟨c, L, rfl, c8, hL, ⟨X, x1, x2⟩, x3, x4⟩ := h
  have hl := low_lt (k := 16) h0 hs
  have hp : 2 ^ low 16 s < 65536 := Nat.pow_lt_pow_right (n := 16) (by decide) hl
  rw [nI_or, or_lo hL hp]
  refine ⟨c, _, rfl, c8, Nat.or_lt_two_pow (n := 16) hL hp, ⟨X, x1, x2⟩, x3, fun v => ?_⟩
  rw [Nat.testBit_or, Nat.testBit_two_pow, Bool.or_eq_true, x4, decide_eq_true_eq, rst_bit]
  constructor
  · rintro (⟨h1, h2⟩ | h)
    · simp at h1
      exact ⟨h1.1, h2⟩
    · subst h
      refine ⟨low_bit (k := 16) h0 hs, X, x1, x2, ?_⟩
      rintro ⟨i, i1, i2, i3⟩
      obtain ⟨-, -, b3, b4⟩ := x1.2.1 i i1 i2
      rw [rst_bit] at b3 b4
      simp at b3 b4
      rcases i3 with i3 | i3
      · exact b3.2 i3.symm
      · exact b4.2 i3.symm
  · rintro ⟨h1, h2⟩
    by_cases e : low 16 s = v
    · exact Or.inr e
    · exact Or.inl ⟨by rw [h1]; simp [e], h2⟩
theorem SzQ_pair {G : Gr} (hW : Wf G) {s u : Nat} (h0 : 0 < s) (hs : s < 65536) (hu : (rst s).testBit u = true) (ha : (adj G (low 16 s)).testBit u = true) {x : Int32} (h : SzQ G (Mt G (dif (rst s) (2 ^ u))) (dif (rst s) (2 ^ u)) x) : SzQ G (PUu G s u) s (x + 65536) := by
  obtain ⟨c, L, rfl, c8, hL, ⟨X, x1, x2⟩, x3, x4⟩ := h
  obtain ⟨a, a1, a2, a3⟩ := (adj_bit hW _ _).mp ha
  have h60 : ∀ i, i < md G → i < 60 := fun i hi => by have := hW.2.1; omega
  obtain ⟨n1, n2⟩ := mt_add hW h0 hs hu x1 a1 a2 a3
  have hc := cX_add (h60 a a1) n1
  have h8 := mt_c8 hW n2
  refine ⟨c + 1, L, ?_, by omega, hL, ⟨X + mkA a, ⟨X, a, x1, a1, a2, a3, rfl⟩, by omega⟩, ?_, fun v => ?_⟩
  · rw [show (65536 : Int32) = nI 65536 from rfl, nI_add, show (c + 1) * 65536 + L = c * 65536 + L + 65536 by omega]
  · rintro Z ⟨Y, i, y1, y2, y3, y4, rfl⟩
    obtain ⟨m1, m2⟩ := mt_add hW h0 hs hu y1 y2 y3 y4
    rw [cX_add (h60 i y2) m1]
    have := x3 Y y1
    omega
  · rw [x4, rst2_bit]
    constructor
    · rintro ⟨h1, Y, h2, h3, h4⟩
      simp at h1
      obtain ⟨m1, m2⟩ := mt_add hW h0 hs hu h2 a1 a2 a3
      refine ⟨h1.1.1, Y + mkA a, ⟨Y, a, h2, a1, a2, a3, rfl⟩, by rw [cX_add (h60 a a1) m1, h3], ?_⟩
      rw [Cov_add (h60 a a1) m1]
      rintro (h | h)
      · exact h4 h
      · rcases a3 with ⟨z1, z2⟩ | ⟨z1, z2⟩ <;> omega
    · rintro ⟨h1, Z, ⟨Y, i, y1, y2, y3, y4, rfl⟩, h3, h4⟩
      obtain ⟨m1, m2⟩ := mt_add hW h0 hs hu y1 y2 y3 y4
      rw [cX_add (h60 i y2) m1] at h3
      rw [Cov_add (h60 i y2) m1] at h4
      have e1 : ¬ low 16 s = v := by
        intro e
        rcases y4 with ⟨z1, z2⟩ | ⟨z1, z2⟩ <;> exact h4 (Or.inr (by omega))
      have e2 : ¬ u = v := by
        intro e
        rcases y4 with ⟨z1, z2⟩ | ⟨z1, z2⟩ <;> exact h4 (Or.inr (by omega))
      exact ⟨by rw [h1]; simp [e1, e2], Y, y1, by omega, fun h => h4 (Or.inl h)⟩
theorem at_eq {F : Nat} (hF : 100000 ≤ F) {sl so se : Nat → Int32} {n : Nat} {e a b : Nat → Nat} (hR : RI sl so se n e a b) {p : Nat} (hp : p < n) (sz : Nat → Int32) : f_X8_at F (nI (e p)) sz sl so se (nI n) = some (sz p) := by
  have hn := hR.1
  unfold f_X8_at
  rw [placeOf_in hF hR hp, bS, if_neg (nI_ne_m1 (by omega)), rd_nI (by omega) (by decide)]
theorem leftsOf_L {F : Nat} (hF : 100000 ≤ F) {G : Gr} (hW : Wf G) {sl so se later laters : Nat → Int32} {n : Nat} {e a b : Nat → Nat} (hR : RI sl so se n e a b) (hrow : ∀ u, u < 16 → rowOK later laters (adj G) u)
    {p : Nat} (hp : p < n) (h0 : 0 < e p) (hcl : ∀ u, u ∈ nbr (adj G (low 16 (e p))) (low 16 (e p)) → (rst (e p)).testBit u = true → ∃ p', p' < p ∧ e p' = dif (rst (e p)) (2 ^ u)) {sz : Nat → Int32} (hsz : ∀ p', p' < p → SzQ G (Mt G (e p')) (e p') (sz p')) {kk : Int32 → Option Int32} :
    ∀ (k m i : Nat) (x : Int32) (A : Nat → Prop), i + k = (nbr (adj G (low 16 (e p))) (low 16 (e p))).length → k < m → SzQ G A (e p) x →
      ∃ y, f_X8_leftsOf_L28 F sz sl so se later laters (nI n) (nI (e p)) kk m x (nI i) = kk y ∧ SzQ G (fun X => A X ∨ PIi G (e p) i X) (e p) y := by
  have hn := hR.1
  have hs16 := (hR.2.2.2.1 p hp).2.1
  have hl16 : low 16 (e p) < 16 := low_lt (k := 16) h0 hs16
  obtain ⟨r1, r2⟩ := hrow _ hl16
  have hlen2 : (nbr (adj G (low 16 (e p))) (low 16 (e p))).length ≤ 15 - low 16 (e p) := nbrF_len (adj G (low 16 (e p))) (15 - low 16 (e p)) (low 16 (e p) + 1)
  have hrl := rst_lt h0 hs16
  intro k
  induction k with
  | zero =>
    intro m i x A e1 hm hA
    obtain ⟨m, rfl⟩ : ∃ k, m = k + 1 := ⟨m - 1, by omega⟩
    refine ⟨x, ?_, ?_⟩
    · unfold f_X8_leftsOf_L28
      rw [least_nI h0 hs16, rd_nI hl16 (by decide), r1, if_pos (by rw [nI_leI (by omega) (by omega)]; omega)]
    · obtain ⟨c, L, h1, h2, h3, h4⟩ := hA
      refine ⟨c, L, h1, h2, h3, BL_congr (fun X => ⟨Or.inl, fun h => h.elim id ?_⟩) h4⟩
      rintro ⟨j, j1, j2, -⟩; omega
  | succ k ih =>
    intro m i x A e1 hm hA
    obtain ⟨m, rfl⟩ : ∃ k, m = k + 1 := ⟨m - 1, by omega⟩
    have hi : i < (nbr (adj G (low 16 (e p))) (low 16 (e p))).length := by omega
    have hmem : (nbr (adj G (low 16 (e p))) (low 16 (e p))).getD i 0 ∈ nbr (adj G (low 16 (e p))) (low 16 (e p)) := by
      rw [gD hi]; exact List.getElem_mem hi
    have hu := (nbr_mem hl16).mp hmem
    have ru := r2 i hi
    have hsplit : ∀ X, PIi G (e p) i X ↔ ((rst (e p)).testBit ((nbr (adj G (low 16 (e p))) (low 16 (e p))).getD i 0) = true ∧ PUu G (e p) ((nbr (adj G (low 16 (e p))) (low 16 (e p))).getD i 0) X) ∨ PIi G (e p) (i + 1) X := by
      intro X
      constructor
      · rintro ⟨j, j1, j2, j3, j4⟩
        by_cases c : j = i
        · subst c; exact Or.inl ⟨j3, j4⟩
        · exact Or.inr ⟨j, by omega, j2, j3, j4⟩
      · rintro (⟨j3, j4⟩ | ⟨j, j1, j2, j3, j4⟩)
        · exact ⟨i, Nat.le_refl _, hi, j3, j4⟩
        · exact ⟨j, by omega, j2, j3, j4⟩
    generalize hug : (nbr (adj G (low 16 (e p))) (low 16 (e p))).getD i 0 = u at hmem hu ru hsplit
    unfold f_X8_leftsOf_L28
    rw [least_nI h0 hs16, rd_nI hl16 (by decide), r1, if_neg (fun h => by rw [nI_leI (by omega) (by omega)] at h; omega), cell_nI, rd_nI (by omega) (by decide), ru, rst_nI h0 hs16, has_nI (by omega) (by omega)]
    by_cases c : (rst (e p)).testBit u = true
    · rw [if_pos c, if_neg (by decide), without_nI _ (by omega), nI_1]
      obtain ⟨p', q1, q2⟩ := hcl u hmem c
      rw [← q2, at_eq hF hR (by omega), bS]
      have hz := hsz p' q1
      rw [q2] at hz
      obtain ⟨y, y1, y2⟩ := ih m (i + 1) _ (fun X => A X ∨ PUu G (e p) u X) (by omega) (by omega) (better_eq hA (SzQ_pair hW h0 hs16 c hu.2.2 hz))
      refine ⟨y, y1, ?_⟩
      obtain ⟨c', L, h1, h2, h3, h4⟩ := y2
      refine ⟨c', L, h1, h2, h3, BL_congr (fun X => ?_) h4⟩
      rw [hsplit X]
      constructor
      · rintro ((h | h) | h)
        · exact Or.inl h
        · exact Or.inr (Or.inl ⟨c, h⟩)
        · exact Or.inr (Or.inr h)
      · rintro (h | ⟨-, h⟩ | h)
        · exact Or.inl (Or.inl h)
        · exact Or.inl (Or.inr h)
        · exact Or.inr h
    · rw [if_neg c, if_pos rfl, nI_1]
      obtain ⟨y, y1, y2⟩ := ih m (i + 1) x A (by omega) (by omega) hA
      refine ⟨y, y1, ?_⟩
      obtain ⟨c', L, h1, h2, h3, h4⟩ := y2
      refine ⟨c', L, h1, h2, h3, BL_congr (fun X => ?_) h4⟩
      rw [hsplit X]
      constructor
      · rintro (h | h)
        · exact Or.inl h
        · exact Or.inr (Or.inr h)
      · rintro (h | ⟨h, -⟩ | h)
        · exact Or.inl h
        · exact absurd h c
        · exact Or.inr h
theorem leftsOf_eq {F : Nat} (hF : 100000 ≤ F) {G : Gr} (hW : Wf G) {sl so se later laters : Nat → Int32} {n : Nat} {e a b : Nat → Nat} (hR : RI sl so se n e a b) (hrow : ∀ u, u < 16 → rowOK later laters (adj G) u)
    {p : Nat} (hp : p < n) (h0 : 0 < e p) (hre : ∃ p', p' < p ∧ e p' = rst (e p)) (hcl : ∀ u, u ∈ nbr (adj G (low 16 (e p))) (low 16 (e p)) → (rst (e p)).testBit u = true → ∃ p', p' < p ∧ e p' = dif (rst (e p)) (2 ^ u)) {sz : Nat → Int32} (hsz : ∀ p', p' < p → SzQ G (Mt G (e p')) (e p') (sz p')) :
    ∃ y, f_X8_leftsOf F (nI (e p)) sz sl so se later laters (nI n) = some y ∧ SzQ G (Mt G (e p)) (e p) y := by
  have hs16 := (hR.2.2.2.1 p hp).2.1
  have hl16 : low 16 (e p) < 16 := low_lt (k := 16) h0 hs16
  have hlen2 : (nbr (adj G (low 16 (e p))) (low 16 (e p))).length ≤ 15 - low 16 (e p) := nbrF_len (adj G (low 16 (e p))) (15 - low 16 (e p)) (low 16 (e p) + 1)
  obtain ⟨p', q1, q2⟩ := hre
  have hz := hsz p' q1
  rw [q2] at hz
  have hz2 := SzQ_leave h0 hs16 hz
  obtain ⟨y, y1, c, L, h1, h2, h3, h4⟩ := leftsOf_L hF hW hR hrow hp h0 hcl hsz (kk := fun v => some v) _ F 0 _ (Mt G (rst (e p))) (Nat.zero_add _) (by omega) hz2
  refine ⟨y, ?_, c, L, h1, h2, h3, BL_congr (fun X => PI_all hW h0 hs16 X) h4⟩
  unfold f_X8_leftsOf
  simp only [jn]
  rw [rst_nI h0 hs16, ← q2, at_eq hF hR (by omega), bS, least_nI h0 hs16, shl_nI (by omega), z32]
  exact y1
theorem findLefts_L {F : Nat} (hF : 100000 ≤ F) {G : Gr} (hW : Wf G) {sl so se later laters : Nat → Int32} {n : Nat} {e a b : Nat → Nat} (hR : RI sl so se n e a b) (hrow : ∀ u, u < 16 → rowOK later laters (adj G) u) (hC : Cl 1 (adj G) n e) {kk : (Nat → Int32) → Option (Int32 × Int32 × (Nat → Int32))} :
    ∀ (k m p : Nat) (sz : Nat → Int32), p + k = n → k < m → (∀ p', p' < p → SzQ G (Mt G (e p')) (e p') (sz p')) →
      ∃ sz', f_X8_findLefts_L2 F sl so se later laters (nI n) kk m (nI p) sz = kk sz' ∧ ∀ p', p' < n → SzQ G (Mt G (e p')) (e p') (sz' p') := by
  have hn := hR.1
  intro k
  induction k with
  | zero =>
    intro m p sz e1 hm hd
    obtain ⟨m, rfl⟩ : ∃ k, m = k + 1 := ⟨m - 1, by omega⟩
    refine ⟨sz, ?_, fun p' hp' => hd p' (by omega)⟩
    unfold f_X8_findLefts_L2
    rw [if_pos (by rw [nI_leI (by omega) (by omega)]; omega)]
  | succ k ih =>
    intro m p sz e1 hm hd
    obtain ⟨m, rfl⟩ : ∃ k, m = k + 1 := ⟨m - 1, by omega⟩
    obtain ⟨s1, s2, -⟩ := hR.2.2.2.1 p (by omega)
    unfold f_X8_findLefts_L2
    rw [if_neg (fun h => by rw [nI_leI (by omega) (by omega)] at h; omega), rd_nI (by omega) (by decide), s1, nI_1]
    by_cases c : e p = 0
    · rw [if_pos (by rw [c]; rfl), wr_nI (by omega) (by decide)]
      refine ih m (p + 1) _ (by omega) (by omega) (fun p' hp' => ?_)
      by_cases d : p' = p
      · subst d
        rw [up_s, c]
        have hz : ∀ i, inX 0 i = false := fun i => by unfold inX; exact Nat.zero_testBit _
        have hc0 : ∀ X, Mt G 0 X → cX X 60 = 0 := by
          intro X hX
          have : X = 0 := setX_ext hX.1 (by decide) (fun i hi => by
            cases h : inX X i with
            | false => rw [hz]
            | true => have := (hX.2.1 i hi h).2.2.1; rw [Nat.zero_testBit] at this; cases this)
          subst this
          have : ∀ k, cX 0 k = 0 := by
            intro k
            induction k with
            | zero => rfl
            | succ k ih => rw [cX_s, ih, hz]; rfl
          exact this 60
        have hm0 : Mt G 0 0 := ⟨by decide, fun i _ h => (by rw [hz] at h; cases h), fun i j _ _ h => (by rw [hz] at h; cases h)⟩
        refine ⟨0, 0, rfl, by omega, by decide, ⟨0, hm0, hc0 0 hm0⟩, fun X hX => Nat.le_of_eq (hc0 X hX), fun v => ?_⟩
        rw [Nat.zero_testBit]
        constructor
        · intro h; cases h
        · rintro ⟨h, -⟩; cases h
      · rw [up_n d]
        exact hd p' (by omega)
    · have h0 : 0 < e p := by omega
      obtain ⟨c1, c2⟩ := hC p (by omega) h0
      obtain ⟨y, y1, y2⟩ := leftsOf_eq hF hW hR hrow (p := p) (by omega) h0 (c1 rfl) c2 hd
      rw [if_neg (nI_ne0 h0 (by omega)), rd_nI (by omega) (by decide), s1, y1, bS, wr_nI (by omega) (by decide)]
      refine ih m (p + 1) _ (by omega) (by omega) (fun p' hp' => ?_)
      by_cases d : p' = p
      · subst d
        rw [up_s]
        exact y2
      · rw [up_n d]
        exact hd p' (by omega)
theorem findLefts_eq {F : Nat} (hF : 100000 ≤ F) {G : Gr} (hW : Wf G) {n : Nat} {e : Nat → Nat} {sl so se later laters : Nat → Int32} (hT : Tab (allN G) 1 (adj G) n e sl so se later laters) (sz : Nat → Int32) :
    ∃ c L sz', f_X8_findLefts F (nI (nd G)) sz sl so se later laters (nI n) = some (nI L, nI (nd G) - 2 * nI c, sz') ∧ c ≤ 8 ∧ L < 65536 ∧ BL G (Mt G (allN G)) (allN G) c L := by
  obtain ⟨⟨a, b, hR⟩, h0, hl, hC, hP, hrow⟩ := hT
  have hn := hR.1
  obtain ⟨sz', t1, t2⟩ := findLefts_L hF hW hR hrow hC (kk := fun s' => (jn (fun (z_2 : Int32) => some ((z_2 &&& 65535), (nI (nd G) - (2 * (z_2 / 65536))), s')) (fun jj_68_2 => (if nI n ≤ 0 then (jj_68_2 0) else rd 2584 s' (nI n - 1) (fun y_5 => (jj_68_2 y_5)))))) n F 0 sz (by omega) (by omega) (fun p' h => by omega)
  obtain ⟨c, L, e1, e2, e3, e4⟩ := t2 (n - 1) (by omega)
  rw [hl] at e4
  have hpred : nI n - 1 = nI (n - 1) := by
    obtain ⟨k, rfl⟩ : ∃ k, n = k + 1 := ⟨n - 1, by omega⟩
    exact nI_pred k
  refine ⟨c, L, sz', ?_, e2, e3, e4⟩
  unfold f_X8_findLefts
  rw [z32]
  refine t1.trans ?_
  simp only [jn]
  rw [if_neg (fun h => by rw [z32, nI_leI (by omega) (by decide)] at h; omega), hpred, rd_nI (by omega) (by decide), e1, show (65536 : Int32) = nI 65536 from rfl, pk_div (by omega) (by decide) (by decide), show (c * 65536 + L) / 65536 = c by omega, show (65535 : Int32) = nI 65535 from rfl, nx_and, show (c * 65536 + L) &&& 65535 = (c * 65536 + L) % 2 ^ 16 from Nat.and_two_pow_sub_one_eq_mod _ 16, show (c * 65536 + L) % 2 ^ 16 = L by omega]
