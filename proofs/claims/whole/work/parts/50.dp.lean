/-! ===== best sets by parts: the greatest gain, of these the greatest mark ===== -/
theorem i32_add {a b : Int32} (h1 : -2147483648 ≤ a.toInt + b.toInt) (h2 : a.toInt + b.toInt < 2147483648) : (a + b).toInt = a.toInt + b.toInt := by
  rw [Int32.toInt_add]
  exact Int.bmod_eq_of_le (by omega) (by omega)
theorem i32_neg {a : Int32} (h1 : -2147483648 < a.toInt) : (-a).toInt = -a.toInt := by
  rw [Int32.toInt_neg]
  have := a.toInt_lt
  exact Int.bmod_eq_of_le (by omega) (by omega)
theorem cmp_le {u v : Nat} (hu : u < 2 ^ 63) (hv : v < 2 ^ 63) : lg_cmp (lN u) (lN v) ≤ 0 ↔ u ≤ v := by
  unfold lg_cmp
  by_cases c : v < u
  · rw [if_pos (show lN u > lN v from (pk_lLT hv hu).mpr c)]
    constructor
    · intro h; exact absurd h (by decide)
    · intro h; omega
  · rw [if_neg (fun h => c ((pk_lLT hv hu).mp h))]
    by_cases d : u = v
    · rw [if_pos (by rw [d])]; exact ⟨fun _ => by omega, fun _ => by decide⟩
    · rw [if_neg (fun h => d ((pk_lEQ hu hv).mp h))]; exact ⟨fun _ => by omega, fun _ => by decide⟩
theorem cmp_eq {u v : Nat} (hu : u < 2 ^ 63) (hv : v < 2 ^ 63) : lg_cmp (lN u) (lN v) = 0 ↔ u = v := by
  unfold lg_cmp
  by_cases c : v < u
  · rw [if_pos (show lN u > lN v from (pk_lLT hv hu).mpr c)]
    constructor
    · intro h; exact absurd h (by decide)
    · intro h; omega
  · rw [if_neg (fun h => c ((pk_lLT hv hu).mp h))]
    by_cases d : u = v
    · rw [if_pos (by rw [d])]; exact ⟨fun _ => d, fun _ => rfl⟩
    · rw [if_neg (fun h => d ((pk_lEQ hu hv).mp h))]; exact ⟨fun h => absurd h (by decide), fun h => absurd h d⟩
def Opt (Fa : Int → Nat → Prop) (o : Option (Int × Nat)) : Prop := match o with
  | none => ∀ g m, ¬ Fa g m
  | some x => Fa x.1 x.2 ∧ ∀ g m, Fa g m → g < x.1 ∨ (g = x.1 ∧ m ≤ x.2)
def omax (o q : Option (Int × Nat)) : Option (Int × Nat) := match o, q with
  | none, q => q
  | some x, none => some x
  | some x, some y => if x.1 < y.1 ∨ (x.1 = y.1 ∧ x.2 < y.2) then some y else some x
def osh (o : Option (Int × Nat)) (a : Int) (b : Nat) : Option (Int × Nat) := o.map (fun x => (x.1 + a, x.2 + b))
def Fsh (Fa : Int → Nat → Prop) (a : Int) (b : Nat) : Int → Nat → Prop := fun g m => ∃ g' m', Fa g' m' ∧ g = g' + a ∧ m = m' + b
theorem Opt.congr {A B : Int → Nat → Prop} {o : Option (Int × Nat)} (h : ∀ g m, A g m ↔ B g m) (ho : Opt A o) : Opt B o := by
  cases o with
  | none => exact fun g m x => ho g m ((h g m).mpr x)
  | some x => exact ⟨(h _ _).mp ho.1, fun g m y => ho.2 g m ((h g m).mpr y)⟩
theorem Opt.union {A B : Int → Nat → Prop} {o q : Option (Int × Nat)} (ho : Opt A o) (hq : Opt B q) : Opt (fun g m => A g m ∨ B g m) (omax o q) := by
  cases o with
  | none =>
    refine Opt.congr (A := B) (fun g m => ⟨Or.inr, fun h => h.elim (fun x => absurd x (ho g m)) id⟩) ?_
    exact hq
  | some x =>
    cases q with
    | none =>
      refine Opt.congr (A := A) (fun g m => ⟨Or.inl, fun h => h.elim id (fun x => absurd x (hq g m))⟩) ?_
      exact ho
    | some y =>
      show Opt _ (if x.1 < y.1 ∨ (x.1 = y.1 ∧ x.2 < y.2) then some y else some x)
      by_cases c : x.1 < y.1 ∨ (x.1 = y.1 ∧ x.2 < y.2)
      · rw [if_pos c]
        refine ⟨Or.inr hq.1, fun g m h => ?_⟩
        rcases h with h | h
        · have := ho.2 g m h; omega
        · exact hq.2 g m h
      · rw [if_neg c]
        refine ⟨Or.inl ho.1, fun g m h => ?_⟩
        rcases h with h | h
        · exact ho.2 g m h
        · have := hq.2 g m h; omega
theorem Opt.shift {A : Int → Nat → Prop} {o : Option (Int × Nat)} (ho : Opt A o) (a : Int) (b : Nat) : Opt (Fsh A a b) (osh o a b) := by
  cases o with
  | none => rintro g m ⟨g', m', h, -, -⟩; exact ho g' m' h
  | some x =>
    refine ⟨⟨x.1, x.2, ho.1, rfl, rfl⟩, ?_⟩
    rintro g m ⟨g', m', h, rfl, rfl⟩
    have := ho.2 g' m' h
    show g' + a < x.1 + a ∨ (g' + a = x.1 + a ∧ m' + b ≤ x.2 + b)
    omega
/-- what the two cells of a place hold -/
def enc (G : Int32) (M : Int64) (o : Option (Int × Nat)) : Prop := match o with
  | none => G = -1000000000
  | some x => G.toInt = x.1 ∧ -900000000 < x.1 ∧ x.1 < 900000000 ∧ M = lN x.2 ∧ x.2 < 2 ^ 63
theorem m9 : (-1000000000 : Int32).toInt = -1000000000 := by decide
theorem take_eq {F : Nat} (hF : 100000 ≤ F) {sl so se : Nat → Int32} {n : Nat} {e a b : Nat → Nat} (hR : RI sl so se n e a b) {p p' : Nat} (hp : p < n) (hp' : p' < n) {bg : Nat → Int32} {bm : Nat → Int64} {mg : Int32} {mm : Int64} {x : Int} {y : Nat} (hmg : mg.toInt = x) (hmm : mm = lN y) {o ob : Option (Int × Nat)} (hb : enc (bg p') (bm p') ob) (ho : enc (bg p) (bm p) o) (hbd : ∀ w, ob = some w → -900000000 < w.1 + x ∧ w.1 + x < 900000000 ∧ w.2 + y < 2 ^ 63) :
    ∃ bg' bm', f_X0_take F (nI p) (nI (e p')) mg mm sl so se (nI n) bg bm = some (bg', bm') ∧ enc (bg' p) (bm' p) (omax o (osh ob x y)) ∧ ∀ q, q ≠ p → bg' q = bg q ∧ bm' q = bm q := by
  have hn := hR.1
  unfold f_X0_take
  rw [placeOf_in hF hR hp', bS, if_neg (nI_ne_m1 (by omega)), rd_nI (by omega) (by decide)]
  cases ob with
  | none =>
    have hb' : bg p' = -1000000000 := hb
    rw [if_pos hb']
    refine ⟨bg, bm, rfl, ?_, fun q _ => ⟨rfl, rfl⟩⟩
    cases o <;> exact ho
  | some w =>
    obtain ⟨b1, b2, b3, b4, b5⟩ := hb
    obtain ⟨d1, d2, d3⟩ := hbd w rfl
    have hne : ¬ bg p' = -1000000000 := by
      intro h
      rw [h, m9] at b1
      omega
    have hsum : (bg p' + mg).toInt = w.1 + x := by
      rw [i32_add (by rw [b1, hmg]; omega) (by rw [b1, hmg]; omega), b1, hmg]
    have hmk : bm p' + mm = lN (w.2 + y) := by rw [b4, hmm, lN_add]
    rw [if_neg hne, rd_nI (by omega) (by decide), rd_nI (by omega) (by decide), rd_nI (by omega) (by decide)]
    simp only [jn]
    have hwr : (wr 2584 bg (nI p) (bg p' + mg) fun c1 => wr 2584 bm (nI p) (bm p' + mm) fun c2 => some (c1, c2)) = some (va_up bg p (bg p' + mg), va_up bm p (bm p' + mm)) := by
      rw [wr_nI (by omega) (by decide), wr_nI (by omega) (by decide)]
    have hnew : enc (va_up bg p (bg p' + mg) p) (va_up bm p (bm p' + mm) p) (some (w.1 + x, w.2 + y)) := by
      rw [up_s, up_s]
      exact ⟨hsum, d1, d2, hmk, d3⟩
    rw [hwr]
    cases o with
    | none =>
      have ho' : bg p = -1000000000 := ho
      rw [if_pos (by rw [Int32.lt_iff_toInt_lt, ho', m9, hsum]; omega)]
      exact ⟨_, _, rfl, hnew, fun q hq => ⟨up_n hq, up_n hq⟩⟩
    | some z =>
      obtain ⟨o1, o2, o3, o4, o5⟩ := ho
      have om : omax (some z) (osh (some w) x y) = (if z.1 < w.1 + x ∨ (z.1 = w.1 + x ∧ z.2 < w.2 + y) then some (w.1 + x, w.2 + y) else some z) := rfl
      rw [om]
      by_cases c1 : z.1 < w.1 + x
      · rw [if_pos (by rw [Int32.lt_iff_toInt_lt, o1, hsum]; exact c1), if_pos (Or.inl c1)]
        exact ⟨_, _, rfl, hnew, fun q hq => ⟨up_n hq, up_n hq⟩⟩
      · rw [if_neg (fun h => by rw [Int32.lt_iff_toInt_lt, o1, hsum] at h; exact c1 h), rd_nI (by omega) (by decide)]
        by_cases c2 : z.1 = w.1 + x
        · rw [if_pos (by rw [← Int32.toInt_inj, o1, hsum]; exact c2.symm), rd_nI (by omega) (by decide), hmk, o4]
          by_cases c3 : z.2 < w.2 + y
          · rw [if_neg (fun h => by rw [cmp_le (by omega) (by omega)] at h; omega), if_pos (Or.inr ⟨c2, c3⟩)]
            rw [hmk] at hnew
            exact ⟨_, _, rfl, hnew, fun q hq => ⟨up_n hq, up_n hq⟩⟩
          · rw [if_pos (by rw [cmp_le (by omega) (by omega)]; omega), if_neg (fun h => by omega)]
            exact ⟨bg, bm, rfl, ⟨o1, o2, o3, o4, o5⟩, fun q _ => ⟨rfl, rfl⟩⟩
        · rw [if_neg (by rw [← Int32.toInt_inj, o1, hsum]; exact fun h => c2 h.symm), if_neg (fun h => by omega)]
          exact ⟨bg, bm, rfl, ⟨o1, o2, o3, o4, o5⟩, fun q _ => ⟨rfl, rfl⟩⟩
