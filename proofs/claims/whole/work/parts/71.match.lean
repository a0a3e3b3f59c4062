/-! ===== pairs inside a set of nodes, and the families of the table ===== -/
/-- X is a set of living arcs inside S, no two with a node in common -/
def Mt (G : Gr) (S X : Nat) : Prop := X < 2 ^ 60 ∧ (∀ i, i < 60 → inX X i = true → i < md G ∧ al G i = true ∧ S.testBit (fr G i) = true ∧ S.testBit (tt G i) = true) ∧ ∀ i j, i < 60 → j < 60 → inX X i = true → inX X j = true → i ≠ j → fr G i ≠ fr G j ∧ fr G i ≠ tt G j ∧ tt G i ≠ fr G j ∧ tt G i ≠ tt G j
def Cov (G : Gr) (X v : Nat) : Prop := ∃ i, i < 60 ∧ inX X i = true ∧ (fr G i = v ∨ tt G i = v)
/-- nothing is left -/
def Pf (G : Gr) (S X : Nat) : Prop := ∀ v, S.testBit v = true → Cov G X v
/-- families by recursion over the least node -/
def FmR (lv : Nat) (gn : Nat → Nat → Int) (mk : Nat → Nat → Nat) (ad : Nat → Nat) : Nat → Nat → Int → Nat → Prop
  | 0, s, g, m => s = 0 ∧ g = 0 ∧ m = 0
  | k + 1, s, g, m => (s = 0 ∧ g = 0 ∧ m = 0) ∨ (0 < s ∧ (LF (FmR lv gn mk ad k) mk lv s g m ∨ CL (FmR lv gn mk ad k) gn mk ad s 0 g m))
def Fam (lv : Nat) (gn : Nat → Nat → Int) (mk : Nat → Nat → Nat) (ad : Nat → Nat) (s : Nat) (g : Int) (m : Nat) : Prop := ∃ k, FmR lv gn mk ad k s g m
theorem LF_mono {A B : Nat → Int → Nat → Prop} {mk : Nat → Nat → Nat} {lv s : Nat} (h : ∀ t g m, A t g m → B t g m) {g : Int} {m : Nat} (x : LF A mk lv s g m) : LF B mk lv s g m := by
  rcases x with ⟨a, b⟩ | ⟨a, b, g', m', c, d, e⟩
  · exact Or.inl ⟨a, h _ _ _ b⟩
  · exact Or.inr ⟨a, b, g', m', h _ _ _ c, d, e⟩
theorem CL_mono {A B : Nat → Int → Nat → Prop} {gn : Nat → Nat → Int} {mk : Nat → Nat → Nat} {ad : Nat → Nat} {s : Nat} (h : ∀ t g m, A t g m → B t g m) {g : Int} {m : Nat} (x : CL A gn mk ad s 0 g m) : CL B gn mk ad s 0 g m := by
  obtain ⟨j, j1, j2, j3, g', m', c, d, e⟩ := x
  exact ⟨j, j1, j2, j3, g', m', h _ _ _ c, d, e⟩
theorem Fam_0 (lv : Nat) (gn : Nat → Nat → Int) (mk : Nat → Nat → Nat) (ad : Nat → Nat) (g : Int) (m : Nat) : Fam lv gn mk ad 0 g m ↔ g = 0 ∧ m = 0 := by
  constructor
  · rintro ⟨k, h⟩
    cases k with
    | zero => exact h.2
    | succ k =>
      rcases h with h | ⟨h, -⟩
      · exact h.2
      · exact absurd h (Nat.lt_irrefl 0)
  · rintro ⟨h1, h2⟩; exact ⟨0, rfl, h1, h2⟩
theorem Fam_s (lv : Nat) (gn : Nat → Nat → Int) (mk : Nat → Nat → Nat) (ad : Nat → Nat) {s : Nat} (h0 : 0 < s) (g : Int) (m : Nat) : Fam lv gn mk ad s g m ↔ (LF (Fam lv gn mk ad) mk lv s g m ∨ CL (Fam lv gn mk ad) gn mk ad s 0 g m) := by
  constructor
  · rintro ⟨k, h⟩
    cases k with
    | zero => have := h.1; omega
    | succ k =>
      rcases h with ⟨h, -⟩ | ⟨-, h | h⟩
      · omega
      · exact Or.inl (LF_mono (fun t g m x => ⟨k, x⟩) h)
      · exact Or.inr (CL_mono (fun t g m x => ⟨k, x⟩) h)
  · rintro (h | h)
    · rcases h with ⟨a, k, b⟩ | ⟨a, b, g', m', ⟨k, c⟩, d, e⟩
      · exact ⟨k + 1, Or.inr ⟨h0, Or.inl (Or.inl ⟨a, b⟩)⟩⟩
      · exact ⟨k + 1, Or.inr ⟨h0, Or.inl (Or.inr ⟨a, b, g', m', c, d, e⟩)⟩⟩
    · obtain ⟨j, j1, j2, j3, g', m', ⟨k, c⟩, d, e⟩ := h
      exact ⟨k + 1, Or.inr ⟨h0, Or.inr ⟨j, j1, j2, j3, g', m', c, d, e⟩⟩⟩
/-- gn, mk tell of each two joined nodes the arc of the greatest value, of these the least -/
def Best (G : Gr) (val : Nat → Int) (gn : Nat → Nat → Int) (mk : Nat → Nat → Nat) : Prop := ∀ v u, (adj G v).testBit u = true → ∃ j, j < md G ∧ al G j = true ∧ Jn G j v u ∧ gn v u = val j ∧ mk v u = mkA j ∧ ∀ i, i < md G → al G i = true → Jn G i v u → val i < val j ∨ (val i = val j ∧ j ≤ i)
theorem mkA_le {i j : Nat} (h : j ≤ i) : mkA i ≤ mkA j := Nat.pow_le_pow_right (by decide) (by omega)
theorem CL_of {Fb : Nat → Int → Nat → Prop} {gn : Nat → Nat → Int} {mk : Nat → Nat → Nat} {ad : Nat → Nat} {s u : Nat} (hl : low 16 s < 16) (hu1 : low 16 s < u) (hu2 : u < 16) (hb : (ad (low 16 s)).testBit u = true) (hr : (rst s).testBit u = true) {g : Int} {m : Nat} (h : Fsh (Fb (dif (rst s) (2 ^ u))) (gn (low 16 s) u) (mk (low 16 s) u) g m) : CL Fb gn mk ad s 0 g m := by
  have hm : u ∈ nbr (ad (low 16 s)) (low 16 s) := (nbr_mem hl).mpr ⟨hu1, hu2, hb⟩
  obtain ⟨j, hj, hju⟩ := List.getElem_of_mem hm
  have e : (nbr (ad (low 16 s)) (low 16 s)).getD j 0 = u := by rw [gD hj]; exact hju
  exact ⟨j, Nat.zero_le _, hj, by rw [e]; exact hr, by rw [e]; exact h⟩
theorem CL_to {Fb : Nat → Int → Nat → Prop} {gn : Nat → Nat → Int} {mk : Nat → Nat → Nat} {ad : Nat → Nat} {s : Nat} (hl : low 16 s < 16) {g : Int} {m : Nat} (h : CL Fb gn mk ad s 0 g m) : ∃ u, low 16 s < u ∧ u < 16 ∧ (ad (low 16 s)).testBit u = true ∧ (rst s).testBit u = true ∧ Fsh (Fb (dif (rst s) (2 ^ u))) (gn (low 16 s) u) (mk (low 16 s) u) g m := by
  obtain ⟨j, -, j2, j3, j4⟩ := h
  have hm : (nbr (ad (low 16 s)) (low 16 s)).getD j 0 ∈ nbr (ad (low 16 s)) (low 16 s) := by rw [gD j2]; exact List.getElem_mem j2
  obtain ⟨h1, h2, h3⟩ := (nbr_mem hl).mp hm
  exact ⟨_, h1, h2, h3, j3, j4⟩
theorem rst_bit {s i : Nat} : (rst s).testBit i = (s.testBit i && !decide (low 16 s = i)) := by
  unfold rst; rw [dif_bit, Nat.testBit_two_pow]
theorem rst2_bit {s u i : Nat} : (dif (rst s) (2 ^ u)).testBit i = (s.testBit i && !decide (low 16 s = i) && !decide (u = i)) := by
  rw [dif_bit, rst_bit, Nat.testBit_two_pow]
/-- each member of the family is a set of pairs (that leaves nothing, where nothing may be left) -/
theorem Fam_sound {G : Gr} (hW : Wf G) {val : Nat → Int} {gn : Nat → Nat → Int} {mk : Nat → Nat → Nat} (hB : Best G val gn mk) {lv : Nat} (hlv : lv < 2) : ∀ (k s : Nat) (g : Int) (m : Nat), s < 65536 → FmR lv gn mk (adj G) k s g m → Mt G s m ∧ sumX val m 60 = g ∧ (lv = 1 → Pf G s m) := by
  have empty : ∀ s, Mt G s 0 ∧ sumX val 0 60 = 0 := by
    intro s
    have hz : ∀ i, inX 0 i = false := fun i => by unfold inX; exact Nat.zero_testBit _
    refine ⟨⟨by decide, fun i _ h => ?_, fun i j _ _ h => ?_⟩, ?_⟩
    · rw [hz] at h; cases h
    · rw [hz] at h; cases h
    · have : ∀ k, sumX val 0 k = 0 := by
        intro k
        induction k with
        | zero => rfl
        | succ k ih => unfold sumX; rw [ih, hz]; simp
      exact this 60
  intro k
  induction k with
  | zero =>
    rintro s g m hs ⟨rfl, rfl, rfl⟩
    exact ⟨(empty 0).1, (empty 0).2, fun _ v hv => by rw [Nat.zero_testBit] at hv; cases hv⟩
  | succ k ih =>
    rintro s g m hs (⟨rfl, rfl, rfl⟩ | ⟨h0, h | h⟩)
    · exact ⟨(empty 0).1, (empty 0).2, fun _ v hv => by rw [Nat.zero_testBit] at hv; cases hv⟩
    · rcases h with ⟨h1, h2⟩ | ⟨h1, -⟩
      · subst h1
        have hrl := rst_lt h0 hs
        obtain ⟨⟨a1, a2, a3⟩, a4, -⟩ := ih (rst s) g m (by omega) h2
        refine ⟨⟨a1, fun i hi hx => ?_, a3⟩, a4, fun h => absurd h (by decide)⟩
        obtain ⟨b1, b2, b3, b4⟩ := a2 i hi hx
        rw [rst_bit] at b3 b4
        simp at b3 b4
        exact ⟨b1, b2, b3.1, b4.1⟩
      · omega
    · have hl := low_lt (k := 16) h0 hs
      obtain ⟨u, u1, u2, u3, u4, g', m', u5, rfl, rfl⟩ := CL_to hl h
      obtain ⟨j, j1, j2, j3, j4, j5, -⟩ := hB _ _ u3
      have hj60 : j < 60 := by have := hW.2.1; omega
      have hrl := rst_lt h0 hs
      have hle := dif_le (rst s) (2 ^ u)
      obtain ⟨⟨a1, a2, a3⟩, a4, a5⟩ := ih _ g' m' (by omega) u5
      -- the nodes of the arcs of m' are neither the least nor u
      have apart : ∀ i, i < 60 → inX m' i = true → fr G i ≠ low 16 s ∧ fr G i ≠ u ∧ tt G i ≠ low 16 s ∧ tt G i ≠ u := by
        intro i hi hx
        obtain ⟨-, -, b3, b4⟩ := a2 i hi hx
        rw [rst2_bit] at b3 b4
        simp at b3 b4
        exact ⟨fun x => b3.1.2 x.symm, fun x => b3.2 x.symm, fun x => b4.1.2 x.symm, fun x => b4.2 x.symm⟩
      have hnot : inX m' j = false := by
        cases hh : inX m' j with
        | false => rfl
        | true =>
          have := apart j hj60 hh
          rcases j3 with ⟨x, y⟩ | ⟨x, y⟩
          · exact absurd x this.1
          · exact absurd x this.2.1
      rw [j5, j4]
      have hlb := low_bit (k := 16) h0 hs
      have hub : s.testBit u = true := by rw [rst_bit] at u4; simp at u4; exact u4.1
      have hends : s.testBit (fr G j) = true ∧ s.testBit (tt G j) = true := by
        rcases j3 with ⟨x, y⟩ | ⟨x, y⟩
        · rw [x, y]; exact ⟨hlb, hub⟩
        · rw [x, y]; exact ⟨hub, hlb⟩
      refine ⟨⟨?_, fun i hi hx => ?_, fun i l hi hl2 hx hy hne => ?_⟩, ?_, fun h1 v hv => ?_⟩
      · have e := add_bit (X := m') (j := 59 - j) hnot
        show m' + 2 ^ (59 - j) < 2 ^ 60
        rw [e]
        exact Nat.or_lt_two_pow a1 mkA_lt
      · rw [inX_add hj60 hnot hi] at hx
        rcases Bool.or_eq_true _ _ |>.mp hx with c | c
        · obtain ⟨b1, b2, b3, b4⟩ := a2 i hi c
          rw [rst2_bit] at b3 b4
          simp at b3 b4
          exact ⟨b1, b2, b3.1.1, b4.1.1⟩
        · have c := of_decide_eq_true c
          subst c
          exact ⟨j1, j2, hends⟩
      · rw [inX_add hj60 hnot hi] at hx
        rw [inX_add hj60 hnot hl2] at hy
        rcases Bool.or_eq_true _ _ |>.mp hx with c | c <;> rcases Bool.or_eq_true _ _ |>.mp hy with d | d
        · exact a3 i l hi hl2 c d hne
        · have d := of_decide_eq_true d
          subst d
          have := apart i hi c
          rcases j3 with ⟨x, y⟩ | ⟨x, y⟩ <;> rw [x, y] <;> exact ⟨by omega, by omega, by omega, by omega⟩
        · have c := of_decide_eq_true c
          subst c
          have := apart l hl2 d
          rcases j3 with ⟨x, y⟩ | ⟨x, y⟩ <;> rw [x, y] <;> exact ⟨by omega, by omega, by omega, by omega⟩
        · exact absurd ((of_decide_eq_true c).trans (of_decide_eq_true d).symm) hne
      · rw [sumX_add hj60 hnot 60 (Nat.le_refl _), if_pos hj60, a4]
      · by_cases c : v = low 16 s ∨ v = u
        · refine ⟨j, hj60, by rw [inX_add hj60 hnot hj60]; simp, ?_⟩
          rcases j3 with ⟨x, y⟩ | ⟨x, y⟩ <;> rcases c with c | c <;> subst c
          · exact Or.inl x
          · exact Or.inr y
          · exact Or.inr y
          · exact Or.inl x
        · have : (dif (rst s) (2 ^ u)).testBit v = true := by
            rw [rst2_bit, hv]
            have c1 : ¬ low 16 s = v := fun x => c (Or.inl x.symm)
            have c2 : ¬ u = v := fun x => c (Or.inr x.symm)
            simp [c1, c2]
          obtain ⟨i, i1, i2, i3⟩ := a5 h1 v this
          exact ⟨i, i1, by rw [inX_add hj60 hnot i1, i2]; rfl, i3⟩
/-- each set of pairs is reached by the family, or surpassed -/
theorem Fam_complete {G : Gr} (hW : Wf G) {val : Nat → Int} {gn : Nat → Nat → Int} {mk : Nat → Nat → Nat} (hB : Best G val gn mk) {lv : Nat} (hlv : lv < 2) : ∀ (c s X : Nat), s ≤ c → s < 65536 → Mt G s X → (lv = 1 → Pf G s X) → ∃ g m, Fam lv gn mk (adj G) s g m ∧ (sumX val X 60 < g ∨ (sumX val X 60 = g ∧ X ≤ m)) := by
  intro c
  induction c with
  | zero =>
    intro s X hc hs hM _
    have : s = 0 := by omega
    subst this
    have hX : X = 0 := setX_ext hM.1 (by decide) (fun i hi => by
      cases h : inX X i with
      | false => unfold inX; rw [Nat.zero_testBit]
      | true => have := (hM.2.1 i hi h).2.2.1; rw [Nat.zero_testBit] at this; cases this)
    subst hX
    refine ⟨0, 0, (Fam_0 _ _ _ _ _ _).mpr ⟨rfl, rfl⟩, Or.inr ⟨?_, Nat.le_refl _⟩⟩
    have : ∀ k, sumX val 0 k = 0 := by
      intro k
      induction k with
      | zero => rfl
      | succ k ih => unfold sumX inX; rw [ih, Nat.zero_testBit]; simp
    exact this 60
  | succ c ih =>
    intro s X hc hs hM hP
    by_cases h0 : s = 0
    · exact ih s X (by omega) hs hM hP
    · have h0 : 0 < s := by omega
      have hl := low_lt (k := 16) h0 hs
      have hrl := rst_lt h0 hs
      by_cases hcov : Cov G X (low 16 s)
      · obtain ⟨i, i1, i2, i3⟩ := hcov
        obtain ⟨b1, b2, b3, b4⟩ := hM.2.1 i i1 i2
        obtain ⟨w1, w2, w3, -⟩ := hW.2.2 i b1
        -- the other end
        obtain ⟨u, hJ, hub⟩ : ∃ u, Jn G i (low 16 s) u ∧ s.testBit u = true := by
          rcases i3 with x | x
          · exact ⟨tt G i, Or.inl ⟨x, rfl⟩, b4⟩
          · exact ⟨fr G i, Or.inr ⟨rfl, x⟩, b3⟩
        have hadj : (adj G (low 16 s)).testBit u = true := (adj_bit hW _ _).mpr ⟨i, b1, b2, hJ⟩
        obtain ⟨-, k2, k3⟩ := adj_in hW hadj
        have hu16 : u < 16 := by have := hW.1; omega
        have hlu : low 16 s < u := by
          rcases Nat.lt_trichotomy u (low 16 s) with x | x | x
          · rw [low_min (k := 16) h0 hs x] at hub; cases hub
          · exact absurd x.symm k3
          · exact x
        have hru : (rst s).testBit u = true := by
          rw [rst_bit, hub]
          have : ¬ low 16 s = u := by omega
          simp [this]
        have hle := dif_le (rst s) (2 ^ u)
        -- the rest of X
        have hXi : inX (dif X (mkA i)) i = false := by rw [inX_dif i1 i1]; simp
        have hXe : dif X (mkA i) + mkA i = X := dif_add i2
        have hM' : Mt G (dif (rst s) (2 ^ u)) (dif X (mkA i)) := by
          refine ⟨Nat.lt_of_le_of_lt (dif_le _ _) hM.1, fun l hl2 hx => ?_, fun l l' hl2 hl3 hx hy hne => ?_⟩
          · rw [inX_dif i1 hl2] at hx
            simp at hx
            obtain ⟨c1, c2, c3, c4⟩ := hM.2.1 l hl2 hx.1
            obtain ⟨d1, d2, d3, d4⟩ := hM.2.2 l i hl2 i1 hx.1 i2 hx.2
            refine ⟨c1, c2, ?_, ?_⟩
            · rw [rst2_bit, c3]
              have x1 : ¬ low 16 s = fr G l := by rcases hJ with ⟨x, y⟩ | ⟨x, y⟩ <;> omega
              have x2 : ¬ u = fr G l := by rcases hJ with ⟨x, y⟩ | ⟨x, y⟩ <;> omega
              simp [x1, x2]
            · rw [rst2_bit, c4]
              have x1 : ¬ low 16 s = tt G l := by rcases hJ with ⟨x, y⟩ | ⟨x, y⟩ <;> omega
              have x2 : ¬ u = tt G l := by rcases hJ with ⟨x, y⟩ | ⟨x, y⟩ <;> omega
              simp [x1, x2]
          · rw [inX_dif i1 hl2] at hx
            rw [inX_dif i1 hl3] at hy
            simp at hx hy
            exact hM.2.2 l l' hl2 hl3 hx.1 hy.1 hne
        obtain ⟨g, m, f1, f2⟩ := ih _ (dif X (mkA i)) (by omega) (by omega) hM' (fun h1 v hv => by
          rw [rst2_bit] at hv
          simp at hv
          obtain ⟨l, l1, l2, l3⟩ := hP h1 v hv.1.1
          refine ⟨l, l1, ?_, l3⟩
          rw [inX_dif i1 l1, l2]
          have : ¬ l = i := by
            intro x
            subst x
            rcases hJ with ⟨x, y⟩ | ⟨x, y⟩ <;> rcases l3 with z | z <;> omega
          simp [this])
        obtain ⟨j, j1, j2, j3, j4, j5, j6⟩ := hB _ _ hadj
        refine ⟨g + gn (low 16 s) u, m + mk (low 16 s) u, (Fam_s _ _ _ _ h0 _ _).mpr (Or.inr (CL_of hl hlu hu16 hadj hru ⟨g, m, f1, rfl, rfl⟩)), ?_⟩
        have hs1 : sumX val X 60 = sumX val (dif X (mkA i)) 60 + val i := by
          have := sumX_add (val := val) i1 hXi 60 (Nat.le_refl _)
          rw [hXe, if_pos i1] at this
          exact this
        rw [hs1, j4, j5]
        have hbest := j6 i b1 b2 hJ
        rcases f2 with f2 | ⟨f2, f3⟩
        · rcases hbest with x | ⟨x, -⟩
          · left; omega
          · left; omega
        · rcases hbest with x | ⟨x, y⟩
          · left; omega
          · right
            refine ⟨by omega, ?_⟩
            have := mkA_le y
            omega
      · -- the least node is left
        have hlv0 : lv = 0 := by
          rcases Nat.lt_or_ge lv 1 with x | x
          · omega
          · exact absurd (hP (by omega) _ (low_bit (k := 16) h0 hs)) hcov
        have hM' : Mt G (rst s) X := by
          refine ⟨hM.1, fun i i1 i2 => ?_, hM.2.2⟩
          obtain ⟨b1, b2, b3, b4⟩ := hM.2.1 i i1 i2
          have x1 : ¬ low 16 s = fr G i := fun x => hcov ⟨i, i1, i2, Or.inl x.symm⟩
          have x2 : ¬ low 16 s = tt G i := fun x => hcov ⟨i, i1, i2, Or.inr x.symm⟩
          refine ⟨b1, b2, ?_, ?_⟩
          · rw [rst_bit, b3]; simp [x1]
          · rw [rst_bit, b4]; simp [x2]
        obtain ⟨g, m, f1, f2⟩ := ih (rst s) X (by omega) (by omega) hM' (fun h => by omega)
        exact ⟨g, m, (Fam_s _ _ _ _ h0 _ _).mpr (Or.inl (Or.inl ⟨hlv0, f1⟩)), f2⟩
