/-! ===== the reference: findBest ===== -/
def Bv (A : Int → Nat → Prop) (b : Int32) : Prop := (b = -1000000000 ∧ ∀ g m, ¬ A g m) ∨ (-900000000 < b.toInt ∧ (∃ m, A b.toInt m) ∧ ∀ g m, A g m → g ≤ b.toInt)
theorem Bv.congr {A B : Int → Nat → Prop} {b : Int32} (h : ∀ g m, A g m ↔ B g m) (hb : Bv A b) : Bv B b := by
  rcases hb with ⟨h1, h2⟩ | ⟨h1, ⟨m, h2⟩, h3⟩
  · exact Or.inl ⟨h1, fun g m x => h2 g m ((h g m).mpr x)⟩
  · exact Or.inr ⟨h1, ⟨m, (h _ _).mp h2⟩, fun g m x => h3 g m ((h g m).mpr x)⟩
theorem mk_exists {G : Gr} (hW : Wf G) {val : Nat → Int} {near worth : Nat → Int32} (hT : WT G val (md G) near worth) : ∃ mk, Best G val (gnT worth) mk := by
  have hex : ∀ v u, (adj G v).testBit u = true → ∃ j, (j < md G ∧ al G j = true ∧ Jn G j v u ∧ gnT worth v u = val j) ∧ ∀ i, i < md G → al G i = true → Jn G i v u → val i < val j ∨ (val i = val j ∧ j ≤ i) := by
    intro v u hb
    obtain ⟨n1, n2, -⟩ := adj_in hW hb
    have := hW.1
    obtain ⟨i, i1, i2, i3⟩ := (adj_bit hW v u).mp hb
    obtain ⟨-, o⟩ := hT v u (by omega) (by omega)
    rcases o with ⟨h, -⟩ | ⟨j, j1, j2, j3, j4, j5⟩
    · exact absurd i3 (h i i1 i2)
    · obtain ⟨l, ⟨l1, l2, l3, l4⟩, l5⟩ := pk_least (fun j => j < md G ∧ al G j = true ∧ Jn G j v u ∧ gnT worth v u = val j) ⟨j, j1, j2, j3, j4⟩
      refine ⟨l, ⟨l1, l2, l3, l4⟩, fun i' a1 a2 a3 => ?_⟩
      have h1 := j5 i' a1 a2 a3
      have h2 : gnT worth v u = val j := j4
      by_cases c : val i' = val l
      · right
        refine ⟨c, ?_⟩
        rcases Nat.lt_or_ge i' l with x | x
        · exact absurd ⟨a1, a2, a3, by omega⟩ (l5 i' x)
        · exact x
      · left; omega
  refine ⟨fun v u => if h : (adj G v).testBit u = true then mkA (hex v u h).choose else 0, fun v u hb => ?_⟩
  obtain ⟨⟨c1, c2, c3, c4⟩, c5⟩ := (hex v u hb).choose_spec
  exact ⟨(hex v u hb).choose, c1, c2, c3, c4, by show (if h : (adj G v).testBit u = true then mkA (hex v u h).choose else 0) = _; rw [dif_pos hb], c5⟩
/-- the pairs of the least node with u, u + 1, .. -/
def PU (Fb : Nat → Int → Nat → Prop) (gn : Nat → Nat → Int) (mk : Nat → Nat → Nat) (ad : Nat → Nat) (s u n : Nat) : Int → Nat → Prop := fun g m => ∃ w, u ≤ w ∧ w < n ∧ (ad (low 16 s)).testBit w = true ∧ (rst s).testBit w = true ∧ Fsh (Fb (dif (rst s) (2 ^ w))) (gn (low 16 s) w) (mk (low 16 s) w) g m
theorem best_in {G : Gr} (hW : Wf G) {worth best : Nat → Int32} {Fb : Nat → Int → Nat → Prop} {mk : Nat → Nat → Nat} {s : Nat} (h0 : 0 < s) (hs : s < 65536) (hsub : ∀ i, s.testBit i = true → i < nd G)
    (hadj : ∀ u, u < 16 → ((adj G (low 16 s)).testBit u = true ↔ -1000000000 < (worth (low 16 s * 16 + u)).toInt)) (hwb : ∀ u, u < 16 → (adj G (low 16 s)).testBit u = true → -1000 ≤ gnT worth (low 16 s) u ∧ gnT worth (low 16 s) u ≤ 100000)
    (hbs : ∀ t, t < s → (∀ i, t.testBit i = true → s.testBit i = true) → Bv (Fb t) (best t)) (hbd : ∀ t, t < s → ∀ g m, Fb t g m → -10000000 < g ∧ g < 10000000)
    {kk : Int32 → Option ((Nat → Int32) × (Nat → Int32) × (Nat → Int32))} :
    ∀ (k m u : Nat) (b : Int32) (A : Int → Nat → Prop), u + k = nd G → low 16 s < u → k < m → Bv A b → ∃ b', f_X12_findBest_L60 (nI (nd G)) worth (nI s) best (nI (low 16 s)) kk m b (nI u) = kk b' ∧ Bv (fun g m => A g m ∨ PU Fb (gnT worth) mk (adj G) s u (nd G) g m) b' := by
  have h16 := hW.1
  have hl := low_lt (k := 16) h0 hs
  have hrl := rst_lt h0 hs
  have hrst : nI s &&& (((1 : Int32) <<< (nI (low 16 s) &&& 31)) ^^^ (-1)) = nI (rst s) := without_nI s (by omega)
  intro k
  induction k with
  | zero =>
    intro m u b A e1 hu hm hb
    obtain ⟨m, rfl⟩ : ∃ k, m = k + 1 := ⟨m - 1, by omega⟩
    refine ⟨b, ?_, Bv.congr (fun g m => ⟨Or.inl, fun h => h.elim id (fun ⟨w, x1, x2, _⟩ => by omega)⟩) hb⟩
    unfold f_X12_findBest_L60
    rw [if_pos ((nI_leI (by omega) (by omega)).mpr (by omega))]
  | succ k ih =>
    intro m u b A e1 hu hm hb
    obtain ⟨m, rfl⟩ : ∃ k, m = k + 1 := ⟨m - 1, by omega⟩
    have split : ∀ g m, PU Fb (gnT worth) mk (adj G) s u (nd G) g m ↔ ((adj G (low 16 s)).testBit u = true ∧ (rst s).testBit u = true ∧ Fsh (Fb (dif (rst s) (2 ^ u))) (gnT worth (low 16 s) u) (mk (low 16 s) u) g m) ∨ PU Fb (gnT worth) mk (adj G) s (u + 1) (nd G) g m := by
      intro g m
      constructor
      · rintro ⟨w, x1, x2, x3, x4, x5⟩
        by_cases c : w = u
        · subst c; exact Or.inl ⟨x3, x4, x5⟩
        · exact Or.inr ⟨w, by omega, x2, x3, x4, x5⟩
      · rintro (⟨x3, x4, x5⟩ | ⟨w, x1, x2, x3, x4, x5⟩)
        · exact ⟨u, Nat.le_refl _, by omega, x3, x4, x5⟩
        · exact ⟨w, by omega, x2, x3, x4, x5⟩
    -- nothing comes by u
    have skip : (∀ g m, ¬ ((adj G (low 16 s)).testBit u = true ∧ (rst s).testBit u = true ∧ Fsh (Fb (dif (rst s) (2 ^ u))) (gnT worth (low 16 s) u) (mk (low 16 s) u) g m)) → ∃ b', f_X12_findBest_L60 (nI (nd G)) worth (nI s) best (nI (low 16 s)) kk m b (nI u + 1) = kk b' ∧ Bv (fun g m => A g m ∨ PU Fb (gnT worth) mk (adj G) s u (nd G) g m) b' := by
      intro hno
      rw [nI_1]
      obtain ⟨b', x1, x2⟩ := ih m (u + 1) b A (by omega) (by omega) (by omega) hb
      refine ⟨b', x1, Bv.congr (fun g m => ?_) x2⟩
      rw [split g m]
      constructor
      · rintro (h | h)
        · exact Or.inl h
        · exact Or.inr (Or.inr h)
      · rintro (h | h | h)
        · exact Or.inl h
        · exact absurd h (hno g m)
        · exact Or.inr h
    unfold f_X12_findBest_L60
    rw [if_neg (fun h => by rw [nI_leI (by omega) (by omega)] at h; omega), hrst, bitv_nI (by omega) (by omega)]
    by_cases c1 : (rst s).testBit u = true
    · rw [if_pos c1, if_pos rfl, cell2_nI, rd_nI (by omega) (by decide)]
      by_cases c2 : worth (low 16 s * 16 + u) ≤ -1000000000
      · rw [if_pos c2]
        refine skip (fun g m h => ?_)
        rw [Int32.le_iff_toInt_le, m9] at c2
        have := (hadj u (by omega)).mp h.1
        omega
      · have c2' : (adj G (low 16 s)).testBit u = true := (hadj u (by omega)).mpr (by rw [Int32.le_iff_toInt_le, m9] at c2; omega)
        have hle := dif_le (rst s) (2 ^ u)
        rw [if_neg c2, without_nI _ (by omega), rd_nI (by omega) (by decide)]
        have hB := hbs (dif (rst s) (2 ^ u)) (by omega) (fun i hi => by rw [rst2_bit] at hi; simp at hi; exact hi.1.1)
        rcases hB with ⟨x1, x2⟩ | ⟨x1, ⟨mm, x2⟩, x3⟩
        · rw [if_pos (by rw [x1, Int32.le_iff_toInt_le]; omega)]
          refine skip (fun g m h => ?_)
          obtain ⟨-, -, g', m', y1, -⟩ := h
          exact x2 g' m' y1
        · have hb1 := hbd _ (show dif (rst s) (2 ^ u) < s by omega) _ _ x2
          have hw1 := hwb u (by omega) c2'
          unfold gnT at hw1
          rw [if_neg (by rw [Int32.le_iff_toInt_le, m9]; omega), rd_nI (by omega) (by decide), rd_nI (by omega) (by decide)]
          have hsum : (worth (low 16 s * 16 + u) + best (dif (rst s) (2 ^ u))).toInt = (worth (low 16 s * 16 + u)).toInt + (best (dif (rst s) (2 ^ u))).toInt := i32_add (by omega) (by omega)
          -- the best by u
          have hone : ∀ g m, ((adj G (low 16 s)).testBit u = true ∧ (rst s).testBit u = true ∧ Fsh (Fb (dif (rst s) (2 ^ u))) (gnT worth (low 16 s) u) (mk (low 16 s) u) g m) → g ≤ (worth (low 16 s * 16 + u) + best (dif (rst s) (2 ^ u))).toInt := by
            rintro g m ⟨-, -, g', m', y1, rfl, -⟩
            have := x3 g' m' y1
            rw [hsum]
            unfold gnT
            omega
          have hthe : ∃ m, ((adj G (low 16 s)).testBit u = true ∧ (rst s).testBit u = true ∧ Fsh (Fb (dif (rst s) (2 ^ u))) (gnT worth (low 16 s) u) (mk (low 16 s) u) (worth (low 16 s * 16 + u) + best (dif (rst s) (2 ^ u))).toInt m) := ⟨_, c2', c1, _, mm, x2, by rw [hsum]; unfold gnT; omega, rfl⟩
          by_cases c3 : worth (low 16 s * 16 + u) + best (dif (rst s) (2 ^ u)) ≤ b
          · rw [if_pos c3, nI_1]
            rw [Int32.le_iff_toInt_le] at c3
            obtain ⟨b', z1, z2⟩ := ih m (u + 1) b (fun g m => A g m ∨ ((adj G (low 16 s)).testBit u = true ∧ (rst s).testBit u = true ∧ Fsh (Fb (dif (rst s) (2 ^ u))) (gnT worth (low 16 s) u) (mk (low 16 s) u) g m)) (by omega) (by omega) (by omega) (by
              rcases hb with ⟨y1, y2⟩ | ⟨y1, ⟨y4, y2⟩, y3⟩
              · rw [y1, m9, hsum] at c3; omega
              · exact Or.inr ⟨y1, ⟨y4, Or.inl y2⟩, fun g m h => h.elim (y3 g m) (fun h => Int.le_trans (hone g m h) c3)⟩)
            refine ⟨b', z1, Bv.congr (fun g m => ?_) z2⟩
            rw [split g m]
            constructor
            · rintro ((h | h) | h)
              · exact Or.inl h
              · exact Or.inr (Or.inl h)
              · exact Or.inr (Or.inr h)
            · rintro (h | h | h)
              · exact Or.inl (Or.inl h)
              · exact Or.inl (Or.inr h)
              · exact Or.inr h
          · rw [if_neg c3, nI_1]
            rw [Int32.le_iff_toInt_le] at c3
            obtain ⟨b', z1, z2⟩ := ih m (u + 1) _ (fun g m => A g m ∨ ((adj G (low 16 s)).testBit u = true ∧ (rst s).testBit u = true ∧ Fsh (Fb (dif (rst s) (2 ^ u))) (gnT worth (low 16 s) u) (mk (low 16 s) u) g m)) (by omega) (by omega) (by omega) (by
              obtain ⟨m0, hm0⟩ := hthe
              refine Or.inr ⟨by rw [hsum]; omega, ⟨m0, Or.inr hm0⟩, fun g m h => h.elim (fun h => ?_) (hone g m)⟩
              rcases hb with ⟨y1, y2⟩ | ⟨y1, -, y3⟩
              · exact absurd h (y2 g m)
              · have := y3 g m h; omega)
            refine ⟨b', z1, Bv.congr (fun g m => ?_) z2⟩
            rw [split g m]
            constructor
            · rintro ((h | h) | h)
              · exact Or.inl h
              · exact Or.inr (Or.inl h)
              · exact Or.inr (Or.inr h)
            · rintro (h | h | h)
              · exact Or.inl (Or.inl h)
              · exact Or.inl (Or.inr h)
              · exact Or.inr h
    · rw [if_neg c1, if_neg (by decide)]
      exact skip (fun g m h => c1 h.2.1)
