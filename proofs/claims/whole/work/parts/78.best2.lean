theorem Fam_bdM {G : Gr} (hW : Wf G) {way : Nat} {gn : Nat → Nat → Int} {mk : Nat → Nat → Nat} (hB : Best G (fun i => vm way (wt G i)) gn mk) {s : Nat} (hs : s < 65536) {g : Int} {m : Nat} (h : Fam (lvW way) gn mk (adj G) s g m) : -10000000 < g ∧ g < 10000000 := by
  have hl : lvW way < 2 := by unfold lvW; split <;> omega
  obtain ⟨k, h⟩ := h
  obtain ⟨s1, s2, -⟩ := Fam_sound hW hB hl k s g m hs h
  have hb := sumX_bd (val := fun i => vm way (wt G i)) (X := m) (B := 100000) (by decide) (fun i hi hx => by
    have := vm_bd (way := way) (hW.2.2 i (s1.2.1 i hi hx).1).2.2.2
    show -100000 ≤ vm way (wt G i) ∧ vm way (wt G i) ≤ 100000
    omega) 60 (Nat.le_refl _)
  rw [s2] at hb
  omega
theorem sub_allN {G : Gr} {t : Nat} (ht : t ≤ allN G) {i : Nat} (h : t.testBit i = true) : i < nd G := by
  have h1 : t < 2 ^ nd G := by unfold allN at ht; have := Nat.two_pow_pos (nd G); omega
  rcases Nat.lt_or_ge i (nd G) with c | c
  · exact c
  · have : t < 2 ^ i := Nat.lt_of_lt_of_le h1 (Nat.pow_le_pow_right (by decide) c)
    rw [Nat.testBit_lt_two_pow this] at h; cases h
theorem best_L {F : Nat} (hF : 100000 ≤ F) {G : Gr} (hW : Wf G) {way : Nat} (hw : way < 4) {near worth : Nat → Int32} (hT : WT G (fun i => vm way (wt G i)) (md G) near worth) {mk : Nat → Nat → Nat} (hB : Best G (fun i => vm way (wt G i)) (gnT worth) mk) {kk : (Nat → Int32) → Option ((Nat → Int32) × (Nat → Int32) × (Nat → Int32))} :
    ∀ (k m s : Nat) (best : Nat → Int32), s + k = allN G + 1 → 0 < s → k < m → (∀ t, t < s → Bv (Fam (lvW way) (gnT worth) mk (adj G) t) (best t)) → ∃ best', f_X12_findBest_L14 F (nI (nd G)) (nI way) worth kk m (nI s) best = kk best' ∧ ∀ t, t ≤ allN G → Bv (Fam (lvW way) (gnT worth) mk (adj G) t) (best' t) := by
  have h16 := hW.1
  have hall := allN_lt hW
  intro k
  induction k with
  | zero =>
    intro m s best e1 h0 hm hb
    obtain ⟨m, rfl⟩ : ∃ k, m = k + 1 := ⟨m - 1, by omega⟩
    refine ⟨best, ?_, fun t ht => hb t (by omega)⟩
    unfold f_X12_findBest_L14
    rw [mall_eq hW, if_pos ((nI_ltI (by omega) (by omega)).mpr (by omega))]
  | succ k ih =>
    intro m s best e1 h0 hm hb
    obtain ⟨m, rfl⟩ : ∃ k, m = k + 1 := ⟨m - 1, by omega⟩
    have hs : s < 65536 := by omega
    have hl := low_lt (k := 16) h0 hs
    have hrl := rst_lt h0 hs
    have hln : low 16 s < nd G := sub_allN (show s ≤ allN G by omega) (low_bit (k := 16) h0 hs)
    have hrst : nI s &&& (((1 : Int32) <<< (nI (low 16 s) &&& 31)) ^^^ (-1)) = nI (rst s) := without_nI s (by omega)
    have hadj : ∀ u, u < 16 → ((adj G (low 16 s)).testBit u = true ↔ -1000000000 < (worth (low 16 s * 16 + u)).toInt) := by
      intro u hu
      obtain ⟨-, o⟩ := hT (low 16 s) u hl hu
      constructor
      · intro hb
        obtain ⟨i, i1, i2, i3⟩ := (adj_bit hW _ _).mp hb
        rcases o with ⟨x, -⟩ | ⟨j, j1, -, -, j4, -⟩
        · exact absurd i3 (x i i1 i2)
        · rw [j4]
          have := (vm_bd (way := way) (hW.2.2 j j1).2.2.2).1
          show -1000000000 < vm way (wt G j)
          omega
      · intro hlt
        rcases o with ⟨-, x⟩ | ⟨j, j1, j2, j3, -⟩
        · rw [x, m9] at hlt; omega
        · exact (adj_bit hW _ _).mpr ⟨j, j1, j2, j3⟩
    have hwb : ∀ u, u < 16 → (adj G (low 16 s)).testBit u = true → -1000 ≤ gnT worth (low 16 s) u ∧ gnT worth (low 16 s) u ≤ 100000 := by
      intro u hu hbit
      obtain ⟨j, j1, -, -, j4, -⟩ := hB _ _ hbit
      rw [j4]
      exact vm_bd (way := way) (hW.2.2 j j1).2.2.2
    -- behind the leaving
    have go : ∀ (b : Int32) (A : Int → Nat → Prop), Bv A b → (∀ g m, A g m ↔ LF (Fam (lvW way) (gnT worth) mk (adj G)) mk (lvW way) s g m) →
        ∃ best', f_X12_findBest_L60 (nI (nd G)) worth (nI s) best (nI (low 16 s)) (fun v5 => wr 65536 best (nI s) v5 (fun b2 => f_X12_findBest_L14 F (nI (nd G)) (nI way) worth kk m (nI s + 1) b2)) F b (nI (low 16 s) + 1) = kk best' ∧ ∀ t, t ≤ allN G → Bv (Fam (lvW way) (gnT worth) mk (adj G) t) (best' t) := by
      intro b A hA hAL
      obtain ⟨b', x1, x2⟩ := best_in hW (worth := worth) (best := best) (Fb := Fam (lvW way) (gnT worth) mk (adj G)) (mk := mk) h0 hs (fun i hi => sub_allN (show s ≤ allN G by omega) hi) hadj hwb (fun t ht _ => hb t ht) (fun t ht g m h => Fam_bdM hW hB (by omega) h) (kk := fun v5 => wr 65536 best (nI s) v5 (fun b2 => f_X12_findBest_L14 F (nI (nd G)) (nI way) worth kk m (nI s + 1) b2)) (nd G - (low 16 s + 1)) F (low 16 s + 1) b A (by omega) (by omega) (by omega) hA
      have hfin : Bv (Fam (lvW way) (gnT worth) mk (adj G) s) b' := Bv.congr (fun g m => by
        rw [Fam_s _ _ _ _ h0, ← hAL g m]
        constructor
        · rintro (h | ⟨w, y1, y2, y3, y4, y5⟩)
          · exact Or.inl h
          · exact Or.inr (CL_of hl (by omega) (by omega) y3 y4 y5)
        · rintro (h | h)
          · exact Or.inl h
          · obtain ⟨w, y1, y2, y3, y4, y5⟩ := CL_to hl h
            exact Or.inr ⟨w, by omega, (adj_in hW y3).2.1, y3, y4, y5⟩) x2
      rw [nI_1 (low 16 s), x1, wr_nI (by omega) (by decide), nI_1]
      refine ih m (s + 1) _ (by omega) (by omega) (by omega) (fun t ht => ?_)
      by_cases c : t = s
      · rw [c, up_s]; exact hfin
      · rw [up_n c]; exact hb t (by omega)
    unfold f_X12_findBest_L14
    rw [mall_eq hW, if_neg (fun h => by rw [nI_ltI (by omega) (by omega)] at h; omega), mleast_eq hF h0 hs, bS]
    simp only [jn]
    rw [hrst]
    by_cases c : 2 ≤ way
    · rw [if_pos (show (2 : Int32) ≤ nI way from (nI_leI (a := 2) (by decide) (by omega)).mpr c)]
      refine go _ (fun _ _ => False) (Or.inl ⟨rfl, fun _ _ h => h⟩) (fun g m => ⟨False.elim, ?_⟩)
      have : lvW way = 1 := by unfold lvW; rw [if_neg (by omega)]
      rintro (⟨h, -⟩ | ⟨h, -⟩) <;> omega
    · rw [if_neg (show ¬ (2 : Int32) ≤ nI way from fun h => c ((nI_leI (a := 2) (by decide) (by omega)).mp h)), rd_nI (by omega) (by decide)]
      refine go _ _ (hb (rst s) (by omega)) (fun g m => ⟨fun h => Or.inl ⟨by unfold lvW; rw [if_pos (by omega)], h⟩, ?_⟩)
      have : lvW way = 0 := by unfold lvW; rw [if_pos (by omega)]
      rintro (⟨-, h⟩ | ⟨h, -⟩)
      · exact h
      · omega
/-- the greatest value of the pairs inside t -/
def Mb (G : Gr) (way t : Nat) (b : Int32) : Prop := (b = -1000000000 ∧ ∀ X, Mt G t X → (1 < way → Pf G t X) → False) ∨ (-10000000 < b.toInt ∧ b.toInt < 10000000 ∧ (∃ X, Mt G t X ∧ (1 < way → Pf G t X) ∧ sumX (fun i => vm way (wt G i)) X 60 = b.toInt) ∧ ∀ X, Mt G t X → (1 < way → Pf G t X) → sumX (fun i => vm way (wt G i)) X 60 ≤ b.toInt)
theorem mfindBest_eq {F : Nat} (hF : 100000 ≤ F) {G : Gr} (hW : Wf G) {nodes made : Int32} {fm tm wm am : Nat → Int32} (hC : MG G nodes made fm tm wm am) {way : Nat} (hw : way < 4) (best near worth : Nat → Int32) : ∃ best' near' worth', f_X12_findBest F (nI way) nodes made fm tm wm am best near worth = some (best', near', worth') ∧ WT G (fun i => vm way (wt G i)) (md G) near' worth' ∧ ∀ t, t ≤ allN G → Mb G way t (best' t) := by
  have hall := allN_lt hW
  obtain ⟨n1, w1, a1, a2⟩ := worth_eq hF hW hC hw near worth
  obtain ⟨mk, hB⟩ := mk_exists hW a2
  obtain ⟨b1, c1, c2⟩ := best_L hF hW hw a2 hB (kk := fun b => some (b, n1, w1)) (allN G) F 1 (va_up best 0 0) (by omega) (by omega) (by omega) (fun t ht => by
    have : t = 0 := by omega
    subst this
    rw [up_s]
    exact Or.inr ⟨by decide, ⟨0, (Fam_0 _ _ _ _ _ _).mpr ⟨rfl, rfl⟩⟩, fun g m h => by rw [((Fam_0 _ _ _ _ _ _).mp h).1]; decide⟩)
  refine ⟨b1, n1, w1, ?_, a2, fun t ht => ?_⟩
  · unfold f_X12_findBest
    rw [a1, b2S, z32, wr_nI (by decide) (by decide)]
    simp only [jn]
    rw [hC.1, show (1 : Int32) = nI 1 from rfl]
    exact c1
  · have hl : lvW way < 2 := by unfold lvW; split <;> omega
    have hlw : lvW way = 1 ↔ 1 < way := by unfold lvW; split <;> omega
    rcases c2 t ht with ⟨x1, x2⟩ | ⟨x1, ⟨m, k, x2⟩, x3⟩
    · refine Or.inl ⟨x1, fun X hX hP => ?_⟩
      obtain ⟨g, m, f1, -⟩ := Fam_complete hW hB hl t t X (Nat.le_refl _) (by omega) hX (fun x => hP (hlw.mp x))
      exact x2 g m f1
    · have hbd := Fam_bdM hW hB (show t < 65536 by omega) ⟨k, x2⟩
      obtain ⟨s1, s2, s3⟩ := Fam_sound hW hB hl k t _ m (by omega) x2
      refine Or.inr ⟨hbd.1, hbd.2, ⟨m, s1, fun x => s3 (hlw.mpr x), s2⟩, fun X hX hP => ?_⟩
      obtain ⟨g, m', f1, f2⟩ := Fam_complete hW hB hl t t X (Nat.le_refl _) (by omega) hX (fun x => hP (hlw.mp x))
      have := x3 g m' f1
      omega
