/-! ===== the nodes beside, and the reference's sorts ===== -/
def Bes (G : Gr) (L B : Nat) : Prop := ∀ v, B.testBit v = true ↔ v < nd G ∧ L.testBit v = false ∧ ∃ u, (adj G v).testBit u = true ∧ L.testBit u = true
theorem and_z {a b : Nat} : a &&& b = 0 ↔ ¬ ∃ u, a.testBit u = true ∧ b.testBit u = true := by
  constructor
  · rintro h ⟨u, h1, h2⟩
    have := Nat.testBit_and a b u
    rw [h, h1, h2, Nat.zero_testBit] at this
    cases this
  · intro h
    apply Nat.eq_of_testBit_eq
    intro j
    rw [Nat.testBit_and, Nat.zero_testBit]
    cases h1 : a.testBit j with
    | false => rfl
    | true =>
      cases h2 : b.testBit j with
      | false => rfl
      | true => exact absurd ⟨j, h1, h2⟩ h
theorem Bes_lt {G : Gr} (hW : Wf G) {L B : Nat} (h : Bes G L B) : B < 65536 := lt_of_bits (n := 16) (fun v hv => by have := ((h v).mp hv).1; have := hW.1; omega)
theorem findBesides_L {G : Gr} (hW : Wf G) {joined : Nat → Int32} (hj : ∀ v, v < 16 → joined v = nI (adj G v)) {L : Nat} (hL : L < 65536) {kk : Int32 → Option Int32} :
    ∀ (k m v B : Nat), v + k = nd G → k < m → (∀ w, B.testBit w = true ↔ w < v ∧ L.testBit w = false ∧ ∃ u, (adj G w).testBit u = true ∧ L.testBit u = true) → ∃ B', f_X8_findBesides_L7 (nI (nd G)) joined (nI L) kk m (nI v) (nI B) = kk (nI B') ∧ Bes G L B' := by
  have hn := hW.1
  intro k
  induction k with
  | zero =>
    intro m v B e1 hm hB
    obtain ⟨m, rfl⟩ : ∃ k, m = k + 1 := ⟨m - 1, by omega⟩
    refine ⟨B, ?_, fun w => ?_⟩
    · unfold f_X8_findBesides_L7
      rw [if_pos (by rw [nI_leI (by omega) (by omega)]; omega)]
    · rw [hB, show v = nd G by omega]
  | succ k ih =>
    intro m v B e1 hm hB
    obtain ⟨m, rfl⟩ : ∃ k, m = k + 1 := ⟨m - 1, by omega⟩
    unfold f_X8_findBesides_L7
    rw [if_neg (fun h => by rw [nI_leI (by omega) (by omega)] at h; omega), has_nI (by omega) (by omega), nI_1]
    by_cases c : L.testBit v = true
    · rw [if_pos c, if_neg (by decide)]
      refine ih m (v + 1) B (by omega) (by omega) (fun w => ?_)
      rw [hB]
      constructor
      · rintro ⟨h1, h2⟩; exact ⟨by omega, h2⟩
      · rintro ⟨h1, h2⟩
        refine ⟨?_, h2⟩
        by_cases d : w = v
        · subst d; rw [c] at h2; cases h2.1
        · omega
    · rw [if_neg c, if_pos rfl, rd_nI (by omega) (by decide), hj v (by omega), nx_and]
      by_cases d : adj G v &&& L = 0
      · rw [d, if_pos (show nI 0 = (0 : Int32) from rfl)]
        refine ih m (v + 1) B (by omega) (by omega) (fun w => ?_)
        rw [hB]
        constructor
        · rintro ⟨h1, h2⟩; exact ⟨by omega, h2⟩
        · rintro ⟨h1, h2⟩
          refine ⟨?_, h2⟩
          by_cases f : w = v
          · subst f; exact absurd h2.2 (and_z.mp d)
          · omega
      · have hlt : adj G v &&& L ≤ L := Nat.and_le_right
        rw [if_neg (nI_ne0 (by omega) (by omega)), shl_nI (by omega), nI_or]
        refine ih m (v + 1) _ (by omega) (by omega) (fun w => ?_)
        rw [Nat.testBit_or, Nat.testBit_two_pow, Bool.or_eq_true, hB, decide_eq_true_eq]
        have hd : ∃ u, (adj G v).testBit u = true ∧ L.testBit u = true := Classical.byContradiction (fun h => d (and_z.mpr h))
        constructor
        · rintro (⟨h1, h2⟩ | h)
          · exact ⟨by omega, h2⟩
          · subst h
            exact ⟨by omega, by cases h : L.testBit v with | false => rfl | true => exact absurd h c, hd⟩
        · rintro ⟨h1, h2⟩
          by_cases f : v = w
          · exact Or.inr f
          · exact Or.inl ⟨by omega, h2⟩
theorem findBesides_eq {F : Nat} (hF : 100000 ≤ F) {G : Gr} (hW : Wf G) {joined : Nat → Int32} (hj : ∀ v, v < 16 → joined v = nI (adj G v)) {L : Nat} (hL : L < 65536) : ∃ B, f_X8_findBesides F (nI (nd G)) joined (nI L) = some (nI B) ∧ Bes G L B := by
  have hn := hW.1
  unfold f_X8_findBesides
  simp only [jn]
  rw [z32]
  exact findBesides_L hW hj hL (kk := fun x => some x) (nd G) F 0 0 (by omega) (by omega) (fun w => by
    rw [Nat.zero_testBit]
    constructor
    · intro h; cases h
    · rintro ⟨h, -⟩; omega)
def srt (L B v : Nat) : Int32 := if L.testBit v = true then 0 else if B.testBit v = true then 1 else 2
theorem sortOf_eq {L B v : Nat} (hL : L < 65536) (hB : B < 65536) (hv : v < 16) : f_X8_sortOf (nI v) (nI L) (nI B) = srt L B v := by
  unfold f_X8_sortOf srt
  rw [has_nI (by omega) (by omega), has_nI (by omega) (by omega)]
  by_cases c : L.testBit v = true
  · rw [if_pos c, if_pos c, if_neg (by decide)]
  · rw [if_neg c, if_neg c, if_pos rfl]
    by_cases d : B.testBit v = true
    · rw [if_pos d, if_pos d, if_neg (by decide)]
    · rw [if_neg d, if_neg d, if_pos rfl]
def Mx (G : Gr) (s c : Nat) : Prop := (∃ X, Mt G s X ∧ cX X 60 = c) ∧ ∀ X, Mt G s X → cX X 60 ≤ c
theorem Mx_one {G : Gr} {s c d : Nat} (h : Mx G s c) (h' : Mx G s d) : c = d := by
  obtain ⟨⟨X, x1, x2⟩, x3⟩ := h
  obtain ⟨⟨Y, y1, y2⟩, y3⟩ := h'
  have := x3 Y y1
  have := y3 X x1
  omega
theorem mt_0 (G : Gr) (s : Nat) : Mt G s 0 := by
  have hz : ∀ i, inX 0 i = false := fun i => by unfold inX; exact Nat.zero_testBit _
  exact ⟨by decide, fun i _ h => (by rw [hz] at h; cases h), fun i j _ _ h => (by rw [hz] at h; cases h)⟩
theorem mb0 {G : Gr} (hW : Wf G) {t : Nat} {b : Int32} (h : Mb G 0 t b) : ∃ c, b = nI c ∧ c ≤ 8 ∧ Mx G t c := by
  have hv : (fun i => vm 0 (wt G i)) = (fun _ => (1 : Int)) := funext fun i => by unfold vm; rw [if_pos rfl]
  rcases h with ⟨-, h⟩ | ⟨h1, h2, ⟨X, x1, -, x2⟩, h3⟩
  · exact absurd (h 0 (mt_0 G t) (fun h => absurd h (by decide))) id
  · rw [hv, sum1] at x2
    have h8 := mt_c8 hW x1
    refine ⟨cX X 60, ?_, h8, ⟨X, x1, rfl⟩, fun Y hY => ?_⟩
    · rw [← Int32.toInt_inj, nI_toInt (by omega), x2]
    · have := h3 Y hY (fun h => absurd h (by decide))
      rw [hv, sum1] at this
      omega
theorem mt_without {G : Gr} {s v X : Nat} : Mt G (dif s (2 ^ v)) X ↔ Mt G s X ∧ ¬ Cov G X v := by
  constructor
  · intro h
    refine ⟨mt_sub (fun w hw => by rw [dif_bit] at hw; simp at hw; exact hw.1) h, ?_⟩
    rintro ⟨i, i1, i2, i3⟩
    obtain ⟨-, -, b3, b4⟩ := h.2.1 i i1 i2
    rw [dif_bit, Nat.testBit_two_pow] at b3 b4
    simp at b3 b4
    rcases i3 with i3 | i3
    · exact b3.2 i3.symm
    · exact b4.2 i3.symm
  · rintro ⟨h, hc⟩
    refine ⟨h.1, fun i i1 i2 => ?_, h.2.2⟩
    obtain ⟨b1, b2, b3, b4⟩ := h.2.1 i i1 i2
    have x1 : ¬ v = fr G i := fun x => hc ⟨i, i1, i2, Or.inl x.symm⟩
    have x2 : ¬ v = tt G i := fun x => hc ⟨i, i1, i2, Or.inr x.symm⟩
    refine ⟨b1, b2, ?_, ?_⟩
    · rw [dif_bit, Nat.testBit_two_pow, b3]; simp [x1]
    · rw [dif_bit, Nat.testBit_two_pow, b4]; simp [x2]
theorem left_iff {G : Gr} {c L v d : Nat} (hv : v < nd G) (hB : BL G (Mt G (allN G)) (allN G) c L) (hd : Mx G (dif (allN G) (2 ^ v)) d) : d = c ↔ L.testBit v = true := by
  obtain ⟨x0, x3, x4⟩ := hB
  rw [x4]
  constructor
  · rintro rfl
    obtain ⟨⟨X, x1, x2⟩, -⟩ := hd
    obtain ⟨y1, y2⟩ := mt_without.mp x1
    exact ⟨by rw [allN_bit]; exact decide_eq_true hv, X, y1, x2, y2⟩
  · rintro ⟨-, X, y1, y2, y3⟩
    have h1 := hd.2 X (mt_without.mpr ⟨y1, y3⟩)
    obtain ⟨⟨Y, z1, z2⟩, -⟩ := hd
    have h2 := x3 Y (mt_without.mp z1).1
    omega
abbrev S6 : Type := Int32 × Int32 × Int32 × (Nat → Int32) × (Nat → Int32) × (Nat → Int32)
theorem sorts7_L {G : Gr} (hW : Wf G) {most : Nat → Int32} {c L : Nat} (hB : BL G (Mt G (allN G)) (allN G) c L) (hm : ∀ t, t ≤ allN G → Mb G 0 t (most t)) {kk : (Nat → Int32) → Option S6} :
    ∀ (k m v : Nat) (so : Nat → Int32), v + k = nd G → k < m → (∀ w, w < v → so w = if L.testBit w = true then 0 else 2) → ∃ so', f_X12_findSorts_L7 (nI (nd G)) most kk m (nI v) so = kk so' ∧ ∀ w, w < nd G → so' w = if L.testBit w = true then 0 else 2 := by
  have hn := hW.1
  have ha := allN_lt hW
  intro k
  induction k with
  | zero =>
    intro m v so e1 hm2 hs
    obtain ⟨m, rfl⟩ : ∃ k, m = k + 1 := ⟨m - 1, by omega⟩
    refine ⟨so, ?_, fun w hw => hs w (by omega)⟩
    unfold f_X12_findSorts_L7
    rw [if_pos (by rw [nI_leI (by omega) (by omega)]; omega)]
  | succ k ih =>
    intro m v so e1 hm2 hs
    obtain ⟨m, rfl⟩ : ∃ k, m = k + 1 := ⟨m - 1, by omega⟩
    have hdl := dif_le (allN G) (2 ^ v)
    obtain ⟨d, d1, d2, d3⟩ := mb0 hW (hm _ hdl)
    obtain ⟨c', c1, c2, c3⟩ := mb0 hW (hm _ (Nat.le_refl (allN G)))
    have hcc : c' = c := Mx_one c3 ⟨hB.1, hB.2.1⟩
    subst hcc
    have hli := left_iff (v := v) (by omega) hB d3
    unfold f_X12_findSorts_L7
    rw [if_neg (fun h => by rw [nI_leI (by omega) (by omega)] at h; omega), mall_eq hW, without_nI _ (by omega), rd_nI (by omega) (by decide), rd_nI (by omega) (by decide), d1, c1, wr_nI (by omega) (by decide), wr_nI (by omega) (by decide), nI_1]
    by_cases f : d = c'
    · rw [if_pos (by rw [f])]
      refine ih m (v + 1) _ (by omega) (by omega) (fun w hw => ?_)
      by_cases g : w = v
      · subst g; rw [up_s, if_pos (hli.mp f)]
      · rw [up_n g]; exact hs w (by omega)
    · rw [if_neg (fun h => f ((nI_eq (by omega) (by omega)).mp h))]
      refine ih m (v + 1) _ (by omega) (by omega) (fun w hw => ?_)
      by_cases g : w = v
      · subst g; rw [up_s, if_neg (fun h => f (hli.mpr h))]
      · rw [up_n g]; exact hs w (by omega)
def TB (G : Gr) (L k v : Nat) : Prop := ∃ i, i < k ∧ al G i = true ∧ ∃ u, Jn G i v u ∧ L.testBit u = true
theorem TB_s {G : Gr} {L k v : Nat} : TB G L (k + 1) v ↔ TB G L k v ∨ (al G k = true ∧ ((fr G k = v ∧ L.testBit (tt G k) = true) ∨ (tt G k = v ∧ L.testBit (fr G k) = true))) := by
  constructor
  · rintro ⟨i, i1, i2, u, i3, i4⟩
    by_cases c : i = k
    · subst c
      right
      refine ⟨i2, ?_⟩
      rcases i3 with ⟨x, y⟩ | ⟨x, y⟩
      · exact Or.inl ⟨x, by rw [y]; exact i4⟩
      · exact Or.inr ⟨y, by rw [x]; exact i4⟩
    · exact Or.inl ⟨i, by omega, i2, u, i3, i4⟩
  · rintro (⟨i, i1, i2, u, i3, i4⟩ | ⟨a, ⟨x, y⟩ | ⟨x, y⟩⟩)
    · exact ⟨i, by omega, i2, u, i3, i4⟩
    · exact ⟨k, by omega, a, _, Or.inl ⟨x, rfl⟩, y⟩
    · exact ⟨k, by omega, a, _, Or.inr ⟨rfl, x⟩, y⟩
def SI (G : Gr) (L k : Nat) (so : Nat → Int32) : Prop := ∀ v, v < nd G → (L.testBit v = true → so v = 0) ∧ (L.testBit v = false → TB G L k v → so v = 1) ∧ (L.testBit v = false → ¬ TB G L k v → so v = 2)
theorem SI_same {G : Gr} {L k : Nat} {so : Nat → Int32} (h : SI G L k so) (h2 : ∀ v, L.testBit v = false → (TB G L (k + 1) v ↔ TB G L k v)) : SI G L (k + 1) so := by
  intro v hv
  obtain ⟨a, b, c⟩ := h v hv
  exact ⟨a, fun x y => b x ((h2 v x).mp y), fun x y => c x (fun z => y ((h2 v x).mpr z))⟩
theorem SI_new {G : Gr} {L k u : Nat} {so : Nat → Int32} (h : SI G L k so) (hu : L.testBit u = false) (h1 : TB G L (k + 1) u) (h2 : ∀ v, v ≠ u → L.testBit v = false → (TB G L (k + 1) v ↔ TB G L k v)) : SI G L (k + 1) (va_up so u 1) := by
  intro v hv
  obtain ⟨a, b, c⟩ := h v hv
  by_cases e : v = u
  · subst e
    rw [up_s]
    exact ⟨fun x => (by rw [hu] at x; cases x), fun _ _ => rfl, fun _ y => absurd h1 y⟩
  · rw [up_n e]
    exact ⟨a, fun x y => b x ((h2 v e x).mp y), fun x y => c x (fun z => y ((h2 v e x).mpr z))⟩
theorem sorts61_L {G : Gr} (hW : Wf G) {nodes made : Int32} {fm tm wm am : Nat → Int32} (hC : MG G nodes made fm tm wm am) {L : Nat} {kk : (Nat → Int32) → Option S6} :
    ∀ (k m i : Nat) (so : Nat → Int32), i + k = md G → k < m → SI G L i so → ∃ so', f_X12_findSorts_L61 made fm tm am kk m (nI i) so = kk so' ∧ SI G L (md G) so' := by
  have hn := hW.1
  have hm60 := hW.2.1
  obtain ⟨-, rfl, harc⟩ := hC
  intro k
  induction k with
  | zero =>
    intro m i so e1 hm hs
    obtain ⟨m, rfl⟩ : ∃ k, m = k + 1 := ⟨m - 1, by omega⟩
    refine ⟨so, ?_, by rw [show md G = i by omega]; exact hs⟩
    unfold f_X12_findSorts_L61
    rw [if_pos (by rw [nI_leI (by omega) (by omega)]; omega)]
  | succ k ih =>
    intro m i so e1 hm hs
    obtain ⟨m, rfl⟩ : ∃ k, m = k + 1 := ⟨m - 1, by omega⟩
    obtain ⟨f1, f2, f3, f4⟩ := harc i (by omega)
    obtain ⟨w1, w2, w3, -⟩ := hW.2.2 i (by omega)
    unfold f_X12_findSorts_L61
    rw [if_neg (fun h => by rw [nI_leI (by omega) (by omega)] at h; omega), rd_nI (by omega) (by decide), f4]
    simp only [jn]
    by_cases ca : al G i = true
    · rw [if_pos ca, if_neg (by decide), rd_nI (by omega) (by decide), f1, rd_nI (by omega) (by decide), rd_nI (by omega) (by decide), f2, rd_nI (by omega) (by decide)]
      simp only [rd_nI (show i < 60 by omega) (show (60 : Nat) < 2 ^ 31 by decide), f4, if_pos ca, if_neg (show ¬ (1 : Int32) = 0 by decide), f1, f2, rd_nI (show fr G i < 16 by omega) (show (16 : Nat) < 2 ^ 31 by decide), rd_nI (show tt G i < 16 by omega) (show (16 : Nat) < 2 ^ 31 by decide), wr_nI (show fr G i < 16 by omega) (show (16 : Nat) < 2 ^ 31 by decide), wr_nI (show tt G i < 16 by omega) (show (16 : Nat) < 2 ^ 31 by decide), nI_1]
      obtain ⟨a1, a2, a3⟩ := hs (fr G i) w1
      obtain ⟨b1, b2, b3⟩ := hs (tt G i) w2
      cases la : L.testBit (fr G i) with
      | true =>
        rw [a1 la, if_pos rfl]
        cases lb : L.testBit (tt G i) with
        | true =>
          rw [b1 lb, if_neg (by decide), if_pos rfl, if_neg (by decide)]
          refine ih m (i + 1) so (by omega) (by omega) (SI_same hs (fun v hv => ?_))
          rw [TB_s]
          constructor
          · rintro (h | ⟨-, ⟨x, y⟩ | ⟨x, y⟩⟩)
            · exact h
            · rw [← x, la] at hv; cases hv
            · rw [← x, lb] at hv; cases hv
          · exact Or.inl
        | false =>
          have hnew : TB G L (i + 1) (tt G i) := TB_s.mpr (Or.inr ⟨ca, Or.inr ⟨rfl, la⟩⟩)
          have hoth : ∀ v, v ≠ tt G i → L.testBit v = false → (TB G L (i + 1) v ↔ TB G L i v) := by
            intro v hv hv2
            rw [TB_s]
            constructor
            · rintro (h | ⟨-, ⟨x, y⟩ | ⟨x, y⟩⟩)
              · exact h
              · rw [← x, la] at hv2; cases hv2
              · exact absurd x.symm hv
            · exact Or.inl
          by_cases t : TB G L i (tt G i)
          · rw [b2 lb t, if_neg (by decide), if_neg (by decide)]
            refine ih m (i + 1) so (by omega) (by omega) (SI_same hs (fun v hv => ?_))
            by_cases e : v = tt G i
            · subst e; exact ⟨fun _ => t, fun _ => hnew⟩
            · exact hoth v e hv
          · rw [b3 lb t, if_pos rfl, up_s, if_neg (by decide)]
            exact ih m (i + 1) _ (by omega) (by omega) (SI_new hs lb hnew hoth)
      | false =>
        have hoth : ∀ v, v ≠ fr G i → L.testBit v = false → (TB G L (i + 1) v ↔ TB G L i v) := by
          intro v hv hv2
          rw [TB_s]
          constructor
          · rintro (h | ⟨-, ⟨x, y⟩ | ⟨x, y⟩⟩)
            · exact h
            · exact absurd x.symm hv
            · rw [la] at y; cases y
          · exact Or.inl
        by_cases t : TB G L i (fr G i)
        · rw [a2 la t, if_neg (by decide)]
          have hsame : SI G L (i + 1) so := SI_same hs (fun v hv => by
            by_cases e : v = fr G i
            · subst e; exact ⟨fun _ => t, fun _ => TB_s.mpr (Or.inl t)⟩
            · exact hoth v e hv)
          cases lb : L.testBit (tt G i) with
          | true => rw [b1 lb, if_pos rfl, if_neg (by decide)]; exact ih m (i + 1) so (by omega) (by omega) (hsame)
          | false =>
            by_cases t2 : TB G L i (tt G i)
            · rw [b2 lb t2, if_neg (by decide)]; exact ih m (i + 1) so (by omega) (by omega) (hsame)
            · rw [b3 lb t2, if_neg (by decide)]; exact ih m (i + 1) so (by omega) (by omega) (hsame)
        · rw [a3 la t, if_neg (by decide)]
          cases lb : L.testBit (tt G i) with
          | true =>
            rw [b1 lb, if_pos rfl, if_pos rfl]
            exact ih m (i + 1) _ (by omega) (by omega) (SI_new hs la (TB_s.mpr (Or.inr ⟨ca, Or.inl ⟨rfl, lb⟩⟩)) hoth)
          | false =>
            have hsame : SI G L (i + 1) so := SI_same hs (fun v hv => by
              by_cases e : v = fr G i
              · subst e
                rw [TB_s]
                constructor
                · rintro (h | ⟨-, ⟨x, y⟩ | ⟨x, y⟩⟩)
                  · exact h
                  · rw [lb] at y; cases y
                  · rw [la] at y; cases y
                · exact Or.inl
              · exact hoth v e hv)
            by_cases t2 : TB G L i (tt G i)
            · rw [b2 lb t2, if_neg (by decide)]; exact ih m (i + 1) so (by omega) (by omega) (hsame)
            · rw [b3 lb t2, if_neg (by decide)]; exact ih m (i + 1) so (by omega) (by omega) (hsame)
    · rw [if_neg ca, if_pos rfl, rd_nI (by omega) (by decide), f4, if_neg ca, if_pos rfl, nI_1]
      refine ih m (i + 1) so (by omega) (by omega) (SI_same hs (fun v hv => ?_))
      rw [TB_s]
      constructor
      · rintro (h | ⟨h, -⟩)
        · exact h
        · exact absurd h ca
      · exact Or.inl
theorem SI_srt {G : Gr} (hW : Wf G) {L B : Nat} (hB : Bes G L B) {so : Nat → Int32} (h : SI G L (md G) so) : ∀ v, v < nd G → so v = srt L B v := by
  intro v hv
  obtain ⟨a, b, c⟩ := h v hv
  have hT : TB G L (md G) v ↔ ∃ u, (adj G v).testBit u = true ∧ L.testBit u = true := by
    constructor
    · rintro ⟨i, i1, i2, u, i3, i4⟩
      exact ⟨u, (adj_bit hW v u).mpr ⟨i, i1, i2, i3⟩, i4⟩
    · rintro ⟨u, u1, u2⟩
      obtain ⟨i, i1, i2, i3⟩ := (adj_bit hW v u).mp u1
      exact ⟨i, i1, i2, u, i3, u2⟩
  unfold srt
  cases l : L.testBit v with
  | true => rw [if_pos rfl]; exact a l
  | false =>
    rw [if_neg (by decide)]
    by_cases t : TB G L (md G) v
    · rw [if_pos ((hB v).mpr ⟨hv, l, hT.mp t⟩)]; exact b l t
    · rw [if_neg (fun h => t (hT.mpr ((hB v).mp h).2.2))]; exact c l t
theorem within_L {G : Gr} (hW : Wf G) {B : Nat} {so : Nat → Int32} (hs : ∀ v, v < nd G → (so v = 1 ↔ B.testBit v = true)) {kk : Int32 → (Nat → Int32) → Option S6} :
    ∀ (k m v W : Nat) (pc : Nat → Int32), v + k = nd G → k < m → (∀ w, W.testBit w = true ↔ w < nd G ∧ (w < v → B.testBit w = false)) → (∀ w, w < v → pc w = -1) → ∃ pc', f_X12_findSorts_L177 (nI (nd G)) so kk m (nI W) (nI v) pc = kk (nI (dif (allN G) B)) pc' ∧ ∀ w, w < nd G → pc' w = -1 := by
  have hn := hW.1
  intro k
  induction k with
  | zero =>
    intro m v W pc e1 hm hw hp
    obtain ⟨m, rfl⟩ : ∃ k, m = k + 1 := ⟨m - 1, by omega⟩
    refine ⟨pc, ?_, fun w h => hp w (by omega)⟩
    unfold f_X12_findSorts_L177
    have : W = dif (allN G) B := by
      apply Nat.eq_of_testBit_eq
      intro j
      rw [Bool.eq_iff_iff, hw, dif_bit, allN_bit, Bool.and_eq_true, decide_eq_true_eq, Bool.not_eq_true']
      constructor
      · rintro ⟨h1, h2⟩; exact ⟨h1, h2 (by omega)⟩
      · rintro ⟨h1, h2⟩; exact ⟨h1, fun _ => h2⟩
    rw [if_pos (by rw [nI_leI (by omega) (by omega)]; omega), this]
  | succ k ih =>
    intro m v W pc e1 hm hw hp
    obtain ⟨m, rfl⟩ : ∃ k, m = k + 1 := ⟨m - 1, by omega⟩
    unfold f_X12_findSorts_L177
    rw [if_neg (fun h => by rw [nI_leI (by omega) (by omega)] at h; omega), wr_nI (by omega) (by decide), rd_nI (by omega) (by decide)]
    simp only [jn]
    rw [nI_1]
    have hp' : ∀ w, w < v + 1 → va_up pc v (-1) w = -1 := by
      intro w hw2
      by_cases e : w = v
      · subst e; rw [up_s]
      · rw [up_n e]; exact hp w (by omega)
    have hsv := hs v (by omega)
    by_cases c : so v = 1
    · rw [if_pos c, without_nI _ (by omega)]
      refine ih m (v + 1) _ _ (by omega) (by omega) (fun w => ?_) hp'
      rw [dif_bit, Nat.testBit_two_pow, Bool.and_eq_true, hw]
      simp
      constructor
      · rintro ⟨⟨h1, h2⟩, h3⟩; exact ⟨h1, fun h => h2 (by omega)⟩
      · rintro ⟨h1, h2⟩
        refine ⟨⟨h1, fun h => h2 (by omega)⟩, fun e => ?_⟩
        subst e
        rw [h2 (by omega)] at hsv
        exact absurd (hsv.mp c) (by decide)
    · rw [if_neg c, Int32.and_neg_one]
      refine ih m (v + 1) _ _ (by omega) (by omega) (fun w => ?_) hp'
      rw [hw]
      constructor
      · rintro ⟨h1, h2⟩
        refine ⟨h1, fun h => ?_⟩
        by_cases e : w = v
        · subst e
          cases hb : B.testBit w with
          | false => rfl
          | true => exact absurd (hsv.mpr hb) c
        · exact h2 (by omega)
      · rintro ⟨h1, h2⟩; exact ⟨h1, fun h => h2 (by omega)⟩
theorem srt1 {L B v : Nat} (h : B.testBit v = true → L.testBit v = false) : srt L B v = 1 ↔ B.testBit v = true := by
  unfold srt
  cases l : L.testBit v with
  | true =>
    rw [if_pos rfl]
    constructor
    · intro x; exact absurd x (by decide)
    · intro x; rw [h x] at l; cases l
  | false =>
    rw [if_neg (by decide)]
    by_cases c : B.testBit v = true
    · rw [if_pos c]; exact ⟨fun _ => c, fun _ => rfl⟩
    · rw [if_neg c]; exact ⟨fun x => absurd x (by decide), fun x => absurd x c⟩
