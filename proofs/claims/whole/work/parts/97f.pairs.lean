/-! ===== the told nodes in pairs: by the least lengths between them ===== -/
def PMr (rc : Nat → Nat → Prop) (dn : Nat → Nat → Nat) : Nat → Nat → Nat → Prop
  | 0, s, x => s = 0 ∧ x = 0
  | k + 1, s, x => ∃ a b y, s.testBit a = true ∧ s.testBit b = true ∧ a ≠ b ∧ rc a b ∧ PMr rc dn k (dif (dif s (2 ^ a)) (2 ^ b)) y ∧ x = y + dn a b
/-- rc and dn tell the least lengths -/
def MetD (G : Gr) (l : Nat → Nat) (rc : Nat → Nat → Prop) (dn : Nat → Nat → Nat) : Prop := ∀ a b, a ≠ b → (rc a b → Ent G l (nd G) a b (some (dn a b))) ∧ (¬ rc a b → Ent G l (nd G) a b none)
theorem met_get {G : Gr} (hW : Wf G) {l : Nat → Nat} {rc : Nat → Nat → Prop} {dn : Nat → Nat → Nat} (h : MetD G l rc dn) {a b X : Nat} (hab : a ≠ b) (hX : JS G (nd G) a b X) : rc a b ∧ dn a b ≤ lX l X 60 := by
  by_cases c : rc a b
  · obtain ⟨x, x1, x2⟩ := Ent_join hW hab ((h a b hab).1 c) hX
    cases x1
    exact ⟨c, x2⟩
  · obtain ⟨x, x1, -⟩ := Ent_join hW hab ((h a b hab).2 c) hX
    cases x1
theorem Lv_eds {G : Gr} (hW : Wf G) {X a b : Nat} (h : Lv G X) : Eds G X (fun v => v < nd G ∨ v = a ∨ v = b) := by
  intro i hi hx
  obtain ⟨w1, w2, -, -⟩ := hW.2.2 i (h.2 i hi hx).1
  exact ⟨Or.inl w1, Or.inl w2⟩
theorem met_sym {G : Gr} (hW : Wf G) {l : Nat → Nat} {rc : Nat → Nat → Prop} {dn : Nat → Nat → Nat} (h : MetD G l rc dn) {a b : Nat} (hab : a ≠ b) (hr : rc a b) : rc b a ∧ dn b a = dn a b := by
  have go : ∀ a b, a ≠ b → rc a b → rc b a ∧ dn b a ≤ dn a b := by
    intro a b hab hr
    obtain ⟨⟨X, x1, x2⟩, -⟩ := (h a b hab).1 hr
    have := met_get hW h (fun e => hab e.symm) (X := X) (a := b) (b := a) ⟨x1.1, Lv_eds hW x1.1, by rw [x1.2.2, Nat.xor_comm]⟩
    exact ⟨this.1, by omega⟩
  obtain ⟨h1, h2⟩ := go a b hab hr
  obtain ⟨-, h3⟩ := go b a (fun e => hab e.symm) h1
  exact ⟨h1, by omega⟩
theorem met_tri {G : Gr} (hW : Wf G) {l : Nat → Nat} {rc : Nat → Nat → Prop} {dn : Nat → Nat → Nat} (h : MetD G l rc dn) {a b c : Nat} (hab : a ≠ b) (hbc : b ≠ c) (hac : a ≠ c) (h1 : rc a b) (h2 : rc b c) : rc a c ∧ dn a c ≤ dn a b + dn b c := by
  obtain ⟨⟨X, x1, x2⟩, -⟩ := (h a b hab).1 h1
  obtain ⟨⟨Y, y1, y2⟩, -⟩ := (h b c hbc).1 h2
  have hL := Lv_xor x1.1 y1.1
  have := met_get hW h hac (X := X ^^^ Y) ⟨hL, Lv_eds hW hL, by
    rw [oX_xor, x1.2.2, y1.2.2]
    apply Nat.eq_of_testBit_eq
    intro j
    simp only [Nat.testBit_xor]
    cases (2 ^ a).testBit j <;> cases (2 ^ b).testBit j <;> cases (2 ^ c).testBit j <;> rfl⟩
  have h3 := lX_xor (l := l) (X := X) (Y := Y) 60
  exact ⟨this.1, by omega⟩
theorem met_arc {G : Gr} (hW : Wf G) {l : Nat → Nat} {rc : Nat → Nat → Prop} {dn : Nat → Nat → Nat} (h : MetD G l rc dn) {a b i : Nat} (hi : i < md G) (ha : al G i = true) (hJ : Jn G i a b) : a ≠ b ∧ rc a b ∧ dn a b ≤ l i := by
  have h60 := hW.2.1
  obtain ⟨w1, w2, w3, -⟩ := hW.2.2 i hi
  have hab : a ≠ b := by rcases hJ with ⟨x, y⟩ | ⟨x, y⟩ <;> omega
  have hL := Lv_mkA hW hi ha
  have := met_get hW h hab (X := mkA i) ⟨hL, Lv_eds hW hL, by rw [oX_mkA (by omega) 60 (Nat.le_refl _), if_pos (by omega), Jn_ends hJ]⟩
  rw [lX_mkA (by omega) 60 (Nat.le_refl _), if_pos (by omega)] at this
  exact ⟨hab, this⟩
theorem dif2_bit (s a b v : Nat) : (dif (dif s (2 ^ a)) (2 ^ b)).testBit v = (s.testBit v && !decide (a = v) && !decide (b = v)) := by
  rw [dif_bit, dif_bit, Nat.testBit_two_pow, Nat.testBit_two_pow]
theorem PM_at {G : Gr} (hW : Wf G) {l : Nat → Nat} {rc : Nat → Nat → Prop} {dn : Nat → Nat → Nat} (h : MetD G l rc dn) : ∀ (k s x a : Nat), PMr rc dn k s x → s.testBit a = true → ∃ k' b y, k = k' + 1 ∧ s.testBit b = true ∧ a ≠ b ∧ rc a b ∧ PMr rc dn k' (dif (dif s (2 ^ a)) (2 ^ b)) y ∧ x = y + dn a b := by
  intro k
  induction k with
  | zero =>
    rintro s x a ⟨rfl, -⟩ ha
    rw [Nat.zero_testBit] at ha
    cases ha
  | succ k ih =>
    rintro s x a ⟨p, q, y, h1, h2, h3, h4, h5, rfl⟩ ha
    by_cases c : a = p
    · subst c
      exact ⟨k, q, y, rfl, h2, h3, h4, h5, rfl⟩
    · by_cases d : a = q
      · subst d
        obtain ⟨m1, m2⟩ := met_sym hW h h3 h4
        refine ⟨k, p, y, rfl, h1, fun e => h3 e.symm, m1, ?_, by rw [m2]⟩
        have e : dif (dif s (2 ^ a)) (2 ^ p) = dif (dif s (2 ^ p)) (2 ^ a) := by
          apply Nat.eq_of_testBit_eq
          intro j
          rw [dif2_bit, dif2_bit]
          cases s.testBit j <;> cases decide (a = j) <;> cases decide (p = j) <;> rfl
        rw [e]
        exact h5
      · obtain ⟨k', b, y', g1, g2, g3, g4, g5, g6⟩ := ih _ y a h5 (by
          rw [dif2_bit, ha]
          have c' : ¬ p = a := fun e => c e.symm
          have d' : ¬ q = a := fun e => d e.symm
          simp [c', d'])
        rw [dif2_bit] at g2
        simp at g2
        subst g1
        refine ⟨k' + 1, b, y' + dn p q, rfl, g2.1.1, g3, g4, ⟨p, q, y', ?_, ?_, h3, h4, ?_, rfl⟩, by omega⟩
        · rw [dif2_bit, h1]
          have e2 : ¬ b = p := fun e => g2.1.2 e.symm
          simp [c, e2]
        · rw [dif2_bit, h2]
          have e2 : ¬ b = q := fun e => g2.2 e.symm
          simp [d, e2]
        · have e : dif (dif (dif (dif s (2 ^ a)) (2 ^ b)) (2 ^ p)) (2 ^ q) = dif (dif (dif (dif s (2 ^ p)) (2 ^ q)) (2 ^ a)) (2 ^ b) := by
            apply Nat.eq_of_testBit_eq
            intro j
            rw [dif2_bit, dif2_bit, dif2_bit, dif2_bit]
            cases s.testBit j <;> cases decide (a = j) <;> cases decide (b = j) <;> cases decide (p = j) <;> cases decide (q = j) <;> rfl
          rw [e]
          exact g5
/-- a join of told nodes -/
def JT (G : Gr) (T X : Nat) : Prop := Lv G X ∧ oX G X 60 = T
theorem oX_lt {G : Gr} (hW : Wf G) {X : Nat} (h : Lv G X) {v : Nat} (hv : (oX G X 60).testBit v = true) : v < nd G := by
  obtain ⟨i, i1, i2, i3⟩ := oX_arc 60 hv
  obtain ⟨w1, w2, -, -⟩ := hW.2.2 i (h.2 i i1 i2).1
  rcases i3 with x | x <;> omega
theorem oX_16 {G : Gr} (hW : Wf G) {X : Nat} (h : Lv G X) : oX G X 60 < 65536 := lt_of_bits (n := 16) (fun v hv => by have := oX_lt hW h hv; have := hW.1; omega)
theorem PM_join {G : Gr} (hW : Wf G) {l : Nat → Nat} {rc : Nat → Nat → Prop} {dn : Nat → Nat → Nat} (h : MetD G l rc dn) : ∀ (k s x : Nat), PMr rc dn k s x → ∃ X, JT G s X ∧ lX l X 60 ≤ x := by
  intro k
  induction k with
  | zero =>
    rintro s x ⟨rfl, rfl⟩
    refine ⟨0, ⟨⟨by decide, fun i _ hx => ?_⟩, oX_0 60⟩, by rw [lX_0]; exact Nat.le_refl _⟩
    unfold inX at hx
    rw [Nat.zero_testBit] at hx
    cases hx
  | succ k ih =>
    rintro s x ⟨a, b, y, h1, h2, h3, h4, h5, rfl⟩
    obtain ⟨X, x1, x2⟩ := ih _ y h5
    obtain ⟨⟨Y, y1, y2⟩, -⟩ := (h a b h3).1 h4
    have h7 := lX_xor (l := l) (X := X) (Y := Y) 60
    refine ⟨X ^^^ Y, ⟨Lv_xor x1.1 y1.1, ?_⟩, by omega⟩
    rw [oX_xor, x1.2, y1.2.2]
    apply Nat.eq_of_testBit_eq
    intro j
    rw [Nat.testBit_xor, dif2_bit, bit2]
    by_cases c : a = j
    · subst c
      rw [h1, decide_eq_true (rfl : a = a), decide_eq_false (fun e => h3 e.symm)]; rfl
    · by_cases d : b = j
      · subst d
        rw [h2, decide_eq_true (rfl : b = b), decide_eq_false c]; rfl
      · rw [decide_eq_false c, decide_eq_false d]
        cases s.testBit j <;> rfl
theorem PM_complete {G : Gr} (hW : Wf G) {l : Nat → Nat} {rc : Nat → Nat → Prop} {dn : Nat → Nat → Nat} (h : MetD G l rc dn) : ∀ (n s X : Nat), cX X 60 ≤ n → JT G s X → ∃ k x, PMr rc dn k s x ∧ x ≤ lX l X 60 := by
  have h60 := hW.2.1
  intro n
  induction n with
  | zero =>
    rintro s X hc ⟨hL, rfl⟩
    have h0 : oX G X 60 = 0 := by
      apply Nat.eq_of_testBit_eq
      intro v
      rw [Nat.zero_testBit]
      cases c : (oX G X 60).testBit v with
      | false => rfl
      | true =>
        obtain ⟨i, i1, i2, -⟩ := oX_arc 60 c
        rw [cX_zero (by omega) i i1] at i2
        cases i2
    exact ⟨0, 0, ⟨h0, rfl⟩, Nat.zero_le _⟩
  | succ n ih =>
    rintro s X hc ⟨hL, rfl⟩
    have hs := oX_16 hW hL
    by_cases h0 : oX G X 60 = 0
    · exact ⟨0, 0, ⟨h0, rfl⟩, Nat.zero_le _⟩
    · have hlb := low_bit (k := 16) (Nat.pos_of_ne_zero h0) hs
      generalize hv : low 16 (oX G X 60) = v at hlb
      obtain ⟨i, i1, i2, i3⟩ := oX_arc 60 hlb
      obtain ⟨b1, b2⟩ := hL.2 i i1 i2
      obtain ⟨u, hJ⟩ : ∃ u, Jn G i v u := by
        rcases i3 with x | x
        · exact ⟨tt G i, Or.inl ⟨x, rfl⟩⟩
        · exact ⟨fr G i, Or.inr ⟨rfl, x⟩⟩
      obtain ⟨hvu, r1, r2⟩ := met_arc hW h b1 b2 hJ
      have hcx := cX_dif i1 i2
      have hl := lX_dif (l := l) i1 i2
      have ho := oX_dif (G := G) i1 i2
      rw [Jn_ends hJ] at ho
      obtain ⟨k, x', p1, p2⟩ := ih _ (dif X (mkA i)) (by omega) ⟨Lv_dif i1 hL, rfl⟩
      rw [ho] at p1
      generalize oX G X 60 = s at hlb p1
      cases hub : s.testBit u with
      | true =>
        have e : s ^^^ (2 ^ v ^^^ 2 ^ u) = dif (dif s (2 ^ v)) (2 ^ u) := by
          apply Nat.eq_of_testBit_eq
          intro j
          rw [Nat.testBit_xor, dif2_bit, bit2]
          by_cases c : v = j
          · subst c
            rw [hlb, decide_eq_true (rfl : v = v), decide_eq_false (fun e => hvu e.symm)]; rfl
          · by_cases d : u = j
            · subst d
              rw [hub, decide_eq_true (rfl : u = u), decide_eq_false c]; rfl
            · rw [decide_eq_false c, decide_eq_false d]
              cases s.testBit j <;> rfl
        rw [e] at p1
        exact ⟨k + 1, x' + dn v u, ⟨v, u, x', hlb, hub, hvu, r1, p1, rfl⟩, by omega⟩
      | false =>
        have hb : ∀ j, (s ^^^ (2 ^ v ^^^ 2 ^ u)).testBit j = ((s.testBit j && !decide (v = j)) || decide (u = j)) := by
          intro j
          rw [Nat.testBit_xor, bit2]
          by_cases c : v = j
          · subst c
            rw [hlb, decide_eq_true (rfl : v = v), decide_eq_false (fun e => hvu e.symm)]; rfl
          · by_cases d : u = j
            · subst d
              rw [hub, decide_eq_true (rfl : u = u), decide_eq_false c]; rfl
            · rw [decide_eq_false c, decide_eq_false d]
              cases s.testBit j <;> rfl
        obtain ⟨k', w, y, g1, g2, g3, g4, g5, g6⟩ := PM_at hW h k _ x' u p1 (by rw [hb]; simp)
        rw [hb] at g2
        simp at g2
        have hws : s.testBit w = true ∧ ¬ v = w := by
          rcases g2 with z | z
          · exact z
          · exact absurd z g3
        obtain ⟨t1, t2⟩ := met_tri hW h hvu g3 hws.2 r1 g4
        refine ⟨k' + 1, y + dn v w, ⟨v, w, y, hlb, hws.1, hws.2, t1, ?_, rfl⟩, by omega⟩
        have e : dif (dif (s ^^^ (2 ^ v ^^^ 2 ^ u)) (2 ^ u)) (2 ^ w) = dif (dif s (2 ^ v)) (2 ^ w) := by
          apply Nat.eq_of_testBit_eq
          intro j
          rw [dif2_bit, dif2_bit, hb]
          by_cases d : u = j
          · subst d
            rw [hub, decide_eq_true (rfl : u = u)]; simp
          · rw [decide_eq_false d]; simp
        rw [← e]
        exact g5
/-- a pairing of s begins with its least node -/
theorem PM_low {G : Gr} (hW : Wf G) {l : Nat → Nat} {rc : Nat → Nat → Prop} {dn : Nat → Nat → Nat} (h : MetD G l rc dn) {s : Nat} (h0 : 0 < s) (hs : s < 65536) {k x : Nat} (hp : PMr rc dn k s x) : ∃ k' u y, k = k' + 1 ∧ low 16 s < u ∧ u < 16 ∧ (rst s).testBit u = true ∧ rc (low 16 s) u ∧ PMr rc dn k' (dif (rst s) (2 ^ u)) y ∧ x = y + dn (low 16 s) u := by
  obtain ⟨k', u, y, g1, g2, g3, g4, g5, g6⟩ := PM_at hW h k s x _ hp (low_bit (k := 16) h0 hs)
  refine ⟨k', u, y, g1, ?_, lt16_bit hs g2, ?_, g4, g5, g6⟩
  · rcases Nat.lt_trichotomy u (low 16 s) with c | c | c
    · rw [low_min (k := 16) h0 hs c] at g2; cases g2
    · exact absurd c.symm g3
    · exact c
  · rw [rst_bit, g2]; simp [g3]
