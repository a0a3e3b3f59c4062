/-! ===== the class's paths: lengths with the marks as the last word ===== -/
def lnC (G : Gr) (i : Nat) : Nat := (wt G i * 1024 + 1) * 2 ^ 70 - mkA i
theorem lX_mk {X : Nat} (hX : X < 2 ^ 60) : lX mkA X 60 = X := by
  have : ∀ k, k ≤ 60 → lX mkA X k + X % 2 ^ (60 - k) = X := by
    intro k
    induction k with
    | zero => intro _; show 0 + X % 2 ^ 60 = X; rw [Nat.mod_eq_of_lt hX]; omega
    | succ k ih =>
      intro hk
      have h := ih (by omega)
      rw [show 60 - k = (59 - k) + 1 by omega, Nat.mod_pow_succ] at h
      rw [lX_s, show 60 - (k + 1) = 59 - k by omega]
      have hb : inX X k = decide (X / 2 ^ (59 - k) % 2 = 1) := bit_dm _ _
      have hm : mkA k = 2 ^ (59 - k) := rfl
      rw [hb, hm]
      rcases Nat.mod_two_eq_zero_or_one (X / 2 ^ (59 - k)) with c | c
      · rw [c] at h ⊢
        rw [if_neg (by decide)]
        omega
      · rw [c] at h ⊢
        rw [if_pos (by decide)]
        omega
  have h := this 60 (Nat.le_refl _)
  rw [show 60 - 60 = 0 by omega, Nat.pow_zero, Nat.mod_one] at h
  exact h
theorem wX_lX (G : Gr) (X : Nat) : ∀ k, wX G X k = lX (wt G) X k := by
  intro k
  induction k with
  | zero => rfl
  | succ k ih => rw [wX_s, lX_s, ih]
theorem cX_lX (X : Nat) : ∀ k, cX X k = lX (fun _ => 1) X k := by
  intro k
  induction k with
  | zero => rfl
  | succ k ih => rw [cX_s, lX_s, ih]
/-- weight first, then the number of arcs -/
def csC (G : Gr) (X : Nat) : Nat := wX G X 60 * 1024 + cX X 60
theorem lenC {G : Gr} {X : Nat} (hX : X < 2 ^ 60) : lX (lnC G) X 60 + X = csC G X * 2 ^ 70 := by
  have : ∀ k, lX (lnC G) X k + lX mkA X k = (wX G X k * 1024 + cX X k) * 2 ^ 70 := by
    intro k
    induction k with
    | zero => show 0 + 0 = (0 * 1024 + 0) * 2 ^ 70; omega
    | succ k ih =>
      have hm : mkA k < 2 ^ 60 := mkA_lt
      have hl : lnC G k + mkA k = (wt G k * 1024 + 1) * 2 ^ 70 := by unfold lnC; omega
      rw [lX_s, lX_s, wX_s, cX_s]
      by_cases c : inX X k = true
      · rw [if_pos c, if_pos c, if_pos c, if_pos c]; omega
      · rw [if_neg c, if_neg c, if_neg c, if_neg c]; omega
  have h := this 60
  rw [lX_mk hX] at h
  exact h
theorem csC_le {G : Gr} (hW : Wf G) {X : Nat} (h : Lv G X) : csC G X ≤ 61440060 := by
  have h60 := hW.2.1
  have h1 := cX_md (X := X) h60 (fun i hi hx => (h.2 i hi hx).1) (60 - md G) (by omega)
  rw [show md G + (60 - md G) = 60 by omega] at h1
  have h2 := wX_le hW (X := X) (md G) (Nat.le_refl _)
  have h3 := cX_le X 60
  unfold csC
  omega
def CellC (G : Gr) (m a b : Nat) (g : Int32) (k : Int64) : Prop := (g = -1000000000 ∧ k = lN 0 ∧ Ent G (lnC G) m a b none) ∨ ∃ X, JS G m a b X ∧ g.toInt = -(csC G X : Int) ∧ k = lN X ∧ Ent G (lnC G) m a b (some (lX (lnC G) X 60))
theorem CellC_ent {G : Gr} (hW : Wf G) {m a b : Nat} {g : Int32} {k : Int64} (h : CellC G m a b g k) : ∃ e, Ent G (lnC G) m a b e ∧ (g = -1000000000 → e = none) := by
  rcases h with ⟨h1, -, h2⟩ | ⟨X, x1, x2, -, x3⟩
  · exact ⟨none, h2, fun _ => rfl⟩
  · refine ⟨_, x3, fun e => ?_⟩
    exfalso
    rw [e, m9] at x2
    have := csC_le hW x1.1
    omega
theorem CellC_up {G : Gr} (hW : Wf G) {m a b : Nat} (hab : a ≠ b) {g : Int32} {k : Int64} (h : CellC G m a b g k) (hu : ∀ e, Ent G (lnC G) m a b e → Ent G (lnC G) (m + 1) a b e) : CellC G (m + 1) a b g k := by
  rcases h with ⟨h1, h2, h3⟩ | ⟨X, x1, x2, x3, x4⟩
  · exact Or.inl ⟨h1, h2, hu none h3⟩
  · exact Or.inr ⟨X, JS_up x1, x2, x3, hu _ x4⟩
theorem CellC_out {G : Gr} (hW : Wf G) {m m' a b : Nat} (hab : a ≠ b) (ho : nd G ≤ a ∨ nd G ≤ b) {g : Int32} {k : Int64} (h : CellC G m a b g k) : CellC G m' a b g k := by
  rcases h with ⟨h1, h2, -⟩ | ⟨X, x1, x2, x3, x4⟩
  · exact Or.inl ⟨h1, h2, Ent_out hW ho⟩
  · have := Ent_one hW hab x4 (Ent_out (l := lnC G) (m := m) hW ho)
    cases this
theorem omin_none (e : Option Nat) : omin e none = e := by cases e <;> rfl
theorem oadd_none (e : Option Nat) : oadd e none = none := by cases e <;> rfl
/-- the step of one cell -/
theorem cell_step {G : Gr} (hW : Wf G) {m a b : Nat} (hab : a ≠ b) (ham : a ≠ m) (hbm : b ≠ m) {g g1 g2 : Int32} {k k1 k2 : Int64} (h : CellC G m a b g k) (h1 : CellC G m a m g1 k1) (h2 : CellC G m m b g2 k2) (n1 : g1 ≠ -1000000000) (n2 : g2 ≠ -1000000000) :
    ((g < g1 + g2 ∨ (g = g1 + g2 ∧ ¬ lg_cmp (k1 + k2) k ≤ 0)) → CellC G (m + 1) a b (g1 + g2) (k1 + k2)) ∧ (¬ (g < g1 + g2 ∨ (g = g1 + g2 ∧ ¬ lg_cmp (k1 + k2) k ≤ 0)) → CellC G (m + 1) a b g k) := by
  rcases h1 with ⟨h1, -⟩ | ⟨X1, x1, x2, x3, x4⟩
  · exact absurd h1 n1
  · rcases h2 with ⟨h2, -⟩ | ⟨X2, y1, y2, y3, y4⟩
    · exact absurd h2 n2
    · have c1 := csC_le hW x1.1
      have c2 := csC_le hW y1.1
      have l1 := lenC (G := G) x1.1.1
      have l2 := lenC (G := G) y1.1.1
      have b1 := x1.1.1
      have b2 := y1.1.1
      have hsum : (g1 + g2).toInt = -(csC G X1 : Int) + -(csC G X2 : Int) := by
        rw [i32_add (by rw [x2, y2]; omega) (by rw [x2, y2]; omega), x2, y2]
      have hmk : k1 + k2 = lN (X1 + X2) := by rw [x3, y3, lN_add]
      -- taken: then the sum is a join
      have take : Ent G (lnC G) (m + 1) a b (some (lX (lnC G) X1 60 + lX (lnC G) X2 60)) → CellC G (m + 1) a b (g1 + g2) (k1 + k2) := by
        intro hE
        obtain ⟨⟨X, z1, z2⟩, z3⟩ := hE
        have l3 := lenC (G := G) z1.1.1
        have b3 := z1.1.1
        have e1 : csC G X = csC G X1 + csC G X2 := by omega
        have e2 : X = X1 + X2 := by omega
        refine Or.inr ⟨X, z1, ?_, ?_, ?_⟩
        · rw [hsum, e1]; omega
        · rw [hmk, e2]
        · rw [z2]; exact ⟨⟨X, z1, z2⟩, z3⟩
      rcases h with ⟨h, hk, he⟩ | ⟨X0, w1, w2, w3, w4⟩
      · have hst := Ent_step hW hab ham hbm he x4 y4
        refine ⟨fun _ => take hst, fun hn => absurd (Or.inl ?_) hn⟩
        rw [Int32.lt_iff_toInt_lt, h, m9, hsum]
        omega
      · have hst := Ent_step hW hab ham hbm w4 x4 y4
        have c0 := csC_le hW w1.1
        have l0 := lenC (G := G) w1.1.1
        have b0 := w1.1.1
        have hst : Ent G (lnC G) (m + 1) a b (if lX (lnC G) X1 60 + lX (lnC G) X2 60 < lX (lnC G) X0 60 then some (lX (lnC G) X1 60 + lX (lnC G) X2 60) else some (lX (lnC G) X0 60)) := hst
        have hiff : (g < g1 + g2 ∨ (g = g1 + g2 ∧ ¬ lg_cmp (k1 + k2) k ≤ 0)) ↔ lX (lnC G) X1 60 + lX (lnC G) X2 60 < lX (lnC G) X0 60 := by
          rw [Int32.lt_iff_toInt_lt, ← Int32.toInt_inj, hsum, w2, hmk, w3, cmp_le (by omega) (by omega)]
          omega
        constructor
        · intro hc
          rw [if_pos (hiff.mp hc)] at hst
          exact take hst
        · intro hc
          rw [if_neg (fun x => hc (hiff.mpr x))] at hst
          exact Or.inr ⟨X0, JS_up w1, w2, w3, hst⟩
theorem cell_skip {G : Gr} (hW : Wf G) {m a b : Nat} (hab : a ≠ b) (ham : a ≠ m) (hbm : b ≠ m) {g g1 g2 : Int32} {k k1 k2 : Int64} (h : CellC G m a b g k) (h1 : CellC G m a m g1 k1) (h2 : CellC G m m b g2 k2) (hn : g1 = -1000000000 ∨ g2 = -1000000000) : CellC G (m + 1) a b g k := by
  obtain ⟨e1, q1, q2⟩ := CellC_ent hW h1
  obtain ⟨e2, q3, q4⟩ := CellC_ent hW h2
  refine CellC_up hW hab h (fun e he => ?_)
  have hst := Ent_step hW hab ham hbm he q1 q3
  rcases hn with hn | hn
  · rw [q2 hn] at hst
    have e3 : oadd none e2 = none := rfl
    rw [e3, omin_none] at hst
    exact hst
  · rw [q4 hn, oadd_none, omin_none] at hst
    exact hst
/-- the table inside stage m, with the cells before (s, e) done -/
def FWs (G : Gr) (m s e : Nat) (gain : Nat → Int32) (mark : Nat → Int64) : Prop := (∀ a, a < 16 → gain (a * 16 + a) = -1000000000 ∧ mark (a * 16 + a) = lN 0) ∧ ∀ a b, a < 16 → b < 16 → a ≠ b → CellC G (if a ≠ m ∧ b ≠ m ∧ (a < s ∨ (a = s ∧ b < e)) then m + 1 else m) a b (gain (a * 16 + b)) (mark (a * 16 + b))
theorem FWs_m {G : Gr} {m s e : Nat} {gain : Nat → Int32} {mark : Nat → Int64} (h : FWs G m s e gain mark) {a b : Nat} (ha : a < 16) (hb : b < 16) (hab : a ≠ b) (hm : a = m ∨ b = m) : CellC G m a b (gain (a * 16 + b)) (mark (a * 16 + b)) := by
  have := h.2 a b ha hb hab
  rw [if_neg (fun x => by omega)] at this
  exact this
theorem FWs_next {G : Gr} {m s e : Nat} {gain gain' : Nat → Int32} {mark mark' : Nat → Int64} (h : FWs G m s e gain mark) (hs : s < 16) (he : e < 16) (ho : ∀ x, x ≠ s * 16 + e → gain' x = gain x ∧ mark' x = mark x) (hc : if s = e then (gain' (s * 16 + e) = gain (s * 16 + e) ∧ mark' (s * 16 + e) = mark (s * 16 + e)) else if e = m ∨ s = m then (gain' (s * 16 + e) = gain (s * 16 + e) ∧ mark' (s * 16 + e) = mark (s * 16 + e)) else CellC G (m + 1) s e (gain' (s * 16 + e)) (mark' (s * 16 + e))) : FWs G m s (e + 1) gain' mark' := by
  refine ⟨fun a ha => ?_, fun a b ha hb hab => ?_⟩
  · by_cases c : a * 16 + a = s * 16 + e
    · have e1 : a = s := by omega
      have e2 : s = e := by omega
      rw [if_pos e2] at hc
      rw [c, hc.1, hc.2, ← c]
      exact h.1 a ha
    · rw [(ho _ c).1, (ho _ c).2]; exact h.1 a ha
  · by_cases c : a * 16 + b = s * 16 + e
    · have e1 : a = s := by omega
      have e2 : b = e := by omega
      subst e1
      subst e2
      rw [if_neg hab] at hc
      by_cases d : b = m ∨ a = m
      · rw [if_pos d] at hc
        rw [if_neg (fun x => by omega), hc.1, hc.2]
        exact FWs_m h ha hb hab (by omega)
      · rw [if_neg d] at hc
        rw [if_pos ⟨by omega, by omega, by omega⟩]
        exact hc
    · rw [(ho _ c).1, (ho _ c).2]
      have := h.2 a b ha hb hab
      by_cases d : a ≠ m ∧ b ≠ m ∧ (a < s ∨ (a = s ∧ b < e))
      · rw [if_pos d] at this
        rw [if_pos ⟨d.1, d.2.1, by omega⟩]
        exact this
      · rw [if_neg d] at this
        rw [if_neg (fun x => d ⟨x.1, x.2.1, by omega⟩)]
        exact this
theorem improve_eq {i : Nat} (hi : i < 256) (ng : Int32) (nk : Int64) (gain : Nat → Int32) (mark : Nat → Int64) : ∃ gain' mark', f_X4_improve (nI i) ng nk gain mark = some (gain', mark') ∧ (∀ x, x ≠ i → gain' x = gain x ∧ mark' x = mark x) ∧ ((gain i < ng ∨ (gain i = ng ∧ ¬ lg_cmp nk (mark i) ≤ 0)) → gain' i = ng ∧ mark' i = nk) ∧ (¬ (gain i < ng ∨ (gain i = ng ∧ ¬ lg_cmp nk (mark i) ≤ 0)) → gain' i = gain i ∧ mark' i = mark i) := by
  unfold f_X4_improve
  rw [rd_nI hi (by decide)]
  simp only [jn]
  have hw : (wr 256 gain (nI i) ng fun c1 => wr 256 mark (nI i) nk fun c2 => some (c1, c2)) = some (va_up gain i ng, va_up mark i nk) := by
    rw [wr_nI hi (by decide), wr_nI hi (by decide)]
  rw [hw]
  by_cases c : gain i < ng
  · rw [if_pos c]
    exact ⟨_, _, rfl, fun x hx => ⟨up_n hx, up_n hx⟩, fun _ => ⟨up_s _ _ _, up_s _ _ _⟩, fun h => absurd (Or.inl c) h⟩
  · rw [if_neg c, rd_nI hi (by decide)]
    by_cases d : ng = gain i
    · rw [if_pos d, rd_nI hi (by decide)]
      by_cases e : lg_cmp nk (mark i) ≤ 0
      · rw [if_pos e]
        refine ⟨gain, mark, rfl, fun x _ => ⟨rfl, rfl⟩, fun h => ?_, fun _ => ⟨rfl, rfl⟩⟩
        rcases h with h | ⟨-, h⟩
        · exact absurd h c
        · exact absurd e h
      · rw [if_neg e]
        exact ⟨_, _, rfl, fun x hx => ⟨up_n hx, up_n hx⟩, fun _ => ⟨up_s _ _ _, up_s _ _ _⟩, fun h => absurd (Or.inr ⟨d.symm, e⟩) h⟩
    · rw [if_neg d]
      refine ⟨gain, mark, rfl, fun x _ => ⟨rfl, rfl⟩, fun h => ?_, fun _ => ⟨rfl, rfl⟩⟩
      rcases h with h | ⟨h, -⟩
      · exact absurd h c
      · exact absurd h.symm d
theorem lengthen_L {G : Gr} (hW : Wf G) {m s : Nat} (hm : m < nd G) (hs : s < nd G) (hsm : s ≠ m) {y3 : Int32} {y6 : Int64} (h1 : CellC G m s m y3 y6) (hn1 : y3 ≠ -1000000000) {kk : (Nat → Int32) → (Nat → Int64) → Option ((Nat → Int32) × (Nat → Int64))} :
    ∀ (k f e : Nat) (gain : Nat → Int32) (mark : Nat → Int64), e + k = nd G → k < f → FWs G m s e gain mark → ∃ gain' mark', f_X4_lengthen_L32 (nI (nd G)) (nI s) (nI m) y3 y6 kk f (nI e) gain mark = kk gain' mark' ∧ FWs G m s (nd G) gain' mark' := by
  have hn := hW.1
  intro k
  induction k with
  | zero =>
    intro f e gain mark e1 hf hF
    obtain ⟨f, rfl⟩ : ∃ k, f = k + 1 := ⟨f - 1, by omega⟩
    refine ⟨gain, mark, ?_, by rw [show nd G = e by omega]; exact hF⟩
    unfold f_X4_lengthen_L32
    rw [if_pos (by rw [nI_leI (by omega) (by omega)]; omega)]
  | succ k ih =>
    intro f e gain mark e1 hf hF
    obtain ⟨f, rfl⟩ : ∃ k, f = k + 1 := ⟨f - 1, by omega⟩
    unfold f_X4_lengthen_L32
    rw [if_neg (fun h => by rw [nI_leI (by omega) (by omega)] at h; omega), nI_1]
    by_cases c : e = s
    · rw [if_pos (by rw [c])]
      exact ih f (e + 1) gain mark (by omega) (by omega) (FWs_next hF (by omega) (by omega) (fun x _ => ⟨rfl, rfl⟩) (by rw [if_pos c.symm]; exact ⟨rfl, rfl⟩))
    · rw [if_neg (fun h => c ((nI_eq (by omega) (by omega)).mp h)), cell_nI, rd_nI (by omega) (by decide)]
      by_cases d : gain (m * 16 + e) = -1000000000
      · rw [if_pos d]
        refine ih f (e + 1) gain mark (by omega) (by omega) (FWs_next hF (by omega) (by omega) (fun x _ => ⟨rfl, rfl⟩) ?_)
        rw [if_neg (fun x => c x.symm)]
        by_cases g : e = m ∨ s = m
        · rw [if_pos g]; exact ⟨rfl, rfl⟩
        · rw [if_neg g]
          have hold := hF.2 s e (by omega) (by omega) (fun x => c x.symm)
          rw [if_neg (fun x => by omega)] at hold
          exact cell_skip hW (fun x => c x.symm) hsm (by omega) hold h1 (FWs_m hF (a := m) (b := e) (by omega) (by omega) (by omega) (Or.inl rfl)) (Or.inr d)
      · have hem : e ≠ m := fun x => d (by rw [x]; exact (hF.1 m (by omega)).1)
        rw [if_neg d, rd_nI (by omega) (by decide), rd_nI (by omega) (by decide), cell_nI]
        obtain ⟨gain1, mark1, i1, i2, i3, i4⟩ := improve_eq (i := s * 16 + e) (by omega) (y3 + gain (m * 16 + e)) (y6 + mark (m * 16 + e)) gain mark
        rw [i1, b2S]
        refine ih f (e + 1) gain1 mark1 (by omega) (by omega) (FWs_next hF (by omega) (by omega) i2 ?_)
        rw [if_neg (fun x => c x.symm), if_neg (fun x => by omega)]
        have hold := hF.2 s e (by omega) (by omega) (fun x => c x.symm)
        rw [if_neg (fun x => by omega)] at hold
        obtain ⟨t1, t2⟩ := cell_step hW (fun x => c x.symm) hsm hem hold h1 (FWs_m hF (a := m) (b := e) (by omega) (by omega) (by omega) (Or.inl rfl)) hn1 d
        by_cases q : gain (s * 16 + e) < y3 + gain (m * 16 + e) ∨ (gain (s * 16 + e) = y3 + gain (m * 16 + e) ∧ ¬ lg_cmp (y6 + mark (m * 16 + e)) (mark (s * 16 + e)) ≤ 0)
        · rw [(i3 q).1, (i3 q).2]; exact t1 q
        · rw [(i4 q).1, (i4 q).2]; exact t2 q
theorem FWs_row {G : Gr} (hW : Wf G) {m s : Nat} {gain : Nat → Int32} {mark : Nat → Int64} (h : FWs G m s (nd G) gain mark) : FWs G m (s + 1) 0 gain mark := by
  have hn := hW.1
  refine ⟨h.1, fun a b ha hb hab => ?_⟩
  have := h.2 a b ha hb hab
  by_cases d : a ≠ m ∧ b ≠ m ∧ (a < s ∨ (a = s ∧ b < nd G))
  · rw [if_pos d] at this
    rw [if_pos ⟨d.1, d.2.1, by omega⟩]
    exact this
  · rw [if_neg d] at this
    by_cases q : a ≠ m ∧ b ≠ m ∧ (a < s + 1 ∨ (a = s + 1 ∧ b < 0))
    · rw [if_pos q]
      exact CellC_out hW hab (by omega) this
    · rw [if_neg q]
      exact this
theorem row_skip {G : Gr} (hW : Wf G) {m s : Nat} (hm : m < 16) (hs : s < 16) {gain : Nat → Int32} {mark : Nat → Int64} (h : FWs G m s 0 gain mark) (hg : gain (s * 16 + m) = -1000000000) : FWs G m (s + 1) 0 gain mark := by
  refine ⟨h.1, fun a b ha hb hab => ?_⟩
  have := h.2 a b ha hb hab
  by_cases d : a ≠ m ∧ b ≠ m ∧ (a < s ∨ (a = s ∧ b < 0))
  · rw [if_pos d] at this
    rw [if_pos ⟨d.1, d.2.1, by omega⟩]
    exact this
  · rw [if_neg d] at this
    by_cases q : a ≠ m ∧ b ≠ m ∧ (a < s + 1 ∨ (a = s + 1 ∧ b < 0))
    · rw [if_pos q]
      have e : a = s := by omega
      subst e
      exact cell_skip hW hab q.1 q.2.1 this (FWs_m h ha hm q.1 (Or.inr rfl)) (FWs_m h hm hb (fun x => q.2.1 x.symm) (Or.inl rfl)) (Or.inl hg)
    · rw [if_neg q]
      exact this
theorem paths113_L {F : Nat} (hF : 100000 ≤ F) {G : Gr} (hW : Wf G) {m : Nat} (hm : m < nd G) {kk : (Nat → Int32) → (Nat → Int64) → Option (Int32 × (Nat → Int32) × (Nat → Int64) × (Nat → Int32))} :
    ∀ (k f s : Nat) (gain : Nat → Int32) (mark : Nat → Int64), s + k = nd G → k < f → FWs G m s 0 gain mark → ∃ gain' mark', f_X4_findPaths_L113 F (nI (nd G)) (nI m) kk f (nI s) gain mark = kk gain' mark' ∧ FWs G m (nd G) 0 gain' mark' := by
  have hn := hW.1
  intro k
  induction k with
  | zero =>
    intro f s gain mark e1 hf hF
    obtain ⟨f, rfl⟩ : ∃ k, f = k + 1 := ⟨f - 1, by omega⟩
    refine ⟨gain, mark, ?_, by rw [show nd G = s by omega]; exact hF⟩
    unfold f_X4_findPaths_L113
    rw [if_pos (by rw [nI_leI (by omega) (by omega)]; omega)]
  | succ k ih =>
    intro f s gain mark e1 hf hFW
    obtain ⟨f, rfl⟩ : ∃ k, f = k + 1 := ⟨f - 1, by omega⟩
    unfold f_X4_findPaths_L113
    rw [if_neg (fun h => by rw [nI_leI (by omega) (by omega)] at h; omega), cell_nI, rd_nI (by omega) (by decide), nI_1]
    by_cases c : gain (s * 16 + m) = -1000000000
    · rw [if_pos c]
      exact ih f (s + 1) gain mark (by omega) (by omega) (row_skip hW (by omega) (by omega) hFW c)
    · have hsm : s ≠ m := fun x => c (by rw [x]; exact (hFW.1 m (by omega)).1)
      rw [if_neg c]
      obtain ⟨gain1, mark1, l1, l2⟩ := lengthen_L hW hm (show s < nd G by omega) hsm (FWs_m hFW (a := s) (b := m) (by omega) (by omega) hsm (Or.inr rfl)) c (kk := fun x y => some (x, y)) (nd G) F 0 gain mark (by omega) (by omega) hFW
      have e : f_X4_lengthen F (nI s) (nI m) (nI (nd G)) gain mark = some (gain1, mark1) := by
        unfold f_X4_lengthen
        rw [cell_nI, rd_nI (by omega) (by decide), rd_nI (by omega) (by decide)]
        simp only [jn]
        rw [z32]
        exact l1
      rw [e, b2S]
      exact ih f (s + 1) gain1 mark1 (by omega) (by omega) (FWs_row hW l2)
theorem FWs_stage {G : Gr} (hW : Wf G) {m : Nat} {gain : Nat → Int32} {mark : Nat → Int64} (h : FWs G m (nd G) 0 gain mark) : FWs G (m + 1) 0 0 gain mark := by
  have hn := hW.1
  refine ⟨h.1, fun a b ha hb hab => ?_⟩
  have := h.2 a b ha hb hab
  rw [if_neg (fun x => by omega)]
  by_cases d : a ≠ m ∧ b ≠ m ∧ (a < nd G ∨ (a = nd G ∧ b < 0))
  · rw [if_pos d] at this
    exact this
  · rw [if_neg d] at this
    by_cases q : a = m ∨ b = m
    · exact CellC_up hW hab this (fun e he => Ent_same q he)
    · exact CellC_out hW hab (by omega) this
theorem paths100_L {F : Nat} (hF : 100000 ≤ F) {G : Gr} (hW : Wf G) {kk : (Nat → Int32) → (Nat → Int64) → Option (Int32 × (Nat → Int32) × (Nat → Int64) × (Nat → Int32))} :
    ∀ (k f m : Nat) (gain : Nat → Int32) (mark : Nat → Int64), m + k = nd G → k < f → FWs G m 0 0 gain mark → ∃ gain' mark', f_X4_findPaths_L100 F (nI (nd G)) kk f (nI m) gain mark = kk gain' mark' ∧ FWs G (nd G) 0 0 gain' mark' := by
  have hn := hW.1
  intro k
  induction k with
  | zero =>
    intro f m gain mark e1 hf hF
    obtain ⟨f, rfl⟩ : ∃ k, f = k + 1 := ⟨f - 1, by omega⟩
    refine ⟨gain, mark, ?_, by rw [show nd G = m by omega]; exact hF⟩
    unfold f_X4_findPaths_L100
    rw [if_pos (by rw [nI_leI (by omega) (by omega)]; omega)]
  | succ k ih =>
    intro f m gain mark e1 hf hFW
    obtain ⟨f, rfl⟩ : ∃ k, f = k + 1 := ⟨f - 1, by omega⟩
    obtain ⟨gain1, mark1, l1, l2⟩ := paths113_L hF hW (m := m) (by omega) (kk := fun x y => f_X4_findPaths_L100 F (nI (nd G)) kk f (nI m + 1) x y) (nd G) F 0 gain mark (by omega) (by omega) hFW
    unfold f_X4_findPaths_L100
    rw [if_neg (fun h => by rw [nI_leI (by omega) (by omega)] at h; omega)]
    simp only [jn]
    rw [z32, l1, nI_1]
    exact ih f (m + 1) gain1 mark1 (by omega) (by omega) (FWs_stage hW l2)
def vJ (G : Gr) (i : Nat) : Int := -((wt G i * 1024 + 1 : Nat) : Int)
theorem paths22_L {G : Gr} (hW : Wf G) {nodes made : Int32} {one oth wts alv joined : Nat → Int32} (hC : CG G nodes made one oth wts alv joined) {kk : (Nat → Int32) → (Nat → Int64) → Option (Int32 × (Nat → Int32) × (Nat → Int64) × (Nat → Int32))} :
    ∀ (k m i : Nat) (gain : Nat → Int32) (mark : Nat → Int64), i + k = md G → k < m → OT G (vJ G) i gain mark → ∃ gain' mark', f_X4_findPaths_L22 made one oth wts alv kk m (nI i) gain mark = kk gain' mark' ∧ OT G (vJ G) (md G) gain' mark' := by
  obtain ⟨-, hm, hA, -⟩ := hC
  have h60 := hW.2.1
  intro k
  induction k with
  | zero =>
    intro m i gain mark e1 hk hO
    obtain ⟨m, rfl⟩ : ∃ k, m = k + 1 := ⟨m - 1, by omega⟩
    have : i = md G := by omega
    subst this
    refine ⟨gain, mark, ?_, hO⟩
    unfold f_X4_findPaths_L22
    rw [hm, if_pos ((nI_leI (by omega) (by omega)).mpr (Nat.le_refl _))]
  | succ k ih =>
    intro m i gain mark e1 hk hO
    obtain ⟨m, rfl⟩ : ∃ k, m = k + 1 := ⟨m - 1, by omega⟩
    obtain ⟨a1, a2, a3, a4⟩ := hA i (by omega)
    have hwt := (hW.2.2 i (by omega)).2.2.2
    unfold f_X4_findPaths_L22
    rw [hm, if_neg (fun h => by rw [nI_leI (by omega) (by omega)] at h; omega), rd_nI (by omega) (by decide), a4, nI_1]
    by_cases c : al G i = true
    · rw [if_pos c, if_neg (by decide), rd_nI (by omega) (by decide), rd_nI (by omega) (by decide), rd_nI (by omega) (by decide), a1, a2, a3, markOf_nI (by omega)]
      have hg : (-((nI (wt G i) * 1024) + 1)).toInt = vJ G i := by
        rw [show (1024 : Int32) = nI 1024 from rfl, pk_mul, nI_1, sb_negT (by omega)]
        rfl
      obtain ⟨gain1, mark1, t1, t2⟩ := offer_step hW (val := vJ G) (fun i hi => by have := (hW.2.2 i hi).2.2.2; unfold vJ; omega) (k := i) (by omega) c hO (gv := -((nI (wt G i) * 1024) + 1)) hg
      rw [t1, b2S, ← hm]
      exact ih m (i + 1) gain1 mark1 (by omega) (by omega) t2
    · rw [if_neg c, if_pos rfl, ← hm]
      refine ih m (i + 1) gain mark (by omega) (by omega) (fun v u hv hu => ?_)
      rcases hO v u hv hu with ⟨b1, b2, b3⟩ | ⟨j, b1, b2, b3, b4, b5, b6⟩
      · refine Or.inl ⟨fun l hl hal hj => ?_, b2, b3⟩
        by_cases d : l = i
        · exact c (d ▸ hal)
        · exact b1 l (by omega) hal hj
      · refine Or.inr ⟨j, by omega, b2, b3, b4, b5, fun l hl hal hj => ?_⟩
        by_cases d : l = i
        · exact absurd (d ▸ hal) c
        · exact b6 l (by omega) hal hj
theorem OT_FW {G : Gr} (hW : Wf G) {gain : Nat → Int32} {mark : Nat → Int64} (h : OT G (vJ G) (md G) gain mark) : FWs G 0 0 0 gain mark := by
  have h60 := hW.2.1
  refine ⟨fun a ha => ?_, fun a b ha hb hab => ?_⟩
  · rcases h a a ha ha with ⟨-, h2, h3⟩ | ⟨j, j1, -, j3, -⟩
    · exact ⟨h2, h3⟩
    · obtain ⟨w1, w2, w3, -⟩ := hW.2.2 j j1
      rcases j3 with ⟨x, y⟩ | ⟨x, y⟩ <;> omega
  · rw [if_neg (fun x => by omega)]
    rcases h a b ha hb with ⟨h1, h2, h3⟩ | ⟨j, j1, j2, j3, j4, j5, j6⟩
    · refine Or.inl ⟨h2, h3, ?_⟩
      rintro x ⟨n, hx⟩
      cases n with
      | zero =>
        obtain ⟨i, i1, i2, i3, -⟩ := hx
        exact h1 i i1 i2 i3
      | succ n =>
        obtain ⟨i, c, y, -, -, -, i4, -⟩ := hx
        exact absurd i4 (Nat.not_lt_zero _)
    · have hL := Lv_mkA hW j1 j2
      have hJS : JS G 0 a b (mkA j) := by
        refine ⟨hL, fun i hi hx => ?_, ?_⟩
        · rw [inX_mkA (by omega) hi] at hx
          rw [of_decide_eq_true hx]
          rcases j3 with ⟨x, y⟩ | ⟨x, y⟩ <;> omega
        · rw [oX_mkA (by omega) 60 (Nat.le_refl _), if_pos (by omega), Jn_ends j3]
      have hlen : lX (lnC G) (mkA j) 60 = lnC G j := by rw [lX_mkA (by omega) 60 (Nat.le_refl _), if_pos (by omega)]
      have hcs : csC G (mkA j) = wt G j * 1024 + 1 := by
        unfold csC
        rw [cX_mkA (by omega), wX_lX, lX_mkA (by omega) 60 (Nat.le_refl _), if_pos (by omega)]
      refine Or.inr ⟨mkA j, hJS, ?_, j5, ⟨mkA j, hJS, rfl⟩, ?_⟩
      · rw [j4, hcs]; rfl
      · rintro y ⟨n, hx⟩
        cases n with
        | zero =>
          obtain ⟨i, i1, i2, i3, rfl⟩ := hx
          rw [hlen]
          have hmj : mkA j < 2 ^ 60 := mkA_lt
          have hmi : mkA i < 2 ^ 60 := mkA_lt
          unfold lnC
          rcases j6 i i1 i2 i3 with z | ⟨z1, z2⟩
          · unfold vJ at z; omega
          · have := mkA_le z2
            unfold vJ at z1; omega
        | succ n =>
          obtain ⟨i, c, y, -, -, -, i4, -⟩ := hx
          exact absurd i4 (Nat.not_lt_zero _)
