/-! ===== the reference's least lengths ===== -/
def lnM (G : Gr) (i : Nat) : Nat := wt G i * 64 + 1
theorem lenM (G : Gr) (X : Nat) : ∀ k, lX (lnM G) X k = wX G X k * 64 + cX X k := by
  intro k
  induction k with
  | zero => rfl
  | succ k ih =>
    rw [lX_s, wX_s, cX_s, ih]
    unfold lnM
    by_cases c : inX X k = true
    · rw [if_pos c, if_pos c, if_pos c]; omega
    · rw [if_neg c, if_neg c, if_neg c]; omega
theorem lenM_le {G : Gr} (hW : Wf G) {X : Nat} (h : Lv G X) : lX (lnM G) X 60 ≤ 3840060 := by
  have h60 := hW.2.1
  have h1 := cX_md (X := X) h60 (fun i hi hx => (h.2 i hi hx).1) (60 - md G) (by omega)
  rw [show md G + (60 - md G) = 60 by omega] at h1
  have h2 := wX_le hW (X := X) (md G) (Nat.le_refl _)
  have h3 := cX_le X 60
  rw [lenM]
  omega
def vO (e : Option Nat) : Nat := match e with
  | none => 1000000000
  | some v => v
def CellM (G : Gr) (m a b : Nat) (x : Int32) : Prop := ∃ e, Ent G (lnM G) m a b e ∧ x = nI (vO e)
theorem Ent_bd {G : Gr} (hW : Wf G) {m a b : Nat} {e : Option Nat} (h : Ent G (lnM G) m a b e) : e = none ∨ ∃ v, e = some v ∧ v ≤ 3840060 := by
  cases e with
  | none => exact Or.inl rfl
  | some v =>
    obtain ⟨⟨X, x1, x2⟩, -⟩ := h
    have := lenM_le hW x1.1
    exact Or.inr ⟨v, rfl, by omega⟩
theorem vO_le {G : Gr} (hW : Wf G) {m a b : Nat} {e : Option Nat} (h : Ent G (lnM G) m a b e) : vO e ≤ 1000000000 := by
  rcases Ent_bd hW h with rfl | ⟨v, rfl, hv⟩
  · exact Nat.le_refl _
  · show v ≤ 1000000000; omega
/-- the table inside stage m -/
def FMs (G : Gr) (m s e : Nat) (way : Nat → Int32) : Prop := (∀ a, a < 16 → way (a * 16 + a) = nI 0) ∧ ∀ a b, a < 16 → b < 16 → a ≠ b → CellM G (if a ≠ m ∧ b ≠ m ∧ (a < s ∨ (a = s ∧ b < e)) then m + 1 else m) a b (way (a * 16 + b))
theorem FMs_m {G : Gr} {m s e : Nat} {way : Nat → Int32} (h : FMs G m s e way) {a b : Nat} (ha : a < 16) (hb : b < 16) (hab : a ≠ b) (hm : a = m ∨ b = m) : CellM G m a b (way (a * 16 + b)) := by
  have := h.2 a b ha hb hab
  rw [if_neg (fun x => by omega)] at this
  exact this
theorem CellM_out {G : Gr} (hW : Wf G) {m m' a b : Nat} (hab : a ≠ b) (ho : nd G ≤ a ∨ nd G ≤ b) {x : Int32} (h : CellM G m a b x) : CellM G m' a b x := by
  obtain ⟨e, e1, e2⟩ := h
  have := Ent_one hW hab e1 (Ent_out (l := lnM G) (m := m) hW ho)
  subst this
  exact ⟨none, Ent_out hW ho, e2⟩
theorem mway178_L {G : Gr} (hW : Wf G) {m s : Nat} (hm : m < nd G) (hs : s < nd G) {kk : (Nat → Int32) → Option ((Nat → Int32) × (Nat → Int32))} :
    ∀ (k f e : Nat) (way : Nat → Int32), e + k = nd G → k < f → FMs G m s e way → ∃ way', f_X12_findPairCosts_L178 (nI (nd G)) (nI m) (nI s) kk f (nI e) way = kk way' ∧ FMs G m s (nd G) way' := by
  have hn := hW.1
  intro k
  induction k with
  | zero =>
    intro f e way e1 hf hF
    obtain ⟨f, rfl⟩ : ∃ k, f = k + 1 := ⟨f - 1, by omega⟩
    refine ⟨way, ?_, by rw [show nd G = e by omega]; exact hF⟩
    unfold f_X12_findPairCosts_L178
    rw [if_pos (by rw [nI_leI (by omega) (by omega)]; omega)]
  | succ k ih =>
    intro f e way e1 hf hF
    obtain ⟨f, rfl⟩ : ∃ k, f = k + 1 := ⟨f - 1, by omega⟩
    -- the three cells, as numbers
    have num : ∀ a b, a < 16 → b < 16 → ∃ x, way (a * 16 + b) = nI x ∧ x ≤ 1000000000 := by
      intro a b ha hb
      by_cases c : a = b
      · subst c; exact ⟨0, hF.1 a ha, by omega⟩
      · obtain ⟨q, q1, q2⟩ := hF.2 a b ha hb c
        exact ⟨vO q, q2, vO_le hW q1⟩
    obtain ⟨x, x1, x2⟩ := num s e (by omega) (by omega)
    obtain ⟨y, y1, y2⟩ := num s m (by omega) (by omega)
    obtain ⟨z, z1, z2⟩ := num m e (by omega) (by omega)
    -- what the new number is
    have key : (x ≤ y + z → (s = e ∨ e = m ∨ s = m ∨ CellM G (m + 1) s e (nI x))) ∧ (¬ x ≤ y + z → s ≠ e ∧ e ≠ m ∧ s ≠ m ∧ CellM G (m + 1) s e (nI (y + z))) := by
      by_cases c : s = e
      · refine ⟨fun _ => Or.inl c, fun h => ?_⟩
        have := hF.1 s (by omega)
        rw [← c, this] at x1
        have := (nI_eq (a := 0) (b := x) (by decide) (by omega)).mp x1
        omega
      · by_cases d : e = m
        · refine ⟨fun _ => Or.inr (Or.inl d), fun h => ?_⟩
          rw [d, y1] at x1
          have := (nI_eq (a := y) (b := x) (by omega) (by omega)).mp x1
          omega
        · by_cases g : s = m
          · refine ⟨fun _ => Or.inr (Or.inr (Or.inl g)), fun h => ?_⟩
            rw [g, z1] at x1
            have := (nI_eq (a := z) (b := x) (by omega) (by omega)).mp x1
            omega
          · obtain ⟨q, q1, q2⟩ := hF.2 s e (by omega) (by omega) c
            rw [if_neg (fun x => by omega)] at q1
            obtain ⟨p, p1, p2⟩ := FMs_m hF (a := s) (b := m) (by omega) (by omega) g (Or.inr rfl)
            obtain ⟨r, r1, r2⟩ := FMs_m hF (a := m) (b := e) (by omega) (by omega) (fun x => d x.symm) (Or.inl rfl)
            have hst := Ent_step hW c g d q1 p1 r1
            have ex : x = vO q := (nI_eq (by omega) (by have := vO_le hW q1; omega)).mp (x1.symm.trans q2)
            have ey : y = vO p := (nI_eq (by omega) (by have := vO_le hW p1; omega)).mp (y1.symm.trans p2)
            have ez : z = vO r := (nI_eq (by omega) (by have := vO_le hW r1; omega)).mp (z1.symm.trans r2)
            have hmin : vO (omin q (oadd p r)) = if x ≤ y + z then x else y + z := by
              rcases Ent_bd hW q1 with rfl | ⟨v, rfl, hv⟩ <;> rcases Ent_bd hW p1 with rfl | ⟨w, rfl, hw⟩ <;> rcases Ent_bd hW r1 with rfl | ⟨t, rfl, ht⟩
              all_goals (simp only [vO] at ex ey ez)
              all_goals (subst ex; subst ey; subst ez)
              · rw [if_pos (by omega)]; rfl
              · rw [if_pos (by omega)]; rfl
              · rw [if_pos (by omega)]; rfl
              · rw [if_neg (by omega)]; rfl
              · rw [if_pos (by omega)]; rfl
              · rw [if_pos (by omega)]; rfl
              · rw [if_pos (by omega)]; rfl
              · show vO (if y + z < x then some (y + z) else some x) = _
                by_cases u : y + z < x
                · rw [if_pos u, if_neg (by omega)]; rfl
                · rw [if_neg u, if_pos (by omega)]; rfl
            refine ⟨fun h => Or.inr (Or.inr (Or.inr ⟨_, hst, by rw [hmin, if_pos h]⟩)), fun h => ⟨c, d, g, _, hst, by rw [hmin, if_neg h]⟩⟩
    have next : ∀ way', (∀ x, x ≠ s * 16 + e → way' x = way x) → (s = e ∨ e = m ∨ s = m → way' (s * 16 + e) = way (s * 16 + e)) → (¬ (s = e ∨ e = m ∨ s = m) → CellM G (m + 1) s e (way' (s * 16 + e))) → FMs G m s (e + 1) way' := by
      intro way' ho h1 h2
      refine ⟨fun a ha => ?_, fun a b ha hb hab => ?_⟩
      · by_cases c : a * 16 + a = s * 16 + e
        · rw [c, h1 (Or.inl (by omega)), ← c]; exact hF.1 a ha
        · rw [ho _ c]; exact hF.1 a ha
      · by_cases c : a * 16 + b = s * 16 + e
        · have e1 : a = s := by omega
          have e2 : b = e := by omega
          subst e1
          subst e2
          by_cases d : b = m ∨ a = m
          · rw [if_neg (fun x => by omega), h1 (Or.inr d)]
            exact FMs_m hF ha hb hab (by omega)
          · rw [if_pos ⟨by omega, by omega, by omega⟩]
            exact h2 (fun x => by omega)
        · rw [ho _ c]
          have := hF.2 a b ha hb hab
          by_cases d : a ≠ m ∧ b ≠ m ∧ (a < s ∨ (a = s ∧ b < e))
          · rw [if_pos d] at this
            rw [if_pos ⟨d.1, d.2.1, by omega⟩]
            exact this
          · rw [if_neg d] at this
            rw [if_neg (fun x => d ⟨x.1, x.2.1, by omega⟩)]
            exact this
    unfold f_X12_findPairCosts_L178
    rw [if_neg (fun h => by rw [nI_leI (by omega) (by omega)] at h; omega), cell2_nI, cell2_nI, cell2_nI, rd_nI (by omega) (by decide), rd_nI (by omega) (by decide), rd_nI (by omega) (by decide), x1, y1, z1, nI_add, rd_nI (by omega) (by decide), wr_nI (by omega) (by decide), wr_nI (by omega) (by decide), x1, nI_1]
    by_cases c : x ≤ y + z
    · rw [if_pos ((nI_leI (by omega) (by omega)).mpr c)]
      refine ih f (e + 1) _ (by omega) (by omega) (next _ (fun w hw => up_n hw) (fun _ => by rw [up_s, x1]) (fun h => ?_))
      rw [up_s]
      rcases key.1 c with q | q | q | q
      · exact absurd (Or.inl q) h
      · exact absurd (Or.inr (Or.inl q)) h
      · exact absurd (Or.inr (Or.inr q)) h
      · exact q
    · rw [if_neg (fun h => c ((nI_leI (by omega) (by omega)).mp h))]
      obtain ⟨k1, k2, k3, k4⟩ := key.2 c
      exact ih f (e + 1) _ (by omega) (by omega) (next _ (fun w hw => up_n hw) (fun h => by omega) (fun _ => by rw [up_s]; exact k4))
theorem FMs_row {G : Gr} (hW : Wf G) {m s : Nat} {way : Nat → Int32} (h : FMs G m s (nd G) way) : FMs G m (s + 1) 0 way := by
  refine ⟨h.1, fun a b ha hb hab => ?_⟩
  have := h.2 a b ha hb hab
  by_cases d : a ≠ m ∧ b ≠ m ∧ (a < s ∨ (a = s ∧ b < nd G))
  · rw [if_pos d] at this
    rw [if_pos ⟨d.1, d.2.1, by omega⟩]
    exact this
  · rw [if_neg d] at this
    by_cases q : a ≠ m ∧ b ≠ m ∧ (a < s + 1 ∨ (a = s + 1 ∧ b < 0))
    · rw [if_pos q]
      exact CellM_out hW hab (by omega) this
    · rw [if_neg q]
      exact this
theorem mway168_L {F : Nat} (hF : 100000 ≤ F) {G : Gr} (hW : Wf G) {m : Nat} (hm : m < nd G) {kk : (Nat → Int32) → Option ((Nat → Int32) × (Nat → Int32))} :
    ∀ (k f s : Nat) (way : Nat → Int32), s + k = nd G → k < f → FMs G m s 0 way → ∃ way', f_X12_findPairCosts_L168 F (nI (nd G)) (nI m) kk f (nI s) way = kk way' ∧ FMs G m (nd G) 0 way' := by
  have hn := hW.1
  intro k
  induction k with
  | zero =>
    intro f s way e1 hf hF
    obtain ⟨f, rfl⟩ : ∃ k, f = k + 1 := ⟨f - 1, by omega⟩
    refine ⟨way, ?_, by rw [show nd G = s by omega]; exact hF⟩
    unfold f_X12_findPairCosts_L168
    rw [if_pos (by rw [nI_leI (by omega) (by omega)]; omega)]
  | succ k ih =>
    intro f s way e1 hf hFW
    obtain ⟨f, rfl⟩ : ∃ k, f = k + 1 := ⟨f - 1, by omega⟩
    obtain ⟨way1, l1, l2⟩ := mway178_L hW hm (show s < nd G by omega) (kk := fun w => f_X12_findPairCosts_L168 F (nI (nd G)) (nI m) kk f (nI s + 1) w) (nd G) F 0 way (by omega) (by omega) hFW
    unfold f_X12_findPairCosts_L168
    rw [if_neg (fun h => by rw [nI_leI (by omega) (by omega)] at h; omega)]
    simp only [jn]
    rw [z32, l1, nI_1]
    exact ih f (s + 1) way1 (by omega) (by omega) (FMs_row hW l2)
theorem FMs_stage {G : Gr} (hW : Wf G) {m : Nat} {way : Nat → Int32} (h : FMs G m (nd G) 0 way) : FMs G (m + 1) 0 0 way := by
  have hn := hW.1
  refine ⟨h.1, fun a b ha hb hab => ?_⟩
  have := h.2 a b ha hb hab
  rw [if_neg (fun x => by omega)]
  by_cases d : a ≠ m ∧ b ≠ m ∧ (a < nd G ∨ (a = nd G ∧ b < 0))
  · rw [if_pos d] at this
    exact this
  · rw [if_neg d] at this
    by_cases q : a = m ∨ b = m
    · obtain ⟨e, e1, e2⟩ := this
      exact ⟨e, Ent_same q e1, e2⟩
    · exact CellM_out hW hab (by omega) this
theorem mway158_L {F : Nat} (hF : 100000 ≤ F) {G : Gr} (hW : Wf G) {kk : (Nat → Int32) → Option ((Nat → Int32) × (Nat → Int32))} :
    ∀ (k f m : Nat) (way : Nat → Int32), m + k = nd G → k < f → FMs G m 0 0 way → ∃ way', f_X12_findPairCosts_L158 F (nI (nd G)) kk f (nI m) way = kk way' ∧ FMs G (nd G) 0 0 way' := by
  have hn := hW.1
  intro k
  induction k with
  | zero =>
    intro f m way e1 hf hF
    obtain ⟨f, rfl⟩ : ∃ k, f = k + 1 := ⟨f - 1, by omega⟩
    refine ⟨way, ?_, by rw [show nd G = m by omega]; exact hF⟩
    unfold f_X12_findPairCosts_L158
    rw [if_pos (by rw [nI_leI (by omega) (by omega)]; omega)]
  | succ k ih =>
    intro f m way e1 hf hFW
    obtain ⟨f, rfl⟩ : ∃ k, f = k + 1 := ⟨f - 1, by omega⟩
    obtain ⟨way1, l1, l2⟩ := mway168_L hF hW (m := m) (by omega) (kk := fun w => f_X12_findPairCosts_L158 F (nI (nd G)) kk f (nI m + 1) w) (nd G) F 0 way (by omega) (by omega) hFW
    unfold f_X12_findPairCosts_L158
    rw [if_neg (fun h => by rw [nI_leI (by omega) (by omega)] at h; omega)]
    simp only [jn]
    rw [z32, l1, nI_1]
    exact ih f (m + 1) way1 (by omega) (by omega) (FMs_stage hW l2)
/-- the first k arcs -/
def WM (G : Gr) (k : Nat) (way : Nat → Int32) : Prop := (∀ a, a < 16 → way (a * 16 + a) = nI 0) ∧ ∀ a b, a < 16 → b < 16 → a ≠ b → ((∀ i, i < k → al G i = true → ¬ Jn G i a b) ∧ way (a * 16 + b) = nI 1000000000) ∨ ∃ j, j < k ∧ al G j = true ∧ Jn G j a b ∧ way (a * 16 + b) = nI (lnM G j) ∧ ∀ i, i < k → al G i = true → Jn G i a b → lnM G j ≤ lnM G i
theorem mway10_L {a : Nat} (ha : a < 16) {kk : (Nat → Int32) → Option ((Nat → Int32) × (Nat → Int32))} :
    ∀ (k f b : Nat) (way : Nat → Int32), b + k = 16 → k < f → (∀ x y, x < 16 → y < 16 → (x < a ∨ (x = a ∧ y < b)) → way (x * 16 + y) = nI (if x = y then 0 else 1000000000)) → ∃ way', f_X12_findPairCosts_L10 (nI a) kk f (nI b) way = kk way' ∧ ∀ x y, x < 16 → y < 16 → x < a + 1 → way' (x * 16 + y) = nI (if x = y then 0 else 1000000000) := by
  intro k
  induction k with
  | zero =>
    intro f b way e1 hf h
    obtain ⟨f, rfl⟩ : ∃ k, f = k + 1 := ⟨f - 1, by omega⟩
    refine ⟨way, ?_, fun x y hx hy hxa => h x y hx hy (by omega)⟩
    unfold f_X12_findPairCosts_L10
    rw [if_pos ((le16 (by omega)).mpr (by omega))]
  | succ k ih =>
    intro f b way e1 hf h
    obtain ⟨f, rfl⟩ : ∃ k, f = k + 1 := ⟨f - 1, by omega⟩
    unfold f_X12_findPairCosts_L10
    rw [if_neg (fun h => by rw [le16 (by omega)] at h; omega), cell2_nI, wr_nI (by omega) (by decide), wr_nI (by omega) (by decide), nI_1]
    by_cases c : a = b
    · rw [if_pos (by rw [c])]
      refine ih f (b + 1) _ (by omega) (by omega) (fun x y hx hy hxy => ?_)
      by_cases d : x * 16 + y = a * 16 + b
      · rw [d, up_s, if_pos (by omega)]; rfl
      · rw [up_n d]; exact h x y hx hy (by omega)
    · rw [if_neg (fun x => c ((nI_eq (by omega) (by omega)).mp x))]
      refine ih f (b + 1) _ (by omega) (by omega) (fun x y hx hy hxy => ?_)
      by_cases d : x * 16 + y = a * 16 + b
      · rw [d, up_s, if_neg (by omega)]; rfl
      · rw [up_n d]; exact h x y hx hy (by omega)
theorem mway2_L {F : Nat} (hF : 100000 ≤ F) {kk : (Nat → Int32) → Option ((Nat → Int32) × (Nat → Int32))} :
    ∀ (k f a : Nat) (way : Nat → Int32), a + k = 16 → k < f → (∀ x y, x < 16 → y < 16 → x < a → way (x * 16 + y) = nI (if x = y then 0 else 1000000000)) → ∃ way', f_X12_findPairCosts_L2 F kk f (nI a) way = kk way' ∧ ∀ x y, x < 16 → y < 16 → way' (x * 16 + y) = nI (if x = y then 0 else 1000000000) := by
  intro k
  induction k with
  | zero =>
    intro f a way e1 hf h
    obtain ⟨f, rfl⟩ : ∃ k, f = k + 1 := ⟨f - 1, by omega⟩
    refine ⟨way, ?_, fun x y hx hy => h x y hx hy (by omega)⟩
    unfold f_X12_findPairCosts_L2
    rw [if_pos ((le16 (by omega)).mpr (by omega))]
  | succ k ih =>
    intro f a way e1 hf h
    obtain ⟨f, rfl⟩ : ∃ k, f = k + 1 := ⟨f - 1, by omega⟩
    obtain ⟨way1, l1, l2⟩ := mway10_L (a := a) (by omega) (kk := fun w => f_X12_findPairCosts_L2 F kk f (nI a + 1) w) 16 F 0 way (by omega) (by omega) (fun x y hx hy hxy => h x y hx hy (by omega))
    unfold f_X12_findPairCosts_L2
    rw [if_neg (fun h => by rw [le16 (by omega)] at h; omega)]
    simp only [jn]
    rw [z32, l1, nI_1]
    exact ih f (a + 1) way1 (by omega) (by omega) l2
theorem mway52_L {G : Gr} (hW : Wf G) {nodes made : Int32} {fm tm wm am : Nat → Int32} (hC : MG G nodes made fm tm wm am) {kk : (Nat → Int32) → Option ((Nat → Int32) × (Nat → Int32))} :
    ∀ (k f i : Nat) (way : Nat → Int32), i + k = md G → k < f → WM G i way → ∃ way', f_X12_findPairCosts_L52 made fm tm wm am kk f (nI i) way = kk way' ∧ WM G (md G) way' := by
  have hn := hW.1
  have hm60 := hW.2.1
  obtain ⟨-, rfl, harc⟩ := hC
  intro k
  induction k with
  | zero =>
    intro f i way e1 hf h
    obtain ⟨f, rfl⟩ : ∃ k, f = k + 1 := ⟨f - 1, by omega⟩
    refine ⟨way, ?_, by rw [show md G = i by omega]; exact h⟩
    unfold f_X12_findPairCosts_L52
    rw [if_pos (by rw [nI_leI (by omega) (by omega)]; omega)]
  | succ k ih =>
    intro f i way e1 hf h
    obtain ⟨f, rfl⟩ : ∃ k, f = k + 1 := ⟨f - 1, by omega⟩
    obtain ⟨f1, f2, f3, f4⟩ := harc i (by omega)
    obtain ⟨w1, w2, w3, w4⟩ := hW.2.2 i (by omega)
    have hln : ∀ j, j < md G → lnM G j ≤ 64001 := fun j hj => by have := (hW.2.2 j hj).2.2.2; unfold lnM; omega
    have hJk : ∀ a b, Jn G i a b ↔ (a = fr G i ∧ b = tt G i) ∨ (a = tt G i ∧ b = fr G i) := by
      intro a b
      constructor
      · rintro (⟨x, y⟩ | ⟨x, y⟩)
        · exact Or.inl ⟨x.symm, y.symm⟩
        · exact Or.inr ⟨y.symm, x.symm⟩
      · rintro (⟨x, y⟩ | ⟨x, y⟩)
        · exact Or.inl ⟨x.symm, y.symm⟩
        · exact Or.inr ⟨y.symm, x.symm⟩
    unfold f_X12_findPairCosts_L52
    rw [if_neg (fun h => by rw [nI_leI (by omega) (by omega)] at h; omega), rd_nI (by omega) (by decide), rd_nI (by omega) (by decide), f3, f4, nI_1]
    -- a cell that arc i leaves as it is
    have keep : ∀ (x : Int32) (a b : Nat), ¬ (al G i = true ∧ Jn G i a b) → (((∀ j, j < i → al G j = true → ¬ Jn G j a b) ∧ x = nI 1000000000) ∨ ∃ j, j < i ∧ al G j = true ∧ Jn G j a b ∧ x = nI (lnM G j) ∧ ∀ l, l < i → al G l = true → Jn G l a b → lnM G j ≤ lnM G l) → (((∀ j, j < i + 1 → al G j = true → ¬ Jn G j a b) ∧ x = nI 1000000000) ∨ ∃ j, j < i + 1 ∧ al G j = true ∧ Jn G j a b ∧ x = nI (lnM G j) ∧ ∀ l, l < i + 1 → al G l = true → Jn G l a b → lnM G j ≤ lnM G l) := by
      intro x a b hno hx
      rcases hx with ⟨h1, h2⟩ | ⟨j, j1, j2, j3, j4, j5⟩
      · refine Or.inl ⟨fun l hl ha hJ => ?_, h2⟩
        by_cases c : l = i
        · subst c; exact hno ⟨ha, hJ⟩
        · exact h1 l (by omega) ha hJ
      · refine Or.inr ⟨j, by omega, j2, j3, j4, fun l hl ha hJ => ?_⟩
        by_cases c : l = i
        · subst c; exact absurd ⟨ha, hJ⟩ hno
        · exact j5 l (by omega) ha hJ
    by_cases c : al G i = true
    · rw [if_pos c, if_neg (by decide), rd_nI (by omega) (by decide), rd_nI (by omega) (by decide), f1, f2, cell2_nI, rd_nI (by omega) (by decide), show (64 : Int32) = nI 64 from rfl, pk_mul, nI_1]
      have hval : nI (wt G i * 64 + 1) = nI (lnM G i) := rfl
      rw [hval]
      have hli := hln i (by omega)
      -- the number that stands between the two ends
      obtain ⟨x, x1, x2, x3⟩ : ∃ x, way (fr G i * 16 + tt G i) = nI x ∧ x ≤ 1000000000 ∧ ((∃ j, j < i ∧ al G j = true ∧ Jn G j (fr G i) (tt G i) ∧ x = lnM G j) ∨ ((∀ j, j < i → al G j = true → ¬ Jn G j (fr G i) (tt G i)) ∧ x = 1000000000)) := by
        rcases h.2 _ _ (show fr G i < 16 by omega) (show tt G i < 16 by omega) w3 with ⟨h1, h2⟩ | ⟨j, j1, j2, j3, j4, -⟩
        · exact ⟨_, h2, Nat.le_refl _, Or.inr ⟨h1, rfl⟩⟩
        · have := hln j (by omega)
          exact ⟨_, j4, by omega, Or.inl ⟨j, j1, j2, j3, rfl⟩⟩
      rw [x1]
      by_cases d : x ≤ lnM G i
      · rw [if_pos ((nI_leI (by omega) (by omega)).mpr d)]
        refine ih f (i + 1) way (by omega) (by omega) ⟨h.1, fun a b ha hb hab => ?_⟩
        by_cases q : Jn G i a b
        · obtain ⟨j0, k1, k2, k3, k4⟩ : ∃ j, j < i ∧ al G j = true ∧ Jn G j (fr G i) (tt G i) ∧ x = lnM G j := by
            rcases x3 with y | ⟨-, y⟩
            · exact y
            · omega
          have k5 : Jn G j0 a b := by
            rcases (hJk a b).mp q with ⟨y, z⟩ | ⟨y, z⟩
            · rw [y, z]; exact k3
            · rw [y, z]; exact k3.symm
          rcases h.2 a b ha hb hab with ⟨h1, -⟩ | ⟨j, j1, j2, j3, j4, j5⟩
          · exact absurd k5 (h1 j0 k1 k2)
          · refine Or.inr ⟨j, by omega, j2, j3, j4, fun l hl hal hJ => ?_⟩
            by_cases e : l = i
            · subst e
              have := j5 j0 k1 k2 k5
              omega
            · exact j5 l (by omega) hal hJ
        · exact keep _ a b (fun y => q y.2) (h.2 a b ha hb hab)
      · rw [if_neg (fun y => d ((nI_leI (by omega) (by omega)).mp y)), rd_nI (by omega) (by decide), rd_nI (by omega) (by decide), f1, f2, cell2_nI, wr_nI (by omega) (by decide), rd_nI (by omega) (by decide), rd_nI (by omega) (by decide), f1, f2, cell2_nI, wr_nI (by omega) (by decide)]
        refine ih f (i + 1) _ (by omega) (by omega) ⟨fun a ha => ?_, fun a b ha hb hab => ?_⟩
        · rw [up_n (by omega), up_n (by omega)]; exact h.1 a ha
        · by_cases q : Jn G i a b
          · have hcell : va_up (va_up way (fr G i * 16 + tt G i) (nI (lnM G i))) (tt G i * 16 + fr G i) (nI (lnM G i)) (a * 16 + b) = nI (lnM G i) := by
              rcases (hJk a b).mp q with ⟨y, z⟩ | ⟨y, z⟩
              · rw [y, z, up_n (by omega), up_s]
              · rw [y, z, up_s]
            rw [hcell]
            refine Or.inr ⟨i, by omega, c, q, rfl, fun l hl hal hJ => ?_⟩
            by_cases e : l = i
            · subst e; exact Nat.le_refl _
            · -- all before are longer
              have hJ2 : Jn G l (fr G i) (tt G i) := by
                rcases (hJk a b).mp q with ⟨y, z⟩ | ⟨y, z⟩
                · rw [← y, ← z]; exact hJ
                · rw [← y, ← z]; exact hJ.symm
              rcases h.2 _ _ (show fr G i < 16 by omega) (show tt G i < 16 by omega) w3 with ⟨h1, -⟩ | ⟨j, j1, j2, j3, j4, j5⟩
              · exact absurd hJ2 (h1 l (by omega) hal)
              · have e1 := j5 l (by omega) hal hJ2
                have e2 := hln j (by omega)
                have e3 : x = lnM G j := (nI_eq (by omega) (by omega)).mp (x1.symm.trans j4)
                omega
          · have hcell : va_up (va_up way (fr G i * 16 + tt G i) (nI (lnM G i))) (tt G i * 16 + fr G i) (nI (lnM G i)) (a * 16 + b) = way (a * 16 + b) := by
              rw [up_n (fun y => q ((hJk a b).mpr (Or.inr ((cell_inj hb (by omega)).mp y)))), up_n (fun y => q ((hJk a b).mpr (Or.inl ((cell_inj hb (by omega)).mp y))))]
            rw [hcell]
            exact keep _ a b (fun y => q y.2) (h.2 a b ha hb hab)
    · rw [if_neg c, if_pos rfl]
      exact ih f (i + 1) way (by omega) (by omega) ⟨h.1, fun a b ha hb hab => keep _ a b (fun y => c y.1) (h.2 a b ha hb hab)⟩
theorem WM_FM {G : Gr} (hW : Wf G) {way : Nat → Int32} (h : WM G (md G) way) : FMs G 0 0 0 way := by
  have h60 := hW.2.1
  refine ⟨h.1, fun a b ha hb hab => ?_⟩
  rw [if_neg (fun x => by omega)]
  rcases h.2 a b ha hb hab with ⟨h1, h2⟩ | ⟨j, j1, j2, j3, j4, j5⟩
  · refine ⟨none, ?_, h2⟩
    rintro x ⟨n, hx⟩
    cases n with
    | zero =>
      obtain ⟨i, i1, i2, i3, -⟩ := hx
      exact h1 i i1 i2 i3
    | succ n =>
      obtain ⟨i, c, y, -, -, -, i4, -⟩ := hx
      exact absurd i4 (Nat.not_lt_zero _)
  · refine ⟨some (lnM G j), ⟨⟨mkA j, ⟨Lv_mkA hW j1 j2, fun i hi hx => ?_, ?_⟩, ?_⟩, ?_⟩, j4⟩
    · rw [inX_mkA (by omega) hi] at hx
      rw [of_decide_eq_true hx]
      rcases j3 with ⟨x, y⟩ | ⟨x, y⟩ <;> omega
    · rw [oX_mkA (by omega) 60 (Nat.le_refl _), if_pos (by omega), Jn_ends j3]
    · rw [lX_mkA (by omega) 60 (Nat.le_refl _), if_pos (by omega)]
    · rintro y ⟨n, hx⟩
      cases n with
      | zero =>
        obtain ⟨i, i1, i2, i3, rfl⟩ := hx
        exact j5 i i1 i2 i3
      | succ n =>
        obtain ⟨i, c, y, -, -, -, i4, -⟩ := hx
        exact absurd i4 (Nat.not_lt_zero _)
