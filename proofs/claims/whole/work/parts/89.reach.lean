/-! ===== what is reached inside W from a; the class grows by layers ===== -/
def Wk (G : Gr) (W a : Nat) : Nat → Nat → Prop
  | 0, v => v = a
  | n + 1, v => ∃ w, Wk G W a n w ∧ (adj G w).testBit v = true ∧ W.testBit v = true
def Rch (G : Gr) (W a v : Nat) : Prop := ∃ n, Wk G W a n v
/-- first reached by r steps -/
def Dst (G : Gr) (W a r v : Nat) : Prop := Wk G W a r v ∧ ∀ n, n < r → ¬ Wk G W a n v
def CP (G : Gr) (W a M : Nat) : Prop := ∀ v, M.testBit v = true ↔ Rch G W a v
theorem CP_one {G : Gr} {W a M N : Nat} (h : CP G W a M) (h' : CP G W a N) : M = N := Nat.eq_of_testBit_eq fun j => by rw [Bool.eq_iff_iff, h, h']
theorem Rch_W {G : Gr} {W a v : Nat} (ha : W.testBit a = true) (h : Rch G W a v) : W.testBit v = true := by
  obtain ⟨n, h⟩ := h
  cases n with
  | zero => rw [show v = a from h]; exact ha
  | succ n => obtain ⟨w, -, -, h⟩ := h; exact h
theorem Rch_step {G : Gr} {W a v w : Nat} (h : Rch G W a v) (h1 : (adj G v).testBit w = true) (h2 : W.testBit w = true) : Rch G W a w := by
  obtain ⟨n, h⟩ := h
  exact ⟨n + 1, v, h, h1, h2⟩
theorem Rch_least {G : Gr} {W a v : Nat} (h : Rch G W a v) : ∃ r, Dst G W a r v := by
  obtain ⟨n, h⟩ := h
  have : ∀ k m, m ≤ k → Wk G W a m v → ∃ r, Dst G W a r v := by
    intro k
    induction k with
    | zero =>
      intro m hm h
      exact ⟨m, h, fun n hn => by omega⟩
    | succ k ih =>
      intro m hm h
      by_cases c : ∃ n, n < m ∧ Wk G W a n v
      · obtain ⟨n, n1, n2⟩ := c
        exact ih n (by omega) n2
      · exact ⟨m, h, fun n hn hw => c ⟨n, hn, hw⟩⟩
  exact this n n (Nat.le_refl _) h
theorem Dst_prev {G : Gr} {W a r v : Nat} (h : Dst G W a (r + 1) v) : ∃ w, Dst G W a r w ∧ (adj G w).testBit v = true ∧ W.testBit v = true := by
  obtain ⟨⟨w, h1, h2, h3⟩, h4⟩ := h
  exact ⟨w, ⟨h1, fun n hn hw => h4 (n + 1) (by omega) ⟨w, hw, h2, h3⟩⟩, h2, h3⟩
theorem Dst_none {G : Gr} {W a r : Nat} (h : ∀ v, ¬ Dst G W a r v) : ∀ k v, ¬ Dst G W a (r + k) v := by
  intro k
  induction k with
  | zero => exact h
  | succ k ih =>
    intro v hv
    obtain ⟨w, hw, -⟩ := Dst_prev hv
    exact ih w hw
theorem pcF_mono : ∀ (k s t : Nat), (∀ i, i < k → s.testBit i = true → t.testBit i = true) → pcF k s ≤ pcF k t := by
  intro k
  induction k with
  | zero => intro s t _; exact Nat.le_refl _
  | succ k ih =>
    intro s t h
    unfold pcF
    have h1 := ih (s / 2) (t / 2) (fun i hi hs => by
      rw [← Nat.testBit_succ] at hs ⊢
      exact h (i + 1) (by omega) hs)
    have h2 : s % 2 ≤ t % 2 := by
      have := h 0 (by omega)
      rw [Nat.testBit_zero, Nat.testBit_zero, decide_eq_true_eq, decide_eq_true_eq] at this
      omega
    omega
theorem pcF_strict {k s t j : Nat} (h : ∀ i, i < k → s.testBit i = true → t.testBit i = true) (hj : j < k) (h1 : s.testBit j = false) (h2 : t.testBit j = true) : pcF k s < pcF k t := by
  have := pcF_mono k (s ||| 2 ^ j) t (fun i hi hs => by
    rw [Nat.testBit_or, Nat.testBit_two_pow, Bool.or_eq_true, decide_eq_true_eq] at hs
    rcases hs with hs | hs
    · exact h i hi hs
    · subst hs; exact h2)
  rw [pcF_or hj h1] at this
  omega
theorem pcF_all {G : Gr} (hW : Wf G) : pcF 16 (allN G) = nd G := (by decide +kernel : ∀ n, n ≤ 16 → pcF 16 (2 ^ n - 1) = n) _ hW.1
theorem besideLayer_L {G : Gr} (hW : Wf G) {joined : Nat → Int32} (hj : ∀ v, v < 16 → joined v = nI (adj G v)) {Y : Nat} (hY : Y < 65536) {kk : Int32 → Option Int32} :
    ∀ (k m v A : Nat), v + k = nd G → k < m → (∀ u, A.testBit u = true ↔ ∃ w, w < v ∧ Y.testBit w = true ∧ (adj G w).testBit u = true) → ∃ A', f_X5_besideLayer_L4 (nI (nd G)) joined (nI Y) kk m (nI A) (nI v) = kk (nI A') ∧ ∀ u, A'.testBit u = true ↔ ∃ w, Y.testBit w = true ∧ (adj G w).testBit u = true := by
  have hn := hW.1
  intro k
  induction k with
  | zero =>
    intro m v A e1 hm hA
    obtain ⟨m, rfl⟩ : ∃ k, m = k + 1 := ⟨m - 1, by omega⟩
    refine ⟨A, ?_, fun u => ?_⟩
    · unfold f_X5_besideLayer_L4
      rw [if_pos (by rw [nI_leI (by omega) (by omega)]; omega)]
    · rw [hA]
      constructor
      · rintro ⟨w, -, h1, h2⟩; exact ⟨w, h1, h2⟩
      · rintro ⟨w, h1, h2⟩
        have := (adj_in hW h2).1
        exact ⟨w, by omega, h1, h2⟩
  | succ k ih =>
    intro m v A e1 hm hA
    obtain ⟨m, rfl⟩ : ∃ k, m = k + 1 := ⟨m - 1, by omega⟩
    unfold f_X5_besideLayer_L4
    rw [if_neg (fun h => by rw [nI_leI (by omega) (by omega)] at h; omega), has_nI (by omega) (by omega), nI_1]
    by_cases c : Y.testBit v = true
    · rw [if_pos c, if_neg (by decide), rd_nI (by omega) (by decide), hj v (by omega), nI_or]
      refine ih m (v + 1) _ (by omega) (by omega) (fun u => ?_)
      rw [Nat.testBit_or, Bool.or_eq_true, hA]
      constructor
      · rintro (⟨w, h1, h2⟩ | h)
        · exact ⟨w, by omega, h2⟩
        · exact ⟨v, by omega, c, h⟩
      · rintro ⟨w, h1, h2, h3⟩
        by_cases e : w = v
        · subst e; exact Or.inr h3
        · exact Or.inl ⟨w, by omega, h2, h3⟩
    · rw [if_neg c, if_pos rfl]
      refine ih m (v + 1) _ (by omega) (by omega) (fun u => ?_)
      rw [hA]
      constructor
      · rintro ⟨w, h1, h2⟩; exact ⟨w, by omega, h2⟩
      · rintro ⟨w, h1, h2, h3⟩
        by_cases e : w = v
        · subst e; exact absurd h2 c
        · exact ⟨w, by omega, h2, h3⟩
theorem besideLayer_eq {F : Nat} (hF : 100000 ≤ F) {G : Gr} (hW : Wf G) {joined : Nat → Int32} (hj : ∀ v, v < 16 → joined v = nI (adj G v)) {Y : Nat} (hY : Y < 65536) : ∃ A, f_X5_besideLayer F (nI Y) (nI (nd G)) joined = some (nI A) ∧ ∀ u, A.testBit u = true ↔ ∃ w, Y.testBit w = true ∧ (adj G w).testBit u = true := by
  have hn := hW.1
  unfold f_X5_besideLayer
  simp only [jn]
  rw [z32]
  exact besideLayer_L hW hj hY (kk := fun x => some x) (nd G) F 0 0 (by omega) (by omega) (fun u => by
    rw [Nat.zero_testBit]
    constructor
    · intro h; cases h
    · rintro ⟨w, h, -⟩; omega)
/-- an arc inside a layer -/
def BadAt (G : Gr) (W a r : Nat) : Prop := ∃ v w, Dst G W a r v ∧ Dst G W a r w ∧ (adj G w).testBit v = true
def Bad (G : Gr) (W a : Nat) : Prop := ∃ r, BadAt G W a r
theorem grow_L {F : Nat} (hF : 100000 ≤ F) {G : Gr} (hW : Wf G) {joined : Nat → Int32} (hj : ∀ v, v < 16 → joined v = nI (adj G v)) {W a : Nat} (hWa : ∀ v, W.testBit v = true → v < nd G) (ha : W.testBit a = true) {q : Int32} {kk : Int32 → Int32 → Option (Int32 × Int32)} :
    ∀ (k m r M Y : Nat) (f : Int32), r + k = nd G → k < m → (∀ v, M.testBit v = true ↔ ∃ n, n ≤ r ∧ Wk G W a n v) → (∀ v, Y.testBit v = true ↔ Dst G W a r v) → (0 < Y → r + 1 ≤ pcF 16 M) → ((∃ r', r' < r ∧ BadAt G W a r') → f = 0) → ((¬ ∃ r', r' < r ∧ BadAt G W a r') → f = q) →
      ∃ M' f', f_X5_grow_L12 F (nI (nd G)) joined (nI W) kk m (nI M) (nI Y) (nI r) f = kk (nI M') f' ∧ CP G W a M' ∧ (Bad G W a → f' = 0) ∧ (¬ Bad G W a → f' = q) := by
  have hn := hW.1
  have hW16 : W < 65536 := lt_of_bits (n := 16) (fun v hv => by have := hWa v hv; omega)
  have hin : ∀ n v, Wk G W a n v → v < nd G := fun n v h => hWa v (Rch_W ha ⟨n, h⟩)
  intro k
  induction k with
  | zero =>
    intro m r M Y f e1 hm hM hY hpc hf1 hf2
    obtain ⟨m, rfl⟩ : ∃ k, m = k + 1 := ⟨m - 1, by omega⟩
    have hY0 : Y = 0 := by
      rcases Nat.eq_zero_or_pos Y with c | c
      · exact c
      · have h1 := hpc c
        have h2 := pcF_mono 16 M (allN G) (fun i hi h => by
          obtain ⟨n, -, h⟩ := (hM i).mp h
          rw [allN_bit]
          exact decide_eq_true (hin n i h))
        rw [pcF_all hW] at h2
        omega
    have hno : ∀ v, ¬ Dst G W a r v := fun v hv => by
      have := (hY v).mpr hv
      rw [hY0, Nat.zero_testBit] at this
      cases this
    have hno2 := Dst_none hno
    refine ⟨M, f, ?_, fun v => ?_, fun hb => hf1 ?_, fun hb => hf2 (fun ⟨r', _, h⟩ => hb ⟨r', h⟩)⟩
    · unfold f_X5_grow_L12
      rw [if_pos (by rw [nI_leI (by omega) (by omega)]; omega)]
    · rw [hM]
      constructor
      · rintro ⟨n, -, h⟩; exact ⟨n, h⟩
      · intro h
        obtain ⟨r', h1⟩ := Rch_least h
        refine ⟨r', ?_, h1.1⟩
        rcases Nat.lt_or_ge r r' with c | c
        · exact absurd (by rw [show r + (r' - r) = r' by omega]; exact h1) (hno2 (r' - r) v)
        · exact c
    · obtain ⟨r', v, w, h1, h2⟩ := hb
      refine ⟨r', ?_, v, w, h1, h2⟩
      rcases Nat.lt_or_ge r' r with c | c
      · exact c
      · exact absurd (by rw [show r + (r' - r) = r' by omega]; exact h1) (hno2 (r' - r) v)
  | succ k ih =>
    intro m r M Y f e1 hm hM hY hpc hf1 hf2
    obtain ⟨m, rfl⟩ : ∃ k, m = k + 1 := ⟨m - 1, by omega⟩
    unfold f_X5_grow_L12
    rw [if_neg (fun h => by rw [nI_leI (by omega) (by omega)] at h; omega)]
    have hY16 : Y < 65536 := lt_of_bits (n := 16) (fun v hv => by have := hin _ _ ((hY v).mp hv).1; omega)
    by_cases c : Y = 0
    · rw [if_pos (by rw [c]; rfl)]
      have hno : ∀ v, ¬ Dst G W a r v := fun v hv => by
        have := (hY v).mpr hv
        rw [c, Nat.zero_testBit] at this
        cases this
      have hno2 := Dst_none hno
      refine ⟨M, f, rfl, fun v => ?_, fun hb => hf1 ?_, fun hb => hf2 (fun ⟨r', _, h⟩ => hb ⟨r', h⟩)⟩
      · rw [hM]
        constructor
        · rintro ⟨n, -, h⟩; exact ⟨n, h⟩
        · intro h
          obtain ⟨r', h1⟩ := Rch_least h
          refine ⟨r', ?_, h1.1⟩
          rcases Nat.lt_or_ge r r' with c | c
          · exact absurd (by rw [show r + (r' - r) = r' by omega]; exact h1) (hno2 (r' - r) v)
          · exact c
      · obtain ⟨r', v, w, h1, h2⟩ := hb
        refine ⟨r', ?_, v, w, h1, h2⟩
        rcases Nat.lt_or_ge r' r with c | c
        · exact c
        · exact absurd (by rw [show r + (r' - r) = r' by omega]; exact h1) (hno2 (r' - r) v)
    · rw [if_neg (nI_ne0 (by omega) (by omega))]
      obtain ⟨A, a1, a2⟩ := besideLayer_eq hF hW hj hY16
      rw [a1, bS]
      simp only [jn]
      rw [nx_and, nx_and, nI_dif, nI_or, nI_1]
      have hnew : ∀ v, (dif (A &&& W) M).testBit v = true ↔ Dst G W a (r + 1) v := by
        intro v
        rw [dif_bit, Nat.testBit_and, Bool.and_eq_true, Bool.and_eq_true, a2]
        constructor
        · rintro ⟨⟨⟨w, h1, h2⟩, h3⟩, h4⟩
          have h5 : ¬ ∃ n, n ≤ r ∧ Wk G W a n v := fun h => by rw [(hM v).mpr h] at h4; cases h4
          exact ⟨⟨w, ((hY w).mp h1).1, h2, h3⟩, fun n hn hw => h5 ⟨n, by omega, hw⟩⟩
        · intro h
          obtain ⟨w, h1, h2, h3⟩ := Dst_prev h
          refine ⟨⟨⟨w, (hY w).mpr h1, h2⟩, h3⟩, ?_⟩
          cases hb : M.testBit v with
          | false => rfl
          | true =>
            obtain ⟨n, n1, n2⟩ := (hM v).mp hb
            exact absurd n2 (h.2 n (by omega))
      have hM2 : ∀ v, (M ||| dif (A &&& W) M).testBit v = true ↔ ∃ n, n ≤ r + 1 ∧ Wk G W a n v := by
        intro v
        rw [Nat.testBit_or, Bool.or_eq_true, hnew, hM]
        constructor
        · rintro (⟨n, h1, h2⟩ | h)
          · exact ⟨n, by omega, h2⟩
          · exact ⟨r + 1, Nat.le_refl _, h.1⟩
        · rintro ⟨n, h1, h2⟩
          by_cases d : ∃ n, n ≤ r ∧ Wk G W a n v
          · exact Or.inl d
          · right
            have : n = r + 1 := by
              rcases Nat.lt_or_ge r n with x | x
              · omega
              · exact absurd ⟨n, x, h2⟩ d
            subst this
            exact ⟨h2, fun n hn hw => d ⟨n, by omega, hw⟩⟩
      have hpc2 : 0 < dif (A &&& W) M → r + 1 + 1 ≤ pcF 16 (M ||| dif (A &&& W) M) := by
        intro hp
        have h1 := hpc (by omega)
        have hd16 : dif (A &&& W) M < 65536 := Nat.lt_of_le_of_lt (dif_le _ _) (Nat.lt_of_le_of_lt Nat.and_le_right hW16)
        have hb := low_bit (k := 16) hp hd16
        have hl := low_lt (k := 16) hp hd16
        have := pcF_strict (k := 16) (s := M) (t := M ||| dif (A &&& W) M) (fun i _ h => by rw [Nat.testBit_or, h]; rfl) hl (by
          rw [dif_bit] at hb
          simp at hb
          exact hb.2) (by rw [Nat.testBit_or, hb]; simp)
        omega
      have hbad : (A &&& W) &&& Y = 0 ↔ ¬ BadAt G W a r := by
        rw [and_z]
        constructor
        · rintro h ⟨v, w, h1, h2, h3⟩
          refine h ⟨v, ?_, (hY v).mpr h1⟩
          rw [Nat.testBit_and, (a2 v).mpr ⟨w, (hY w).mpr h2, h3⟩, Rch_W ha ⟨r, h1.1⟩]
          rfl
        · rintro h ⟨v, h1, h2⟩
          rw [Nat.testBit_and, Bool.and_eq_true, a2] at h1
          obtain ⟨⟨w, h3, h4⟩, -⟩ := h1
          exact h ⟨v, w, (hY v).mp h2, (hY w).mp h3, h4⟩
      by_cases d : (A &&& W) &&& Y = 0
      · rw [d, if_pos (show nI 0 = (0 : Int32) from rfl)]
        refine ih m (r + 1) _ _ f (by omega) (by omega) hM2 hnew hpc2 (fun ⟨r', h1, h2⟩ => hf1 ?_) (fun h => hf2 (fun ⟨r', h1, h2⟩ => h ⟨r', by omega, h2⟩))
        by_cases e : r' = r
        · subst e; exact absurd h2 (hbad.mp d)
        · exact ⟨r', by omega, h2⟩
      · have hb : BadAt G W a r := Classical.byContradiction (fun h => d (hbad.mpr h))
        have hlt : (A &&& W) &&& Y ≤ Y := Nat.and_le_right
        rw [if_neg (nI_ne0 (by omega) (by omega))]
        exact ih m (r + 1) _ _ 0 (by omega) (by omega) hM2 hnew hpc2 (fun _ => rfl) (fun h => absurd ⟨r, by omega, hb⟩ h)
theorem grow_eq {F : Nat} (hF : 100000 ≤ F) {G : Gr} (hW : Wf G) {joined : Nat → Int32} (hj : ∀ v, v < 16 → joined v = nI (adj G v)) {W a : Nat} (hWa : ∀ v, W.testBit v = true → v < nd G) (ha : W.testBit a = true) (q : Int32) :
    ∃ M f, f_X5_grow F (nI W) (nI a) q (nI (nd G)) joined = some (nI M, f) ∧ CP G W a M ∧ (Bad G W a → f = 0) ∧ (¬ Bad G W a → f = q) := by
  have hn := hW.1
  have han := hWa a ha
  unfold f_X5_grow
  simp only [jn]
  rw [shl_nI (by omega), z32]
  have h0 : ∀ v, (2 ^ a).testBit v = true ↔ v = a := by
    intro v
    rw [Nat.testBit_two_pow, decide_eq_true_eq]
    exact ⟨fun h => h.symm, fun h => h.symm⟩
  refine grow_L hF hW hj hWa ha (kk := fun x y => some (x, y)) (nd G) F 0 (2 ^ a) (2 ^ a) q (by omega) (by omega) (fun v => ?_) (fun v => ?_) (fun _ => ?_) (fun ⟨r', h, _⟩ => by omega) (fun _ => rfl)
  · rw [h0]
    constructor
    · intro h; exact ⟨0, Nat.le_refl _, h⟩
    · rintro ⟨n, h1, h2⟩
      have : n = 0 := by omega
      subst this
      exact h2
  · rw [h0]
    constructor
    · intro h; exact ⟨h, fun n hn => by omega⟩
    · rintro ⟨h, -⟩; exact h
  · have := pcF_strict (k := 16) (s := 0) (t := 2 ^ a) (j := a) (fun i _ h => by rw [Nat.zero_testBit] at h; cases h) (by omega) (Nat.zero_testBit _) (Nat.testBit_two_pow_self)
    omega
/-- two colours inside what is reached -/
def Vld (G : Gr) (W a : Nat) (col : Nat → Bool) : Prop := ∀ v w, Rch G W a v → Rch G W a w → (adj G v).testBit w = true → col v ≠ col w
theorem Vld_par {G : Gr} {W a : Nat} {col : Nat → Bool} (h : Vld G W a col) : ∀ n v, Wk G W a n v → (col v = col a ↔ n % 2 = 0) := by
  intro n
  induction n with
  | zero => intro v hv; rw [show v = a from hv]; simp
  | succ n ih =>
    rintro v ⟨w, h1, h2, h3⟩
    have i1 := ih w h1
    have i2 := h w v ⟨n, h1⟩ ⟨n + 1, w, h1, h2, h3⟩ h2
    have : (col v = col a) ↔ ¬ (col w = col a) := by
      cases hv : col v <;> cases hw : col w <;> cases ha : col a <;> simp_all
    rw [this, i1]
    omega
theorem bad_iff {G : Gr} (hW : Wf G) {W a : Nat} (ha : W.testBit a = true) : Bad G W a ↔ ¬ ∃ col, Vld G W a col := by
  constructor
  · rintro ⟨r, v, w, h1, h2, h3⟩ ⟨col, h⟩
    have p1 := Vld_par h r v h1.1
    have p2 := Vld_par h r w h2.1
    have p3 := h w v ⟨r, h2.1⟩ ⟨r, h1.1⟩ h3
    apply p3
    cases hv : col v <;> cases hw : col w <;> cases hc : col a <;> simp_all
  · intro h
    refine Classical.byContradiction (fun hb => h ?_)
    have hch : ∀ v, ∃ c : Bool, ∀ r, Dst G W a r v → (c = true ↔ r % 2 = 0) := by
      intro v
      by_cases hv : ∃ r, Dst G W a r v
      · obtain ⟨r, hr⟩ := hv
        refine ⟨decide (r % 2 = 0), fun r' hr' => ?_⟩
        have : r' = r := by
          rcases Nat.lt_trichotomy r r' with x | x | x
          · exact absurd hr.1 (hr'.2 r x)
          · exact x.symm
          · exact absurd hr'.1 (hr.2 r' x)
        rw [this, decide_eq_true_eq]
      · exact ⟨true, fun r hr => absurd ⟨r, hr⟩ hv⟩
    refine ⟨fun v => (hch v).choose, fun v w hv hw hadj => ?_⟩
    obtain ⟨r, hr⟩ := Rch_least hv
    obtain ⟨r', hr'⟩ := Rch_least hw
    have c1 := (hch v).choose_spec r hr
    have c2 := (hch w).choose_spec r' hr'
    have hne : r ≠ r' := fun e => by
      subst e
      exact hb ⟨r, w, v, hr', hr, hadj⟩
    have l1 : r' ≤ r + 1 := by
      rcases Nat.lt_or_ge (r + 1) r' with x | x
      · exact absurd ⟨v, hr.1, hadj, Rch_W ha hw⟩ (hr'.2 (r + 1) x)
      · exact x
    have l2 : r ≤ r' + 1 := by
      rcases Nat.lt_or_ge (r' + 1) r with x | x
      · exact absurd ⟨w, hr'.1, by rw [adj_sym hW]; exact hadj, Rch_W ha hv⟩ (hr.2 (r' + 1) x)
      · exact x
    show (hch v).choose ≠ (hch w).choose
    intro e
    rw [e, c2] at c1
    omega
