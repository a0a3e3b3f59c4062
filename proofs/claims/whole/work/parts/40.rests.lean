/-! ===== the table of rests ===== -/
theorem rd_nI {α β : Type} {n j : Nat} {f : Nat → α} {k : α → Option β} (h : j < n) (hn : n < 2 ^ 31) : rd n f (nI j) k = k (f j) := by
  unfold rd
  rw [if_neg (nI_in h hn), nI_clamp (by omega)]
theorem wr_nI {α β : Type} {n j : Nat} {f : Nat → α} {x : α} {k : (Nat → α) → Option β} (h : j < n) (hn : n < 2 ^ 31) : wr n f (nI j) x k = k (va_up f j x) := by
  unfold wr
  rw [if_neg (nI_in h hn), nI_clamp (by omega)]
theorem up_s {α : Type} (f : Nat → α) (k : Nat) (x : α) : va_up f k x k = x := by unfold va_up; rw [if_pos rfl]
theorem up_n {α : Type} {f : Nat → α} {k j : Nat} {x : α} (h : j ≠ k) : va_up f k x j = f j := by unfold va_up; rw [if_neg h]
theorem bS {α β : Type} (a : α) (f : α → Option β) : (some a).bind f = f a := rfl
theorem b2S {α β γ : Type} (a : α) (b : β) (f : α → β → Option γ) : bd2 (some (a, b)) f = f a b := rfl
theorem b3S {α β γ δ : Type} (a : α) (b : β) (c : γ) (f : α → β → γ → Option δ) : bd3 (some (a, b, c)) f = f a b c := rfl
theorem b4S {α β γ δ ε : Type} (a : α) (b : β) (c : γ) (d : δ) (f : α → β → γ → δ → Option ε) : bd4 (some (a, b, c, d)) f = f a b c d := rfl
theorem z32 : (0 : Int32) = nI 0 := rfl
def hq (s : Int32) : Nat := (s * (-1640531535)).toBitVec.toNat / 2 ^ 20
theorem hq_lt (s : Int32) : hq s < 4096 := by
  unfold hq
  have := (s * (-1640531535)).toBitVec.isLt
  omega
theorem hs_eq (s : Int32) : ((s * (-1640531535)).toUInt32 >>> ((20 : Int32).toUInt32 &&& Int32.toUInt32 31)).toInt32 = nI (hq s) := by
  have h := pk_ushr (s * (-1640531535)) 20 20 (by decide)
  apply Int32.toBitVec_inj.1
  apply BitVec.eq_of_toNat_eq
  rw [h]
  have := hq_lt s
  rw [pk_tn (by omega)]
  rfl
theorem slot_next {v : Nat} (hv : v < 4096) : (nI v + 1) &&& 4095 = nI ((v + 1) % 4096) := by
  rw [nI_1, pk_andN (by omega) 12 (by decide)]
def Tk (a b : Nat → Nat) (n j : Nat) : Prop := a j < n ∧ b (a j) = j
/-- n sets e 0, e 1, .. stand in the table: a is the slots, b the slots of the places -/
def RI (sl so se : Nat → Int32) (n : Nat) (e a b : Nat → Nat) : Prop :=
  n ≤ 2584 ∧ (∀ i, i < 4096 → a i < 2584 ∧ sl i = nI (a i)) ∧ (∀ i, i < 2584 → b i < 4096 ∧ so i = nI (b i)) ∧
  (∀ p, p < n → se p = nI (e p) ∧ e p < 65536 ∧ a (b p) = p ∧ ∃ t, t < 4096 ∧ b p = (hq (nI (e p)) + t) % 4096 ∧ ∀ t', t' < t → Tk a b n ((hq (nI (e p)) + t') % 4096)) ∧
  ∀ p q, p < n → q < n → e p = e q → p = q
theorem placeOf_in_L {sl so se : Nat → Int32} {n : Nat} {e a b : Nat → Nat} (hR : RI sl so se n e a b) {p T : Nat} (hp : p < n) (hT : T < 4096) (hb : b p = (hq (nI (e p)) + T) % 4096) (ht : ∀ t', t' < T → Tk a b n ((hq (nI (e p)) + t') % 4096)) {kk : Option Int32} :
    ∀ (d m t : Nat), t + d = T → d < m → f_X7_placeOf_L10 sl so se (nI n) (nI (e p)) kk m (nI ((hq (nI (e p)) + t) % 4096)) (nI t) = some (nI p) := by
  obtain ⟨hn, h1, h2, h3, h4⟩ := hR
  obtain ⟨q1, q2, q3, -⟩ := h3 p hp
  intro d
  induction d with
  | zero =>
    intro m t e1 hm
    obtain ⟨m, rfl⟩ : ∃ k, m = k + 1 := ⟨m - 1, by omega⟩
    have et : t = T := by omega
    subst et
    unfold f_X7_placeOf_L10
    rw [if_neg (show ¬ (4096 : Int32) ≤ nI t from fun h => by rw [show (4096 : Int32) = nI 4096 from rfl, nI_leI (by decide) (by omega)] at h; omega), ← hb]
    have hbp := (h2 p (by omega)).1
    rw [rd_nI hbp (by decide), (h1 _ hbp).2, q3, if_neg (fun h => by rw [nI_leI (by omega) (by omega)] at h; omega), rd_nI (by omega) (by decide), (h2 p (by omega)).2, if_pos rfl, rd_nI (by omega) (by decide), q1, if_pos rfl]
  | succ d ih =>
    intro m t e1 hm
    obtain ⟨m, rfl⟩ : ∃ k, m = k + 1 := ⟨m - 1, by omega⟩
    unfold f_X7_placeOf_L10
    rw [if_neg (show ¬ (4096 : Int32) ≤ nI t from fun h => by rw [show (4096 : Int32) = nI 4096 from rfl, nI_leI (by decide) (by omega)] at h; omega)]
    obtain ⟨k1, k2⟩ := ht t (by omega)
    have hv : (hq (nI (e p)) + t) % 4096 < 4096 := by omega
    generalize hvv : (hq (nI (e p)) + t) % 4096 = v at k1 k2 hv ⊢
    obtain ⟨c1, c2, c3, -⟩ := h3 (a v) k1
    rw [rd_nI hv (by decide), (h1 v hv).2, if_neg (fun h => by rw [nI_leI (by omega) (by omega)] at h; omega), rd_nI (by omega) (by decide), (h2 (a v) (by omega)).2, k2, if_pos rfl, rd_nI (by omega) (by decide), c1]
    have hne : ¬ nI (e (a v)) = nI (e p) := by
      intro h
      have e3 : e (a v) = e p := (nI_eq (by omega) (by omega)).mp h
      have e4 := h4 (a v) p k1 hp e3
      rw [e4] at k2
      omega
    rw [if_neg hne, slot_next hv, nI_1]
    have e5 : (v + 1) % 4096 = (hq (nI (e p)) + (t + 1)) % 4096 := by omega
    rw [e5]
    exact ih m (t + 1) (by omega) (by omega)
theorem placeOf_in {F : Nat} (hF : 100000 ≤ F) {sl so se : Nat → Int32} {n : Nat} {e a b : Nat → Nat} (hR : RI sl so se n e a b) {p : Nat} (hp : p < n) : f_X7_placeOf F (nI (e p)) sl so se (nI n) = some (nI p) := by
  obtain ⟨t, ht, hb, htk⟩ := (hR.2.2.2.1 p hp).2.2.2
  have h := placeOf_in_L hR hp ht hb htk (kk := some (-1)) t F 0 (by omega) (by omega)
  unfold f_X7_placeOf
  simp only [ltt, jn]
  have hq1 := hq_lt (nI (e p))
  rw [Nat.add_zero, Nat.mod_eq_of_lt hq1] at h
  rw [hs_eq, z32, h]
theorem placeOf_out_L {sl so se : Nat → Int32} {n : Nat} {e a b : Nat → Nat} (hR : RI sl so se n e a b) {s : Nat} (hs : s < 65536) (ho : ∀ p, p < n → e p ≠ s) :
    ∀ (d m t v : Nat), t + d = 4096 → d < m → v < 4096 → f_X7_placeOf_L10 sl so se (nI n) (nI s) (some (-1)) m (nI v) (nI t) = some (-1) := by
  obtain ⟨hn, h1, h2, h3, h4⟩ := hR
  intro d
  induction d with
  | zero =>
    intro m t v e1 hm hv
    obtain ⟨m, rfl⟩ : ∃ k, m = k + 1 := ⟨m - 1, by omega⟩
    unfold f_X7_placeOf_L10
    rw [if_pos (show (4096 : Int32) ≤ nI t by rw [show (4096 : Int32) = nI 4096 from rfl, nI_leI (by decide) (by omega)]; omega)]
  | succ d ih =>
    intro m t v e1 hm hv
    obtain ⟨m, rfl⟩ : ∃ k, m = k + 1 := ⟨m - 1, by omega⟩
    unfold f_X7_placeOf_L10
    rw [if_neg (show ¬ (4096 : Int32) ≤ nI t from fun h => by rw [show (4096 : Int32) = nI 4096 from rfl, nI_leI (by decide) (by omega)] at h; omega)]
    obtain ⟨k1, k2⟩ := h1 v hv
    rw [rd_nI hv (by decide), k2]
    by_cases c : n ≤ a v
    · rw [if_pos (by rw [nI_leI (by omega) (by omega)]; exact c)]
    · obtain ⟨c1, c2⟩ := h2 (a v) k1
      rw [if_neg (fun h => by rw [nI_leI (by omega) (by omega)] at h; omega), rd_nI (by omega) (by decide), c2]
      by_cases d1 : b (a v) = v
      · obtain ⟨g1, g2, -⟩ := h3 (a v) (by omega)
        rw [d1, if_pos rfl, rd_nI (by omega) (by decide), g1, if_neg (fun h => ho (a v) (by omega) ((nI_eq (by omega) (by omega)).mp h)), slot_next hv, nI_1]
        exact ih m (t + 1) _ (by omega) (by omega) (by omega)
      · rw [if_neg (fun h => d1 ((nI_eq (by omega) (by omega)).mp h))]
theorem placeOf_out {F : Nat} (hF : 100000 ≤ F) {sl so se : Nat → Int32} {n : Nat} {e a b : Nat → Nat} (hR : RI sl so se n e a b) {s : Nat} (hs : s < 65536) (ho : ∀ p, p < n → e p ≠ s) : f_X7_placeOf F (nI s) sl so se (nI n) = some (-1) := by
  unfold f_X7_placeOf
  simp only [ltt, jn]
  rw [hs_eq, z32, placeOf_out_L hR hs ho 4096 F 0 _ (by omega) (by omega) (hq_lt _)]
theorem isTaken_eq {sl so se : Nat → Int32} {n : Nat} {e a b : Nat → Nat} (hR : RI sl so se n e a b) {v : Nat} (hv : v < 4096) : (Tk a b n v ∧ f_X7_isTaken (nI v) sl so (nI n) = some 1) ∨ (¬ Tk a b n v ∧ f_X7_isTaken (nI v) sl so (nI n) = some 0) := by
  obtain ⟨hn, h1, h2, h3, h4⟩ := hR
  unfold f_X7_isTaken
  obtain ⟨k1, k2⟩ := h1 v hv
  obtain ⟨c1, c2⟩ := h2 (a v) k1
  rw [rd_nI hv (by decide), k2]
  by_cases c : n ≤ a v
  · exact Or.inr ⟨fun h => by have := h.1; omega, by rw [if_pos (by rw [nI_leI (by omega) (by omega)]; exact c)]⟩
  · rw [if_neg (fun h => by rw [nI_leI (by omega) (by omega)] at h; omega), rd_nI (by omega) (by decide), c2]
    by_cases d1 : b (a v) = v
    · exact Or.inl ⟨⟨by omega, d1⟩, by rw [d1, if_pos rfl]⟩
    · exact Or.inr ⟨fun h => d1 h.2, by rw [if_neg (fun h => d1 ((nI_eq (by omega) (by omega)).mp h))]⟩
theorem pigeon : ∀ (m n : Nat) (f : Nat → Nat), (∀ i, i < n → f i < m) → (∀ i j, i < n → j < n → f i = f j → i = j) → n ≤ m := by
  intro m
  induction m with
  | zero =>
    intro n f h1 h2
    rcases Nat.eq_zero_or_pos n with h | h
    · omega
    · exact absurd (h1 0 h) (by omega)
  | succ m ih =>
    intro n f h1 h2
    rcases Nat.eq_zero_or_pos n with h | h
    · omega
    · have := ih (n - 1) (fun j => if f j = m then f (n - 1) else f j) (fun i hi => by
        show (if f i = m then f (n - 1) else f i) < m
        by_cases c : f i = m
        · rw [if_pos c]
          have a1 := h1 (n - 1) (by omega)
          have a2 : f (n - 1) ≠ m := fun x => by have := h2 i (n - 1) (by omega) (by omega) (by omega); omega
          omega
        · rw [if_neg c]
          have a1 := h1 i (by omega)
          omega) (fun i j hi hj hij => by
        replace hij : (if f i = m then f (n - 1) else f i) = (if f j = m then f (n - 1) else f j) := hij
        by_cases c : f i = m
        · by_cases d : f j = m
          · exact h2 i j (by omega) (by omega) (by omega)
          · rw [if_pos c, if_neg d] at hij
            have := h2 (n - 1) j (by omega) (by omega) hij
            omega
        · by_cases d : f j = m
          · rw [if_neg c, if_pos d] at hij
            have := h2 i (n - 1) (by omega) (by omega) hij
            omega
          · rw [if_neg c, if_neg d] at hij
            exact h2 i j (by omega) (by omega) hij)
      omega
/-- some slot is free, and there is a first one behind any -/
theorem free_slot {sl so se : Nat → Int32} {n : Nat} {e a b : Nat → Nat} (hR : RI sl so se n e a b) (h : Nat) : ∃ t, t < 4096 ∧ ¬ Tk a b n ((h + t) % 4096) ∧ ∀ t', t' < t → Tk a b n ((h + t') % 4096) := by
  have hex : ∃ t, ¬ Tk a b n ((h + t) % 4096) := by
    apply Classical.byContradiction
    intro hno
    have hall : ∀ v, v < 4096 → Tk a b n v := by
      intro v hv
      apply Classical.byContradiction
      intro hv2
      apply hno
      refine ⟨v + 4096 - h % 4096, ?_⟩
      have : (h + (v + 4096 - h % 4096)) % 4096 = v := by omega
      rw [this]; exact hv2
    have := pigeon n 4096 a (fun i hi => (hall i hi).1) (fun i j hi hj hij => by
      have x1 := (hall i hi).2
      have x2 := (hall j hj).2
      rw [hij] at x1
      omega)
    have := hR.1
    omega
  obtain ⟨t, h1, h2⟩ := pk_least (fun t => ¬ Tk a b n ((h + t) % 4096)) hex
  refine ⟨t, ?_, h1, fun t' ht' => Classical.byContradiction (fun x => h2 t' ht' x)⟩
  rcases Nat.lt_or_ge t 4096 with c | c
  · exact c
  · have := h2 (t - 4096) (by omega)
    have e1 : (h + (t - 4096)) % 4096 = (h + t) % 4096 := by omega
    rw [e1] at this
    exact absurd h1 this
theorem append_L {sl so se : Nat → Int32} {n : Nat} {e a b : Nat → Nat} (hR : RI sl so se n e a b) {h T : Nat} (hT : T < 4096) (hf : ¬ Tk a b n ((h + T) % 4096)) (ht : ∀ t', t' < T → Tk a b n ((h + t') % 4096)) {kk : Int32 → Option (Int32 × (Nat → Int32) × (Nat → Int32) × (Nat → Int32))} :
    ∀ (d m t : Nat), t + d = T → d < m → f_X7_append_L21 sl so (nI n) kk m (nI ((h + t) % 4096)) (nI t) = kk (nI ((h + T) % 4096)) := by
  intro d
  induction d with
  | zero =>
    intro m t e1 hm
    obtain ⟨m, rfl⟩ : ∃ k, m = k + 1 := ⟨m - 1, by omega⟩
    have et : t = T := by omega
    subst et
    unfold f_X7_append_L21
    rw [if_neg (show ¬ (4096 : Int32) ≤ nI t from fun h => by rw [show (4096 : Int32) = nI 4096 from rfl, nI_leI (by decide) (by omega)] at h; omega)]
    rcases isTaken_eq hR (v := (h + t) % 4096) (by omega) with ⟨x, -⟩ | ⟨-, x⟩
    · exact absurd x hf
    · rw [x, bS, if_pos rfl]
  | succ d ih =>
    intro m t e1 hm
    obtain ⟨m, rfl⟩ : ∃ k, m = k + 1 := ⟨m - 1, by omega⟩
    unfold f_X7_append_L21
    rw [if_neg (show ¬ (4096 : Int32) ≤ nI t from fun h => by rw [show (4096 : Int32) = nI 4096 from rfl, nI_leI (by decide) (by omega)] at h; omega)]
    have hv : (h + t) % 4096 < 4096 := by omega
    rcases isTaken_eq hR hv with ⟨-, x⟩ | ⟨x, -⟩
    · rw [x, bS, if_neg (by decide), slot_next hv, nI_1]
      have e5 : ((h + t) % 4096 + 1) % 4096 = (h + (t + 1)) % 4096 := by omega
      rw [e5]
      exact ih m (t + 1) (by omega) (by omega)
    · exact absurd (ht t (by omega)) x
theorem append_eq {F : Nat} (hF : 100000 ≤ F) {sl so se : Nat → Int32} {n : Nat} {e a b : Nat → Nat} (hR : RI sl so se n e a b) (hn : n < 2584) {s : Nat} (hs : s < 65536) (ho : ∀ p, p < n → e p ≠ s) :
    ∃ (sl' so' se' : Nat → Int32) (a' b' : Nat → Nat), f_X7_append F (nI s) sl so se (nI n) = some (nI (n + 1), sl', so', se') ∧ RI sl' so' se' (n + 1) (va_up e n s) a' b' := by
  obtain ⟨T, hT, hf, ht⟩ := free_slot hR (hq (nI s))
  have hL := append_L hR hT hf ht (kk := fun v2 => wr 4096 sl v2 (nI n) (fun x1 => wr 2584 so (nI n) v2 (fun x2 => wr 2584 se (nI n) (nI s) (fun x3 => some ((nI n + 1), x1, x2, x3))))) T F 0 (by omega) (by omega)
  rw [Nat.add_zero, Nat.mod_eq_of_lt (hq_lt _)] at hL
  have hv : (hq (nI s) + T) % 4096 < 4096 := by omega
  refine ⟨va_up sl ((hq (nI s) + T) % 4096) (nI n), va_up so n (nI ((hq (nI s) + T) % 4096)), va_up se n (nI s), va_up a ((hq (nI s) + T) % 4096) n, va_up b n ((hq (nI s) + T) % 4096), ?_, ?_⟩
  · unfold f_X7_append
    simp only [ltt, jn]
    rw [if_neg (fun h => by rw [show (2584 : Int32) = nI 2584 from rfl, nI_eq (by omega) (by omega)] at h; omega), hs_eq, z32, hL, wr_nI hv (by decide), wr_nI (by omega) (by decide), wr_nI (by omega) (by decide), nI_1]
  · generalize hvv : (hq (nI s) + T) % 4096 = v at hf hv ⊢
    obtain ⟨g0, g1, g2, g3, g4⟩ := hR
    have hTk : ∀ j, Tk a b n j → Tk (va_up a v n) (va_up b n v) (n + 1) j := by
      intro j hj
      have hjv : j ≠ v := fun x => hf (x ▸ hj)
      have x1 := hj.1
      refine ⟨by rw [up_n hjv]; omega, by rw [up_n hjv, up_n (by omega)]; exact hj.2⟩
    refine ⟨by omega, fun i hi => ?_, fun i hi => ?_, fun p hp => ?_, fun p q hp hq2 hpq => ?_⟩
    · by_cases c : i = v
      · subst c; rw [up_s, up_s]; exact ⟨hn, rfl⟩
      · rw [up_n c, up_n c]; exact g1 i hi
    · by_cases c : i = n
      · subst c; rw [up_s, up_s]; exact ⟨hv, rfl⟩
      · rw [up_n c, up_n c]; exact g2 i hi
    · by_cases c : p = n
      · subst c
        rw [up_s, up_s, up_s]
        refine ⟨rfl, hs, up_s _ _ _, T, hT, hvv.symm, fun t' ht' => hTk _ (ht t' ht')⟩
      · obtain ⟨k1, k2, k3, t, k4, k5, k6⟩ := g3 p (by omega)
        rw [up_n c, up_n c, up_n c]
        have hbv : b p ≠ v := by
          intro x
          apply hf
          rw [← x]
          exact ⟨by rw [k3]; omega, by rw [k3]⟩
        exact ⟨k1, k2, by rw [up_n hbv]; exact k3, t, k4, k5, fun t' ht' => hTk _ (k6 t' ht')⟩
    · by_cases c : p = n
      · by_cases d : q = n
        · omega
        · rw [c, up_s, up_n d] at hpq
          exact absurd hpq.symm (ho q (by omega))
      · by_cases d : q = n
        · rw [d, up_s, up_n c] at hpq
          exact absurd hpq (ho p (by omega))
        · rw [up_n c, up_n d] at hpq
          exact g4 p q (by omega) (by omega) hpq
