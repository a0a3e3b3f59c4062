/-! ===== the reference grows by arcs ===== -/
theorem or_ge {s t : Nat} (h : ∀ v, s.testBit v = true → t.testBit v = true) : s ≤ t := by
  have : t = t ||| s := Nat.eq_of_testBit_eq fun j => by
    rw [Nat.testBit_or]
    cases c : s.testBit j with
    | false => simp
    | true => rw [h j c]; rfl
  rw [this]
  exact Nat.right_le_or
theorem grown17_L {G : Gr} (hW : Wf G) {nodes made : Int32} {fm tm wm am : Nat → Int32} (hC : MG G nodes made fm tm wm am) {W a : Nat} (hWa : ∀ v, W.testBit v = true → v < nd G) (ha : W.testBit a = true) {kk : Int32 → Option Int32} :
    ∀ (k m i s : Nat), i + k = md G → k < m → (∀ v, s.testBit v = true → Rch G W a v) → ∃ s', f_X12_grown_L17 made fm tm am (nI W) kk m (nI s) (nI i) = kk (nI s') ∧ (∀ v, s.testBit v = true → s'.testBit v = true) ∧ (∀ v, s'.testBit v = true → Rch G W a v) ∧
      (s' = s → ∀ j, i ≤ j → j < md G → al G j = true → W.testBit (fr G j) = true → W.testBit (tt G j) = true → (s.testBit (fr G j) = true ∨ s.testBit (tt G j) = true) → s.testBit (fr G j) = true ∧ s.testBit (tt G j) = true) := by
  have hn := hW.1
  have hm60 := hW.2.1
  have hW16 : W < 65536 := lt_of_bits (n := 16) (fun v hv => by have := hWa v hv; omega)
  obtain ⟨-, rfl, harc⟩ := hC
  intro k
  induction k with
  | zero =>
    intro m i s e1 hm hs
    obtain ⟨m, rfl⟩ : ∃ k, m = k + 1 := ⟨m - 1, by omega⟩
    refine ⟨s, ?_, fun v h => h, hs, fun _ j h1 h2 => by omega⟩
    unfold f_X12_grown_L17
    rw [if_pos (by rw [nI_leI (by omega) (by omega)]; omega)]
  | succ k ih =>
    intro m i s e1 hm hs
    obtain ⟨m, rfl⟩ : ∃ k, m = k + 1 := ⟨m - 1, by omega⟩
    obtain ⟨f1, f2, f3, f4⟩ := harc i (by omega)
    obtain ⟨w1, w2, w3, -⟩ := hW.2.2 i (by omega)
    have hs16 : s < 65536 := lt_of_bits (n := 16) (fun v hv => by have := hWa v (Rch_W ha (hs v hv)); omega)
    -- the arc changes nothing
    have skip : (al G i = true → W.testBit (fr G i) = true → W.testBit (tt G i) = true → (s.testBit (fr G i) = true ∨ s.testBit (tt G i) = true) → False) → ∃ s', f_X12_grown_L17 (nI (md G)) fm tm am (nI W) kk m (nI s) (nI (i + 1)) = kk (nI s') ∧ (∀ v, s.testBit v = true → s'.testBit v = true) ∧ (∀ v, s'.testBit v = true → Rch G W a v) ∧
        (s' = s → ∀ j, i ≤ j → j < md G → al G j = true → W.testBit (fr G j) = true → W.testBit (tt G j) = true → (s.testBit (fr G j) = true ∨ s.testBit (tt G j) = true) → s.testBit (fr G j) = true ∧ s.testBit (tt G j) = true) := by
      intro hno
      obtain ⟨s', h1, h2, h3, h4⟩ := ih m (i + 1) s (by omega) (by omega) hs
      refine ⟨s', h1, h2, h3, fun he j j1 j2 j3 j4 j5 j6 => ?_⟩
      by_cases c : j = i
      · subst c; exact absurd j6 (fun h => hno j3 j4 j5 h)
      · exact h4 he j (by omega) j2 j3 j4 j5 j6
    have add : al G i = true → W.testBit (fr G i) = true → W.testBit (tt G i) = true → (s.testBit (fr G i) = true ∨ s.testBit (tt G i) = true) → ∃ s', f_X12_grown_L17 (nI (md G)) fm tm am (nI W) kk m (nI (s ||| (2 ^ fr G i ||| 2 ^ tt G i))) (nI (i + 1)) = kk (nI s') ∧ (∀ v, s.testBit v = true → s'.testBit v = true) ∧ (∀ v, s'.testBit v = true → Rch G W a v) ∧
        (s' = s → ∀ j, i ≤ j → j < md G → al G j = true → W.testBit (fr G j) = true → W.testBit (tt G j) = true → (s.testBit (fr G j) = true ∨ s.testBit (tt G j) = true) → s.testBit (fr G j) = true ∧ s.testBit (tt G j) = true) := by
      intro c1 c2 c3 c4
      have hadj : (adj G (fr G i)).testBit (tt G i) = true := (adj_bit hW _ _).mpr ⟨i, by omega, c1, Or.inl ⟨rfl, rfl⟩⟩
      have hadj2 : (adj G (tt G i)).testBit (fr G i) = true := by rw [adj_sym hW]; exact hadj
      have hboth : Rch G W a (fr G i) ∧ Rch G W a (tt G i) := by
        rcases c4 with c4 | c4
        · exact ⟨hs _ c4, Rch_step (hs _ c4) hadj c3⟩
        · exact ⟨Rch_step (hs _ c4) hadj2 c2, hs _ c4⟩
      have hbit : ∀ v, (s ||| (2 ^ fr G i ||| 2 ^ tt G i)).testBit v = true ↔ s.testBit v = true ∨ fr G i = v ∨ tt G i = v := by
        intro v
        rw [Nat.testBit_or, Nat.testBit_or, Nat.testBit_two_pow, Nat.testBit_two_pow, Bool.or_eq_true, Bool.or_eq_true, decide_eq_true_eq, decide_eq_true_eq]
      obtain ⟨s', h1, h2, h3, h4⟩ := ih m (i + 1) (s ||| (2 ^ fr G i ||| 2 ^ tt G i)) (by omega) (by omega) (fun v hv => by
        rcases (hbit v).mp hv with h | h | h
        · exact hs v h
        · rw [← h]; exact hboth.1
        · rw [← h]; exact hboth.2)
      have hsub : ∀ v, s.testBit v = true → (s ||| (2 ^ fr G i ||| 2 ^ tt G i)).testBit v = true := fun v h => (hbit v).mpr (Or.inl h)
      refine ⟨s', h1, fun v h => h2 v (hsub v h), h3, fun he j j1 j2 j3 j4 j5 j6 => ?_⟩
      have e1 : s ||| (2 ^ fr G i ||| 2 ^ tt G i) = s := by
        have l1 := or_ge hsub
        have l2 := or_ge h2
        omega
      rw [e1] at h4
      by_cases c : j = i
      · subst c
        rw [e1] at hbit
        exact ⟨(hbit _).mpr (Or.inr (Or.inl rfl)), (hbit _).mpr (Or.inr (Or.inr rfl))⟩
      · exact h4 he j (by omega) j2 j3 j4 j5 j6
    unfold f_X12_grown_L17
    rw [if_neg (fun h => by rw [nI_leI (by omega) (by omega)] at h; omega)]
    simp only [rd_nI (show i < 60 by omega) (show (60 : Nat) < 2 ^ 31 by decide), jn, ltt, f1, f2, f4, nI_1, bitv_nI (show W < 2 ^ 31 by omega) (show fr G i < 31 by omega), bitv_nI (show W < 2 ^ 31 by omega) (show tt G i < 31 by omega), bitv_nI (show s < 2 ^ 31 by omega) (show fr G i < 31 by omega), bitv_nI (show s < 2 ^ 31 by omega) (show tt G i < 31 by omega)]
    rw [shl_nI (by omega), shl_nI (by omega), nI_or, nI_or]
    by_cases c1 : al G i = true
    · rw [if_pos c1, if_neg (by decide)]
      by_cases c2 : W.testBit (fr G i) = true
      · rw [if_pos c2, if_pos rfl]
        by_cases c3 : W.testBit (tt G i) = true
        · rw [if_pos c3, if_pos rfl, if_neg (by decide)]
          by_cases c4 : s.testBit (fr G i) = true
          · rw [if_pos c4, if_pos rfl]
            exact add c1 c2 c3 (Or.inl c4)
          · rw [if_neg c4, if_neg (by decide)]
            by_cases c5 : s.testBit (tt G i) = true
            · rw [if_pos c5, if_pos rfl]
              exact add c1 c2 c3 (Or.inr c5)
            · rw [if_neg c5, if_neg (by decide)]
              exact skip (fun _ _ _ h => h.elim c4 c5)
        · rw [if_neg c3, if_neg (by decide), if_pos trivial]
          exact skip (fun _ _ h _ => c3 h)
      · rw [if_neg c2, if_neg (by decide), if_pos trivial]
        exact skip (fun _ h _ _ => c2 h)
    · rw [if_neg c1, if_pos rfl, if_pos trivial]
      exact skip (fun h _ _ _ => c1 h)
theorem closed_CP {G : Gr} (hW : Wf G) {W a s : Nat} (ha : W.testBit a = true) (hsa : s.testBit a = true) (hs : ∀ v, s.testBit v = true → Rch G W a v) (h : ∀ j, j < md G → al G j = true → W.testBit (fr G j) = true → W.testBit (tt G j) = true → (s.testBit (fr G j) = true ∨ s.testBit (tt G j) = true) → s.testBit (fr G j) = true ∧ s.testBit (tt G j) = true) : CP G W a s := by
  intro v
  refine ⟨hs v, ?_⟩
  rintro ⟨n, hn⟩
  have : ∀ n v, Wk G W a n v → s.testBit v = true := by
    intro n
    induction n with
    | zero => intro v hv; rw [show v = a from hv]; exact hsa
    | succ n ih =>
      rintro v ⟨w, h1, h2, h3⟩
      have hsw := ih w h1
      have hww := Rch_W ha ⟨n, h1⟩
      obtain ⟨j, j1, j2, j3⟩ := (adj_bit hW w v).mp h2
      rcases j3 with ⟨x, y⟩ | ⟨x, y⟩
      · rw [← y]
        exact (h j j1 j2 (by rw [x]; exact hww) (by rw [y]; exact h3) (Or.inl (by rw [x]; exact hsw))).2
      · rw [← x]
        exact (h j j1 j2 (by rw [x]; exact h3) (by rw [y]; exact hww) (Or.inr (by rw [y]; exact hsw))).1
  exact this n v hn
theorem grown5_L {F : Nat} (hF : 100000 ≤ F) {G : Gr} (hW : Wf G) {nodes made : Int32} {fm tm wm am : Nat → Int32} (hC : MG G nodes made fm tm wm am) {W a : Nat} (hWa : ∀ v, W.testBit v = true → v < nd G) (ha : W.testBit a = true) {kk : Int32 → Option Int32} :
    ∀ (k m s o : Nat), s + k = 65536 → k + 1 < m → o < 65536 → o ≠ s → s.testBit a = true → (∀ v, s.testBit v = true → Rch G W a v) → ∃ M, f_X12_grown_L5 F made fm tm am (nI W) kk m (nI s) (nI o) = kk (nI M) ∧ CP G W a M := by
  have hn := hW.1
  have hm60 := hW.2.1
  intro k
  induction k using Nat.strongRecOn with
  | ind k ih =>
    intro m s o e1 hm ho hne hsa hs
    obtain ⟨m, rfl⟩ : ∃ k, m = k + 1 := ⟨m - 1, by omega⟩
    have hs16 : s < 65536 := lt_of_bits (n := 16) (fun v hv => by have := hWa v (Rch_W ha (hs v hv)); omega)
    unfold f_X12_grown_L5
    rw [if_neg (fun h => hne ((nI_eq (by omega) (by omega)).mp h))]
    simp only [jn]
    rw [z32]
    obtain ⟨s', h1, h2, h3, h4⟩ := grown17_L hW hC hWa ha (kk := fun v3_7 => f_X12_grown_L5 F made fm tm am (nI W) kk m v3_7 (nI s)) (md G) F 0 s (by omega) (by omega) hs
    rw [h1]
    have hle := or_ge h2
    by_cases c : s' = s
    · subst c
      obtain ⟨m, rfl⟩ : ∃ k, m = k + 1 := ⟨m - 1, by omega⟩
      refine ⟨s', ?_, closed_CP hW ha hsa hs (fun j hj => h4 rfl j (by omega) hj)⟩
      unfold f_X12_grown_L5
      rw [if_pos rfl]
    · have hs'16 : s' < 65536 := lt_of_bits (n := 16) (fun v hv => by have := hWa v (Rch_W ha (h3 v hv)); omega)
      exact ih (65536 - s') (by omega) m s' s (by omega) (by omega) hs16 (fun h => c h.symm) (h2 a hsa) h3
theorem grown_eq {F : Nat} (hF : 100000 ≤ F) {G : Gr} (hW : Wf G) {nodes made : Int32} {fm tm wm am : Nat → Int32} (hC : MG G nodes made fm tm wm am) {W a : Nat} (hWa : ∀ v, W.testBit v = true → v < nd G) (ha : W.testBit a = true) : ∃ M, f_X12_grown F ((1 : Int32) <<< (nI a &&& 31)) (nI W) made fm tm am = some (nI M) ∧ CP G W a M := by
  have hn := hW.1
  have han := hWa a ha
  have hp : 2 ^ a < 65536 := Nat.pow_lt_pow_right (n := 16) (by decide) (by omega)
  have hp0 : 0 < 2 ^ a := Nat.two_pow_pos _
  unfold f_X12_grown
  simp only [jn]
  rw [shl_nI (by omega), z32]
  refine grown5_L hF hW hC hWa ha (kk := fun x => some x) (65536 - 2 ^ a) F (2 ^ a) 0 (by omega) (by omega) (by decide) (by omega) Nat.testBit_two_pow_self (fun v hv => ?_)
  rw [Nat.testBit_two_pow, decide_eq_true_eq] at hv
  exact ⟨0, hv.symm⟩
