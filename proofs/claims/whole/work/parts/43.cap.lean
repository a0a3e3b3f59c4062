/-! ===== no table holds more than 2584 sets ===== -/
def absn : List Nat → Nat → Nat
  | [], _ => 0
  | e :: es, s => (if s.testBit e then 0 else 1) + absn es s
def Pq : List Nat → Nat → Nat → Prop
  | [], _, _ => True
  | e :: es, a, s => if s.testBit e = true then absn es s ≤ a else Pq es (a + 1) s
def cR : Nat → Nat → Nat
  | 0, _ => 1
  | k + 1, 0 => cR k 0
  | k + 1, r + 1 => cR k (r + 1) + cR k r
def cN : Nat → Nat → Nat
  | 0, _ => 1
  | k + 1, a => cR k a + cN k (a + 1)
theorem cN_ok : ∀ k, k < 17 → cN k 0 ≤ 2584 := by decide +kernel
theorem part_len {α : Type} (f : α → Bool) : ∀ (l : List α), l.length = (l.filter f).length + (l.filter (fun x => !f x)).length := by
  intro l
  induction l with
  | nil => rfl
  | cons a l ih =>
    by_cases c : f a = true
    · rw [List.filter_cons_of_pos c, List.filter_cons_of_neg (by simp [c])]; simp; omega
    · rw [List.filter_cons_of_neg c, List.filter_cons_of_pos (by simp [c])]; simp; omega
theorem one_len {l : List Nat} (hn : l.Nodup) (h : ∀ s ∈ l, ∀ t ∈ l, s = t) : l.length ≤ 1 := by
  match l, hn, h with
  | [], _, _ => exact Nat.zero_le _
  | [_], _, _ => exact Nat.le_refl _
  | a :: b :: l, hn, h =>
    have e := h a (List.mem_cons_self) b (List.mem_cons_of_mem _ List.mem_cons_self)
    rw [List.nodup_cons] at hn
    exact absurd (e ▸ List.mem_cons_self) hn.1
theorem cntR : ∀ (es : List Nat) (r : Nat) (l : List Nat), l.Nodup → (∀ s ∈ l, absn es s ≤ r) → (∀ s ∈ l, ∀ t ∈ l, (∀ x ∈ es, s.testBit x = t.testBit x) → s = t) → l.length ≤ cR es.length r := by
  intro es
  induction es with
  | nil =>
    intro r l hn _ hd
    exact one_len hn (fun s hs t ht => hd s hs t ht (fun x hx => absurd hx List.not_mem_nil))
  | cons e es ih =>
    intro r l hn ha hd
    rw [part_len (fun s => s.testBit e) l]
    have h1 : (l.filter (fun s => s.testBit e)).length ≤ cR es.length r := by
      refine ih r _ (hn.filter _) (fun s hs => ?_) (fun s hs t ht h => ?_)
      · obtain ⟨m1, m2⟩ := List.mem_filter.mp hs
        have := ha s m1
        unfold absn at this
        rw [if_pos m2] at this
        omega
      · obtain ⟨m1, m2⟩ := List.mem_filter.mp hs
        obtain ⟨n1, n2⟩ := List.mem_filter.mp ht
        refine hd s m1 t n1 (fun x hx => ?_)
        rcases List.mem_cons.mp hx with c | c
        · rw [c]; exact m2.trans n2.symm
        · exact h x c
    cases r with
    | zero =>
      have h2 : (l.filter (fun s => !s.testBit e)).length = 0 := by
        rw [List.length_eq_zero_iff, List.filter_eq_nil_iff]
        intro s hs c
        have := ha s hs
        unfold absn at this
        have c' : ¬ s.testBit e = true := by simpa using c
        rw [if_neg c'] at this
        omega
      show _ ≤ cR es.length 0
      omega
    | succ r =>
      have h2 : (l.filter (fun s => !s.testBit e)).length ≤ cR es.length r := by
        refine ih r _ (hn.filter _) (fun s hs => ?_) (fun s hs t ht h => ?_)
        · obtain ⟨m1, m2⟩ := List.mem_filter.mp hs
          have := ha s m1
          unfold absn at this
          have c' : ¬ s.testBit e = true := by simpa using m2
          rw [if_neg c'] at this
          omega
        · obtain ⟨m1, m2⟩ := List.mem_filter.mp hs
          obtain ⟨n1, n2⟩ := List.mem_filter.mp ht
          refine hd s m1 t n1 (fun x hx => ?_)
          rcases List.mem_cons.mp hx with c | c
          · rw [c]
            have c1 : s.testBit e = false := by simpa using m2
            have c2 : t.testBit e = false := by simpa using n2
            rw [c1, c2]
          · exact h x c
      show _ ≤ cR es.length (r + 1) + cR es.length r
      omega
theorem cntN : ∀ (es : List Nat) (a : Nat) (l : List Nat), l.Nodup → (∀ s ∈ l, Pq es a s) → (∀ s ∈ l, ∀ t ∈ l, (∀ x ∈ es, s.testBit x = t.testBit x) → s = t) → l.length ≤ cN es.length a := by
  intro es
  induction es with
  | nil =>
    intro a l hn _ hd
    exact one_len hn (fun s hs t ht => hd s hs t ht (fun x hx => absurd hx List.not_mem_nil))
  | cons e es ih =>
    intro a l hn ha hd
    rw [part_len (fun s => s.testBit e) l]
    have h1 : (l.filter (fun s => s.testBit e)).length ≤ cR es.length a := by
      refine cntR es a _ (hn.filter _) (fun s hs => ?_) (fun s hs t ht h => ?_)
      · obtain ⟨m1, m2⟩ := List.mem_filter.mp hs
        have := ha s m1
        unfold Pq at this
        rw [if_pos m2] at this
        exact this
      · obtain ⟨m1, m2⟩ := List.mem_filter.mp hs
        obtain ⟨n1, n2⟩ := List.mem_filter.mp ht
        refine hd s m1 t n1 (fun x hx => ?_)
        rcases List.mem_cons.mp hx with c | c
        · rw [c]; exact m2.trans n2.symm
        · exact h x c
    have h2 : (l.filter (fun s => !s.testBit e)).length ≤ cN es.length (a + 1) := by
      refine ih (a + 1) _ (hn.filter _) (fun s hs => ?_) (fun s hs t ht h => ?_)
      · obtain ⟨m1, m2⟩ := List.mem_filter.mp hs
        have := ha s m1
        unfold Pq at this
        have c' : ¬ s.testBit e = true := by simpa using m2
        rw [if_neg c'] at this
        exact this
      · obtain ⟨m1, m2⟩ := List.mem_filter.mp hs
        obtain ⟨n1, n2⟩ := List.mem_filter.mp ht
        refine hd s m1 t n1 (fun x hx => ?_)
        rcases List.mem_cons.mp hx with c | c
        · rw [c]
          have c1 : s.testBit e = false := by simpa using m2
          have c2 : t.testBit e = false := by simpa using n2
          rw [c1, c2]
        · exact h x c
    show _ ≤ cR es.length a + cN es.length (a + 1)
    omega
theorem absP : ∀ (es : List Nat) (a s : Nat), absn es s ≤ a → Pq es a s := by
  intro es
  induction es with
  | nil => intro a s _; exact trivial
  | cons e es ih =>
    intro a s h
    unfold absn at h
    unfold Pq
    by_cases c : s.testBit e = true
    · rw [if_pos c] at h ⊢; omega
    · rw [if_neg c] at h ⊢; exact ih (a + 1) s (by omega)
theorem absn_notin : ∀ (es : List Nat) (s u : Nat), u ∉ es → absn es (dif s (2 ^ u)) = absn es s := by
  intro es
  induction es with
  | nil => intro s u _; rfl
  | cons e es ih =>
    intro s u h
    have h1 : ¬ u = e := fun x => h (x ▸ List.mem_cons_self)
    unfold absn
    rw [ih s u (fun x => h (List.mem_cons_of_mem _ x)), dif_bit, Nat.testBit_two_pow]
    simp [h1]
theorem absn_le : ∀ (es : List Nat) (s u : Nat), es.Nodup → absn es (dif s (2 ^ u)) ≤ absn es s + 1 := by
  intro es
  induction es with
  | nil => intro s u _; exact Nat.zero_le _
  | cons e es ih =>
    intro s u h
    rw [List.nodup_cons] at h
    unfold absn
    by_cases c : u = e
    · subst c
      rw [absn_notin es s u h.1]
      by_cases d : s.testBit u = true <;> simp [d] <;> split <;> omega
    · have := ih s u h.2
      rw [dif_bit, Nat.testBit_two_pow]
      simp only [c, decide_false, Bool.not_false, Bool.and_true]
      omega
theorem nbrF_sorted (B : Nat) : ∀ (k w : Nat), (nbrF B k w).Pairwise (· < ·) := by
  intro k
  induction k with
  | zero => intro w; exact List.Pairwise.nil
  | succ k ih =>
    intro w
    unfold nbrF
    by_cases c : B.testBit w = true
    · rw [if_pos c]
      exact List.Pairwise.cons (fun x hx => by have := (nbrF_mem B k (w + 1) x).mp hx; omega) (ih (w + 1))
    · rw [if_neg c]; exact ih (w + 1)
theorem sorted_nodup {l : List Nat} (h : l.Pairwise (· < ·)) : l.Nodup := h.imp (fun h => Nat.ne_of_lt h)
theorem Pq_step : ∀ (es : List Nat) (a s s' : Nat), es.Pairwise (· < ·) → 0 < s → s < 65536 → (∀ i, s.testBit i = true → i ∈ es) → Pq es a s → (∀ i, s'.testBit i = true → s.testBit i = true) → s'.testBit (low 16 s) = false → (∀ es' : List Nat, es'.Nodup → low 16 s ∉ es' → absn es' s' ≤ absn es' s + 1) → Pq es a s' := by
  intro es
  induction es with
  | nil => intro a s s' _ _ _ _ _ _ _ _; exact trivial
  | cons e es ih =>
    intro a s s' hso h0 hs hin hp hsub hlow habs
    rw [List.pairwise_cons] at hso
    unfold Pq at hp ⊢
    by_cases c : s.testBit e = true
    · rw [if_pos c] at hp
      have hel : e = low 16 s := by
        rcases Nat.lt_trichotomy e (low 16 s) with h | h | h
        · rw [low_min (k := 16) h0 hs h] at c; cases c
        · exact h
        · rcases List.mem_cons.mp (hin _ (low_bit (k := 16) h0 hs)) with x | x
          · exact x.symm
          · have := hso.1 _ x; omega
      rw [if_neg (by rw [hel, hlow]; decide)]
      apply absP
      have hn : low 16 s ∉ es := fun x => by have := hso.1 _ x; omega
      have := habs es (sorted_nodup hso.2) hn
      omega
    · rw [if_neg c] at hp
      have c' : ¬ s'.testBit e = true := fun x => c (hsub e x)
      rw [if_neg c']
      exact ih (a + 1) s s' hso.2 h0 hs (fun i hi => by
        rcases List.mem_cons.mp (hin i hi) with x | x
        · subst x; exact absurd hi c
        · exact x) hp hsub hlow habs
/-- the sets that a table of 'full' may hold -/
def Pr0 (full s : Nat) : Prop := s < 65536 ∧ (∀ i, s.testBit i = true → full.testBit i = true) ∧ Pq (nbrF full 16 0) 0 s
theorem bit16 {s i : Nat} (hs : s < 65536) (h : s.testBit i = true) : i < 16 := by
  rcases Nat.lt_or_ge i 16 with c | c
  · exact c
  · have : s < 2 ^ i := Nat.lt_of_lt_of_le hs (Nat.pow_le_pow_right (n := 2) (by decide) c)
    rw [Nat.testBit_lt_two_pow this] at h; cases h
theorem Pr0_full {full : Nat} (h : full < 65536) : Pr0 full full := by
  refine ⟨h, fun _ x => x, absP _ _ _ ?_⟩
  have : ∀ es : List Nat, (∀ e ∈ es, full.testBit e = true) → absn es full = 0 := by
    intro es
    induction es with
    | nil => intro _; rfl
    | cons e es ih =>
      intro hh
      unfold absn
      rw [if_pos (hh e List.mem_cons_self), ih (fun x hx => hh x (List.mem_cons_of_mem _ hx))]
  rw [this _ (fun e he => ((nbrF_mem full 16 0 e).mp he).2.2)]
  exact Nat.le_refl 0
theorem Pr0_step {full s : Nat} (h : Pr0 full s) (h0 : 0 < s) : Pr0 full (rst s) ∧ ∀ u, (rst s).testBit u = true → Pr0 full (dif (rst s) (2 ^ u)) := by
  obtain ⟨h1, h2, h3⟩ := h
  have hrl := rst_lt h0 h1
  have hin : ∀ i, s.testBit i = true → i ∈ nbrF full 16 0 := fun i hi => (nbrF_mem full 16 0 i).mpr ⟨Nat.zero_le _, by have := bit16 h1 hi; omega, h2 i hi⟩
  have sub1 : ∀ i, (rst s).testBit i = true → s.testBit i = true := fun i hi => by
    unfold rst at hi; rw [dif_bit] at hi; simp at hi; exact hi.1
  have lo1 : (rst s).testBit (low 16 s) = false := by unfold rst; rw [dif_bit, Nat.testBit_two_pow_self]; simp
  refine ⟨⟨by omega, fun i hi => h2 i (sub1 i hi), Pq_step _ 0 s _ (nbrF_sorted full 16 0) h0 h1 hin h3 sub1 lo1 (fun es' _ hn => ?_)⟩, fun u hu => ?_⟩
  · unfold rst; rw [absn_notin es' s _ hn]; omega
  · have hle := dif_le (rst s) (2 ^ u)
    have sub2 : ∀ i, (dif (rst s) (2 ^ u)).testBit i = true → s.testBit i = true := fun i hi => by
      rw [dif_bit] at hi; simp at hi; exact sub1 i hi.1
    refine ⟨by omega, fun i hi => h2 i (sub2 i hi), Pq_step _ 0 s _ (nbrF_sorted full 16 0) h0 h1 hin h3 sub2 (by rw [dif_bit, lo1]; rfl) (fun es' hnd hn => ?_)⟩
    have := absn_le es' (rst s) u hnd
    unfold rst at this ⊢
    rw [absn_notin es' s _ hn] at this
    exact this
theorem nodup_map {n : Nat} {e : Nat → Nat} (h : ∀ p q, p < n → q < n → e p = e q → p = q) : ((List.range n).map e).Nodup := by
  unfold List.Nodup
  rw [List.pairwise_map]
  have hr := (List.nodup_range (n := n))
  unfold List.Nodup at hr
  refine List.Pairwise.imp_of_mem (fun {p q} hp hq hne x => hne (h p q (List.mem_range.mp hp) (List.mem_range.mp hq) x)) hr
theorem Pr0_cap {full : Nat} (n : Nat) (e : Nat → Nat) (hP : ∀ p, p < n → Pr0 full (e p)) (hi : ∀ p q, p < n → q < n → e p = e q → p = q) : n ≤ 2584 := by
  have h := cntN (nbrF full 16 0) 0 ((List.range n).map e) (nodup_map hi) (fun s hs => by
    obtain ⟨p, hp, rfl⟩ := List.mem_map.mp hs
    exact (hP p (List.mem_range.mp hp)).2.2) (fun s hs t ht hb => by
    obtain ⟨p, hp, rfl⟩ := List.mem_map.mp hs
    obtain ⟨q, hq, rfl⟩ := List.mem_map.mp ht
    obtain ⟨a1, a2, -⟩ := hP p (List.mem_range.mp hp)
    obtain ⟨b1, b2, -⟩ := hP q (List.mem_range.mp hq)
    apply Nat.eq_of_testBit_eq
    intro i
    by_cases c : i ∈ nbrF full 16 0
    · exact hb i c
    · have c1 : ¬ (e p).testBit i = true := fun x => c ((nbrF_mem full 16 0 i).mpr ⟨Nat.zero_le _, by have := bit16 a1 x; omega, a2 i x⟩)
      have c2 : ¬ (e q).testBit i = true := fun x => c ((nbrF_mem full 16 0 i).mpr ⟨Nat.zero_le _, by have := bit16 b1 x; omega, b2 i x⟩)
      rw [Bool.not_eq_true] at c1 c2
      rw [c1, c2])
  rw [List.length_map, List.length_range] at h
  have h2 := nbrF_len full 16 0
  have := cN_ok (nbrF full 16 0).length (by omega)
  omega
/-- the table behind build: n sets e, the last is the full one -/
def Tab (full : Nat) (ml : Int32) (adj : Nat → Nat) (n : Nat) (e : Nat → Nat) (sl so se later laters : Nat → Int32) : Prop :=
  (∃ a b, RI sl so se n e a b) ∧ 0 < n ∧ e (n - 1) = full ∧ Cl ml adj n e ∧ (∀ p, p < n → Pr0 full (e p)) ∧ ∀ u, u < 16 → rowOK later laters adj u
theorem build_eq {F : Nat} (hF : 100000 ≤ F) {full : Nat} (hf : full < 65536) {ml : Int32} (hml : ml = 0 ∨ ml = 1) {adj : Nat → Nat} (hB : ∀ v, v < 16 → adj v < 65536) {p2 : Nat → Int32} (hp2 : ∀ v, v < 16 → p2 v = nI (adj v)) {sl so se : Nat → Int32} {e0 a b : Nat → Nat} (hR : RI sl so se 0 e0 a b) (later laters : Nat → Int32) :
    ∃ (n : Nat) (e : Nat → Nat) (sl' so' se' later' laters' : Nat → Int32), f_X7_build F (nI full) ml sl so se later laters p2 16 = some (ml, nI n, sl', so', se', later', laters') ∧ Tab full ml adj n e sl' so' se' later' laters' := by
  obtain ⟨later', laters', h1, h2⟩ := build_L hF hB hp2 (kk := fun r2 r3 => bd4 (f_X7_visit F r2 r3 ml 18 (nI full) 0 0 sl so se) (fun x4 x5 x6 x7 => some (ml, x4, x5, x6, x7, r2, r3))) 16 F 0 later laters (by omega) (by omega) (fun u hu => by omega)
  have hpc := pcF_le 16 full
  obtain ⟨n, e, sl', so', se', z1, z2, z3, z4⟩ := visit_spec hF h2 hml (Pr := Pr0 full) (fun s h => h.1) (fun s h h0 => Pr0_step h h0) Pr0_cap 18 full 0 0 e0 a b sl so se (Pr0_full hf) (by omega) (by omega) hR (fun p hp => by omega) (fun p hp => by omega)
  obtain ⟨p, hp, -⟩ := z3
  refine ⟨n, e, sl', so', se', later', laters', ?_, ⟨z2.1, by omega, z4 (by omega), z2.2.2.2.2.1, z2.2.2.2.1, h2⟩⟩
  unfold f_X7_build gd
  rw [if_pos hml]
  simp only [jn]
  rw [z32] at h1 ⊢
  rw [h1, z1, b4S]
theorem RI.zero {sl so se : Nat → Int32} {n : Nat} {e a b : Nat → Nat} (h : RI sl so se n e a b) : RI sl so se 0 e a b :=
  ⟨Nat.zero_le _, h.2.1, h.2.2.1, fun p hp => by omega, fun p q hp => by omega⟩
