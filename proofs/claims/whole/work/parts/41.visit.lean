/-! ===== the rests: which sets the table holds ===== -/
theorem gD {l : List Nat} {i : Nat} (h : i < l.length) : l.getD i 0 = l[i] := by simp [List.getD, h]
def rst (s : Nat) : Nat := dif s (2 ^ low 16 s)
theorem rst_nI {s : Nat} (h0 : 0 < s) (h : s < 65536) : nI s &&& (nI s - 1) = nI (rst s) := rest_nI h0 h
theorem rst_lt {s : Nat} (h0 : 0 < s) (h : s < 65536) : rst s < s := rest_lt h0 h
theorem cell_nI (v c : Nat) : f_X11_cell (nI v) (nI c) = nI (v * 16 + c) := by
  unfold f_X11_cell
  rw [show (16 : Int32) = nI 16 from rfl, pk_mul, nI_add]
theorem without_nI (s : Nat) {u : Nat} (hu : u < 31) : nI s &&& (((1 : Int32) <<< (nI u &&& 31)) ^^^ (-1)) = nI (dif s (2 ^ u)) := by
  rw [shl_nI hu, nI_dif]
theorem nI_ne_m1 {p : Nat} (hp : p < 2 ^ 31) : ¬ nI p = -1 := by
  intro h
  have h1 := nI_toInt hp
  rw [h] at h1
  have h2 : (-1 : Int32).toInt = -1 := by decide
  omega
theorem dif_half (s j : Nat) : dif s (2 ^ (j + 1)) / 2 = dif (s / 2) (2 ^ j) := by
  apply Nat.eq_of_testBit_eq
  intro i
  rw [Nat.testBit_div_two, dif_bit, dif_bit, Nat.testBit_div_two, Nat.testBit_two_pow, Nat.testBit_two_pow]
  simp
theorem dif_mod (s j : Nat) : dif s (2 ^ (j + 1)) % 2 = s % 2 := by
  have h : (dif s (2 ^ (j + 1))).testBit 0 = s.testBit 0 := by
    rw [dif_bit, Nat.testBit_two_pow]
    simp
  rw [Nat.testBit_zero, Nat.testBit_zero] at h
  have a1 : dif s (2 ^ (j + 1)) % 2 = 0 ∨ dif s (2 ^ (j + 1)) % 2 = 1 := by omega
  have a2 : s % 2 = 0 ∨ s % 2 = 1 := by omega
  rcases a1 with a | a <;> rcases a2 with b | b <;> rw [a, b] at h <;> first | (exact absurd h (by decide)) | (rw [a, b])
theorem dif_one (s : Nat) : dif s (2 ^ 0) = 2 * (s / 2) := by
  apply Nat.eq_of_testBit_eq
  intro i
  rw [dif_bit, Nat.testBit_two_pow]
  cases i with
  | zero => rw [Nat.testBit_zero]; simp
  | succ i =>
    rw [Nat.testBit_succ (2 * (s / 2)), Nat.testBit_succ s]
    have : 2 * (s / 2) / 2 = s / 2 := by omega
    rw [this]
    simp
theorem pcF_dif : ∀ (k s j : Nat), j < k → s.testBit j = true → pcF k (dif s (2 ^ j)) + 1 = pcF k s := by
  intro k
  induction k with
  | zero => intro s j h; omega
  | succ k ih =>
    intro s j h hb
    show dif s (2 ^ j) % 2 + pcF k (dif s (2 ^ j) / 2) + 1 = s % 2 + pcF k (s / 2)
    cases j with
    | zero =>
      rw [dif_one]
      rw [Nat.testBit_zero] at hb
      have hb := of_decide_eq_true hb
      have e : 2 * (s / 2) / 2 = s / 2 := by omega
      rw [e]
      omega
    | succ j =>
      rw [dif_half, dif_mod]
      rw [Nat.testBit_succ] at hb
      have := ih (s / 2) j (by omega) hb
      omega
/-- the nodes w, w + 1, .. of a mask, k of them looked at -/
def nbrF (B : Nat) : Nat → Nat → List Nat
  | 0, _ => []
  | k + 1, w => if B.testBit w then w :: nbrF B k (w + 1) else nbrF B k (w + 1)
theorem nbrF_len (B : Nat) : ∀ (k w : Nat), (nbrF B k w).length ≤ k := by
  intro k
  induction k with
  | zero => intro w; exact Nat.le_refl 0
  | succ k ih =>
    intro w
    unfold nbrF
    have := ih (w + 1)
    by_cases c : B.testBit w = true
    · rw [if_pos c]; simp; omega
    · rw [if_neg c]; omega
theorem nbrF_mem (B : Nat) : ∀ (k w u : Nat), u ∈ nbrF B k w ↔ w ≤ u ∧ u < w + k ∧ B.testBit u = true := by
  intro k
  induction k with
  | zero => intro w u; unfold nbrF; simp; omega
  | succ k ih =>
    intro w u
    unfold nbrF
    by_cases c : B.testBit w = true
    · rw [if_pos c, List.mem_cons, ih]
      constructor
      · rintro (h | ⟨h1, h2, h3⟩)
        · subst h; exact ⟨Nat.le_refl _, by omega, c⟩
        · exact ⟨by omega, by omega, h3⟩
      · rintro ⟨h1, h2, h3⟩
        by_cases e : u = w
        · exact Or.inl e
        · exact Or.inr ⟨by omega, by omega, h3⟩
    · rw [if_neg c, ih]
      constructor
      · rintro ⟨h1, h2, h3⟩; exact ⟨by omega, by omega, h3⟩
      · rintro ⟨h1, h2, h3⟩
        by_cases e : u = w
        · subst e; exact absurd h3 c
        · exact ⟨by omega, by omega, h3⟩
/-- the later nodes beside node v -/
def nbr (B v : Nat) : List Nat := nbrF B (15 - v) (v + 1)
theorem nbr_mem {B v u : Nat} (hv : v < 16) : u ∈ nbr B v ↔ v < u ∧ u < 16 ∧ B.testBit u = true := by
  unfold nbr
  rw [nbrF_mem]
  constructor
  · rintro ⟨h1, h2, h3⟩; exact ⟨by omega, by omega, h3⟩
  · rintro ⟨h1, h2, h3⟩; exact ⟨by omega, by omega, h3⟩
theorem le16 {w : Nat} (h : w < 2 ^ 31) : (16 : Int32) ≤ nI w ↔ 16 ≤ w := by rw [show (16 : Int32) = nI 16 from rfl, nI_leI (by decide) h]
theorem later_L {v B : Nat} (hv : v < 16) (hB : B < 65536) {kk : Int32 → (Nat → Int32) → Option ((Nat → Int32) × (Nat → Int32))} :
    ∀ (k m w c : Nat) (later : Nat → Int32), w + k = 16 → k < m → c + k ≤ 15 →
      ∃ later', f_X7_listLater_L7 (nI v) (nI B) kk m (nI c) (nI w) later = kk (nI (c + (nbrF B k w).length)) later' ∧ (∀ i, i < (nbrF B k w).length → later' (v * 16 + c + i) = nI ((nbrF B k w).getD i 0)) ∧ ∀ j, (j < v * 16 + c ∨ v * 16 + c + (nbrF B k w).length ≤ j) → later' j = later j := by
  intro k
  induction k with
  | zero =>
    intro m w c later e1 hm hc
    obtain ⟨m, rfl⟩ : ∃ k, m = k + 1 := ⟨m - 1, by omega⟩
    refine ⟨later, ?_, fun i hi => absurd hi (Nat.not_lt_zero i), fun _ _ => rfl⟩
    unfold f_X7_listLater_L7
    rw [if_pos ((le16 (by omega)).mpr (by omega))]
    rfl
  | succ k ih =>
    intro m w c later e1 hm hc
    obtain ⟨m, rfl⟩ : ∃ k, m = k + 1 := ⟨m - 1, by omega⟩
    unfold f_X7_listLater_L7 nbrF
    rw [if_neg (fun h => by rw [le16 (by omega)] at h; omega), has_nI (by omega) (by omega)]
    by_cases b : B.testBit w = true
    · rw [if_pos b, if_neg (by decide), if_pos b, cell_nI, wr_nI (by omega) (by decide), nI_1, nI_1]
      obtain ⟨later', h1, h2, h3⟩ := ih m (w + 1) (c + 1) (va_up later (v * 16 + c) (nI w)) (by omega) (by omega) (by omega)
      refine ⟨later', ?_, ?_, ?_⟩
      · rw [h1]
        have : c + 1 + (nbrF B k (w + 1)).length = c + (w :: nbrF B k (w + 1)).length := by simp; omega
        rw [this]
      · intro i hi
        cases i with
        | zero =>
          rw [Nat.add_zero, h3 (v * 16 + c) (Or.inl (by omega)), up_s]
          rfl
        | succ i =>
          have hi' : i < (nbrF B k (w + 1)).length := by simpa using hi
          have := h2 i hi'
          rw [show v * 16 + c + (i + 1) = v * 16 + (c + 1) + i by omega, this]
          rfl
      · intro j hj
        have hl : (w :: nbrF B k (w + 1)).length = (nbrF B k (w + 1)).length + 1 := rfl
        rw [h3 j (by omega), up_n (by omega)]
    · rw [if_neg b, if_pos rfl, if_neg b, nI_1]
      exact ih m (w + 1) c later (by omega) (by omega) (by omega)
def rowOK (later laters : Nat → Int32) (adj : Nat → Nat) (v : Nat) : Prop := laters v = nI (nbr (adj v) v).length ∧ ∀ i, i < (nbr (adj v) v).length → later (v * 16 + i) = nI ((nbr (adj v) v).getD i 0)
theorem listLater_eq {F : Nat} (hF : 100000 ≤ F) {adj : Nat → Nat} {v : Nat} (hv : v < 16) (hB : adj v < 65536) (later laters : Nat → Int32) :
    ∃ later', f_X7_listLater F (nI v) (nI (adj v)) later laters = some (later', va_up laters v (nI (nbr (adj v) v).length)) ∧ rowOK later' (va_up laters v (nI (nbr (adj v) v).length)) adj v ∧ ∀ u, u < 16 → u ≠ v → rowOK later laters adj u → rowOK later' (va_up laters v (nI (nbr (adj v) v).length)) adj u := by
  obtain ⟨later', h1, h2, h3⟩ := later_L hv hB (kk := fun v3 later2 => wr 16 laters (nI v) v3 (fun l3 => some (later2, l3))) (15 - v) F (v + 1) 0 later (by omega) (by omega) (by omega)
  refine ⟨later', ?_, ⟨up_s _ _ _, fun i hi => ?_⟩, fun u hu huv hr => ⟨?_, fun i hi => ?_⟩⟩
  · unfold f_X7_listLater
    simp only [jn]
    rw [nI_1, z32, h1, wr_nI hv (by decide), Nat.zero_add]
    rfl
  · have := h2 i hi
    rw [Nat.add_zero] at this
    exact this
  · rw [up_n huv]; exact hr.1
  · have hl := nbrF_len (adj u) (15 - u) (u + 1)
    have hl2 := nbrF_len (adj v) (15 - v) (v + 1)
    have hi2 : i < (nbrF (adj u) (15 - u) (u + 1)).length := hi
    rw [h3 _ (by omega)]
    exact hr.2 i hi
theorem build_L {F : Nat} (hF : 100000 ≤ F) {adj : Nat → Nat} (hB : ∀ v, v < 16 → adj v < 65536) {p2 : Nat → Int32} (hp2 : ∀ v, v < 16 → p2 v = nI (adj v)) {kk : (Nat → Int32) → (Nat → Int32) → Option (Int32 × Int32 × (Nat → Int32) × (Nat → Int32) × (Nat → Int32) × (Nat → Int32) × (Nat → Int32))} :
    ∀ (k m v : Nat) (later laters : Nat → Int32), v + k = 16 → k < m → (∀ u, u < v → rowOK later laters adj u) → ∃ later' laters', f_X7_build_L13 F p2 16 kk m (nI v) later laters = kk later' laters' ∧ ∀ u, u < 16 → rowOK later' laters' adj u := by
  intro k
  induction k with
  | zero =>
    intro m v later laters e1 hm hr
    obtain ⟨m, rfl⟩ : ∃ k, m = k + 1 := ⟨m - 1, by omega⟩
    refine ⟨later, laters, ?_, fun u hu => hr u (by omega)⟩
    unfold f_X7_build_L13
    rw [if_pos ((le16 (by omega)).mpr (by omega))]
  | succ k ih =>
    intro m v later laters e1 hm hr
    obtain ⟨m, rfl⟩ : ∃ k, m = k + 1 := ⟨m - 1, by omega⟩
    obtain ⟨later1, h1, h2, h3⟩ := listLater_eq hF (v := v) (by omega) (hB v (by omega)) later laters
    obtain ⟨later', laters', h4, h5⟩ := ih m (v + 1) later1 _ (by omega) (by omega) (fun u hu => by
      by_cases c : u = v
      · rw [c]; exact h2
      · exact h3 u (by omega) c (hr u (by omega)))
    refine ⟨later', laters', ?_, h5⟩
    unfold f_X7_build_L13
    rw [if_neg (fun h => by rw [le16 (by omega)] at h; omega), rd_nI (by omega) (by decide), hp2 v (by omega), h1, b2S, nI_1]
    exact h4
/-- each set stands behind what is left of it -/
def Cl (ml : Int32) (adj : Nat → Nat) (n : Nat) (e : Nat → Nat) : Prop := ∀ p, p < n → 0 < e p → (ml = 1 → ∃ p', p' < p ∧ e p' = rst (e p)) ∧ ∀ u, u ∈ nbr (adj (low 16 (e p))) (low 16 (e p)) → (rst (e p)).testBit u = true → ∃ p', p' < p ∧ e p' = dif (rst (e p)) (2 ^ u)
theorem Cl.snoc {ml : Int32} {adj : Nat → Nat} {n : Nat} {e : Nat → Nat} (h : Cl ml adj n e) {s : Nat} (hs : 0 < s → (ml = 1 → ∃ p', p' < n ∧ e p' = rst s) ∧ ∀ u, u ∈ nbr (adj (low 16 s)) (low 16 s) → (rst s).testBit u = true → ∃ p', p' < n ∧ e p' = dif (rst s) (2 ^ u)) : Cl ml adj (n + 1) (va_up e n s) := by
  intro p hp h0
  by_cases c : p = n
  · subst c
    rw [up_s] at h0 ⊢
    obtain ⟨h1, h2⟩ := hs h0
    refine ⟨fun x => ?_, fun u hu hb => ?_⟩
    · obtain ⟨p', y1, y2⟩ := h1 x; exact ⟨p', y1, by rw [up_n (by omega)]; exact y2⟩
    · obtain ⟨p', y1, y2⟩ := h2 u hu hb; exact ⟨p', y1, by rw [up_n (by omega)]; exact y2⟩
  · rw [up_n c] at h0 ⊢
    obtain ⟨h1, h2⟩ := h p (by omega) h0
    refine ⟨fun x => ?_, fun u hu hb => ?_⟩
    · obtain ⟨p', y1, y2⟩ := h1 x; exact ⟨p', y1, by rw [up_n (by omega)]; exact y2⟩
    · obtain ⟨p', y1, y2⟩ := h2 u hu hb; exact ⟨p', y1, by rw [up_n (by omega)]; exact y2⟩
/-- what a visit of s leaves: n' sets e', the first n as they were, s among them, none above s is new -/
def Vis (Pr : Nat → Prop) (ml : Int32) (adj : Nat → Nat) (n : Nat) (e : Nat → Nat) (lim : Nat) (n' : Nat) (e' : Nat → Nat) (sl so se : Nat → Int32) : Prop :=
  (∃ a b, RI sl so se n' e' a b) ∧ n ≤ n' ∧ (∀ p, p < n → e' p = e p) ∧ (∀ p, p < n' → Pr (e' p)) ∧ Cl ml adj n' e' ∧ ∀ p, n ≤ p → p < n' → e' p < lim
theorem Vis.trans {Pr : Nat → Prop} {ml : Int32} {adj : Nat → Nat} {n n1 n2 lim lim1 lim2 : Nat} {e e1 e2 : Nat → Nat} {sl so se sl1 so1 se1 : Nat → Int32} (h1 : Vis Pr ml adj n e lim1 n1 e1 sl so se) (h2 : Vis Pr ml adj n1 e1 lim2 n2 e2 sl1 so1 se1) (l1 : lim1 ≤ lim) (l2 : lim2 ≤ lim) : Vis Pr ml adj n e lim n2 e2 sl1 so1 se1 := by
  obtain ⟨-, a2, a3, a4, a5, a6⟩ := h1
  obtain ⟨b1, b2, b3, b4, b5, b6⟩ := h2
  refine ⟨b1, by omega, fun p hp => by rw [b3 p (by omega)]; exact a3 p hp, b4, b5, fun p hp1 hp2 => ?_⟩
  by_cases c : p < n1
  · rw [b3 p c]; have := a6 p hp1 c; omega
  · have := b6 p (by omega) hp2; omega
