/-! ===== the hold: fewest nodes that touch all arcs, of these the first ===== -/
theorem or_add : ∀ (k a b : Nat), a < 2 ^ k → (∀ i, a.testBit i = true → b.testBit i = false) → a ||| b = a + b := by
  intro k
  induction k with
  | zero =>
    intro a b ha _
    have : a = 0 := by omega
    subst this
    rw [Nat.zero_or, Nat.zero_add]
  | succ k ih =>
    intro a b ha h
    have h1 := ih (a / 2) (b / 2) (by rw [Nat.pow_succ] at ha; omega) (fun i hi => by
      rw [← Nat.testBit_succ] at hi ⊢
      exact h (i + 1) hi)
    have h2 : (a ||| b) / 2 = a / 2 ||| b / 2 := Nat.or_div_two
    have h3 : (a ||| b) % 2 = 1 ↔ a % 2 = 1 ∨ b % 2 = 1 := Nat.or_mod_two_eq_one
    have h4 := h 0
    rw [Nat.testBit_zero, Nat.testBit_zero, decide_eq_true_eq, decide_eq_false_iff_not] at h4
    omega
theorem pcF_disj {a b : Nat} (h : ∀ i, a.testBit i = true → b.testBit i = false) : ∀ k, pcF k (a ||| b) = pcF k a + pcF k b := by
  intro k
  induction k with
  | zero => rfl
  | succ k ih =>
    rw [pcF_s, pcF_s, pcF_s, ih, Nat.testBit_or]
    cases c : a.testBit k with
    | true => rw [h k c]; simp; omega
    | false => cases b.testBit k <;> simp <;> omega
theorem pcF_0 (k : Nat) : pcF k 0 = 0 := by
  induction k with
  | zero => rfl
  | succ k ih => rw [pcF_s, ih, Nat.zero_testBit]; rfl
theorem pcF_pos {z : Nat} (hz : z < 65536) (h : 0 < z) : 0 < pcF 16 z := by
  have := pcF_strict (k := 16) (s := 0) (t := z) (j := low 16 z) (fun i _ h => by rw [Nat.zero_testBit] at h; cases h) (low_lt (k := 16) h hz) (Nat.zero_testBit _) (low_bit (k := 16) h hz)
  omega
theorem pcF_two {j : Nat} (hj : j < 16) : pcF 16 (2 ^ j) = 1 := (by decide +kernel : ∀ j, j < 16 → pcF 16 (2 ^ j) = 1) j hj
def rv (x : Nat) : Nat → Nat
  | 0 => 0
  | v + 1 => 2 * rv x v + if x.testBit v = true then 1 else 0
theorem rv_s (x v : Nat) : rv x (v + 1) = 2 * rv x v + if x.testBit v = true then 1 else 0 := rfl
theorem rv_lt (x : Nat) : ∀ v, rv x v < 2 ^ v := by
  intro v
  induction v with
  | zero => exact Nat.zero_lt_one
  | succ v ih => rw [rv_s, Nat.pow_succ]; split <;> omega
theorem rv_bit (x : Nat) : ∀ v j, (rv x v).testBit j = (decide (j < v) && x.testBit (v - 1 - j)) := by
  intro v
  induction v with
  | zero => intro j; show (0 : Nat).testBit j = _; rw [Nat.zero_testBit]; rfl
  | succ v ih =>
    intro j
    rw [rv_s]
    cases j with
    | zero =>
      rw [Nat.testBit_zero]
      have h0 : decide (0 < v + 1) = true := decide_eq_true (by omega)
      rw [h0, show v + 1 - 1 - 0 = v by omega]
      cases x.testBit v
      · rw [if_neg (by decide)]; simp
      · rw [if_pos rfl]
        show decide ((2 * rv x v + 1) % 2 = 1) = true
        rw [decide_eq_true_eq]; omega
    | succ j =>
      rw [Nat.testBit_succ]
      have : (2 * rv x v + if x.testBit v = true then 1 else 0) / 2 = rv x v := by split <;> omega
      rw [this, ih, show v + 1 - 1 - (j + 1) = v - 1 - j by omega]
      congr 1
      rw [decide_eq_decide]; omega
theorem rv_pc (x : Nat) : ∀ v, pcF v (rv x v) = pcF v x := by
  intro v
  induction v with
  | zero => rfl
  | succ v ih =>
    rw [pcF_s v x, rv_s]
    show (2 * rv x v + if x.testBit v = true then 1 else 0) % 2 + pcF v ((2 * rv x v + if x.testBit v = true then 1 else 0) / 2) = _
    have h1 : (2 * rv x v + if x.testBit v = true then 1 else 0) / 2 = rv x v := by split <;> omega
    rw [h1, ih]
    split <;> omega
def flp (x : Nat) : Nat := rv x 16
theorem flp_lt (x : Nat) : flp x < 65536 := rv_lt x 16
theorem flp_bit {x j : Nat} : (flp x).testBit j = (decide (j < 16) && x.testBit (15 - j)) := rv_bit x 16 j
theorem flp_pc (x : Nat) : pcF 16 (flp x) = pcF 16 x := rv_pc x 16
theorem flp_flp {x : Nat} (hx : x < 65536) : flp (flp x) = x := by
  apply Nat.eq_of_testBit_eq
  intro j
  rw [flp_bit, flp_bit]
  by_cases c : j < 16
  · rw [decide_eq_true c, decide_eq_true (show 15 - j < 16 by omega), show 15 - (15 - j) = j by omega]; rfl
  · have h1 : x.testBit j = false := Nat.testBit_lt_two_pow (Nat.lt_of_lt_of_le hx (Nat.pow_le_pow_right (n := 2) (i := 16) (j := j) (by decide) (by omega)))
    rw [decide_eq_false c, h1]; rfl
theorem flip_L {x : Nat} (hx : x < 65536) {kk : Int32 → Option Int32} : ∀ (k m v : Nat), v + k = 16 → k < m → f_X3_flip_L4 (nI x) kk m (nI (rv x v)) (nI v) = kk (nI (rv x 16)) := by
  intro k
  induction k with
  | zero =>
    intro m v e1 hm
    obtain ⟨m, rfl⟩ : ∃ k, m = k + 1 := ⟨m - 1, by omega⟩
    unfold f_X3_flip_L4
    rw [if_pos ((le16 (by omega)).mpr (by omega)), show v = 16 by omega]
  | succ k ih =>
    intro m v e1 hm
    obtain ⟨m, rfl⟩ : ∃ k, m = k + 1 := ⟨m - 1, by omega⟩
    have hr := rv_lt x v
    have hp : 2 ^ v ≤ 2 ^ 16 := Nat.pow_le_pow_right (by decide) (by omega)
    unfold f_X3_flip_L4
    rw [if_neg (fun h => by rw [le16 (by omega)] at h; omega)]
    simp only [ltt]
    rw [bitv_nI (by omega) (by omega), pk_shlN ((1 : Int32) &&& 31) 1 (by decide) (by omega), nI_1]
    have e : nI (rv x v * 2 ^ 1) ||| (if x.testBit v = true then (1 : Int32) else 0) = nI (rv x (v + 1)) := by
      rw [rv_s]
      have h := Nat.two_pow_add_eq_or_of_lt (i := 1) (b := if x.testBit v = true then 1 else 0) (by split <;> omega) (rv x v)
      cases c : x.testBit v with
      | true =>
        rw [if_pos rfl, if_pos rfl, show (1 : Int32) = nI 1 from rfl, nI_or]
        rw [c, if_pos rfl] at h
        rw [show rv x v * 2 ^ 1 = 2 ^ 1 * rv x v by omega, ← h]
      | false =>
        rw [if_neg (by decide), if_neg (by decide), z32, nI_or, Nat.or_zero, show rv x v * 2 ^ 1 = 2 * rv x v + 0 by omega]
    rw [e]
    exact ih m (v + 1) (by omega) (by omega)
theorem flip_eq {F : Nat} (hF : 100000 ≤ F) {x : Nat} (hx : x < 65536) : f_X3_flip F (nI x) = some (nI (flp x)) := by
  unfold f_X3_flip
  simp only [jn]
  rw [z32]
  exact flip_L hx (kk := fun y => some y) 16 F 0 (by omega) (by omega)
/-- prices: fewer nodes are cheaper, of as many the greater number -/
def prN (C : Nat) : Nat := pcF 16 C * 65536 - C
theorem prN_ok {C : Nat} (hC : C < 65536) : C ≤ pcF 16 C * 65536 := by
  rcases Nat.eq_zero_or_pos C with c | c
  · omega
  · have := pcF_pos hC c
    omega
theorem prN_le {C : Nat} : prN C ≤ 16 * 65536 := by
  have := pcF_le 16 C
  unfold prN
  omega
theorem priceOf_eq {C : Nat} (hC : C < 65536) : f_X3_priceOf (nI C) = nI (prN C) := by
  unfold f_X3_priceOf prN
  rw [bc_nI (by omega), pcF_32 hC, show (65536 : Int32) = nI 65536 from rfl, pk_mul, pk_sub (prN_ok hC)]
theorem prN_or {C D : Nat} (hC : C < 65536) (hD : D < 65536) (h : ∀ i, C.testBit i = true → D.testBit i = false) : prN (C ||| D) = prN C + prN D := by
  have h1 := or_add 16 C D hC h
  have h2 := pcF_disj h 16
  have h3 := prN_ok hC
  have h4 := prN_ok hD
  unfold prN
  rw [h2, h1, Nat.add_mul]
  omega
theorem nodesOf_eq {C : Nat} (hC : C < 65536) : f_X3_nodesOf (nI (prN C)) = nI C := by
  have h1 := prN_ok hC
  have h2 := prN_le (C := C)
  unfold f_X3_nodesOf
  have e1 : -nI (prN C) = nI (2 ^ 32 - prN C) := by
    apply Int32.toBitVec_inj.1
    show -BitVec.ofNat 32 (prN C) = BitVec.ofNat 32 (2 ^ 32 - prN C)
    apply BitVec.eq_of_toNat_eq
    rw [BitVec.toNat_neg, BitVec.toNat_ofNat, BitVec.toNat_ofNat]
    omega
  rw [e1, show (65535 : Int32) = nI (2 ^ 16 - 1) from rfl, nx_and, Nat.and_two_pow_sub_one_eq_mod]
  congr 1
  unfold prN at h2 ⊢
  omega
theorem prN_cmp {C D : Nat} (hC : C < 65536) (hD : D < 65536) (h : prN C ≤ prN D) : pcF 16 C < pcF 16 D ∨ (pcF 16 C = pcF 16 D ∧ D ≤ C) := by
  have h1 := prN_ok hC
  have h2 := prN_ok hD
  unfold prN at h
  omega
/-- C holds the arcs (of the table A) inside N -/
def VC (A : Nat → Nat) (N C : Nat) : Prop := (∀ v, C.testBit v = true → N.testBit v = true) ∧ ∀ v u, N.testBit v = true → N.testBit u = true → (A v).testBit u = true → C.testBit v = true ∨ C.testBit u = true
theorem busiest_L {fl : Nat → Int32} {A : Nat → Nat} (hA : ∀ w, w < 16 → fl w = nI (A w) ∧ A w < 65536) {N : Nat} (hN : N < 65536) {kk : Int32 → Option Int32} :
    ∀ (k m v c : Nat) (r : Int32), v + k = 16 → k < m → c ≤ 16 → ((r = -1 ∧ c = 0 ∧ ∀ w, w < v → N.testBit w = true → A w &&& N = 0) ∨ ∃ b, b < 16 ∧ r = nI b ∧ N.testBit b = true ∧ A b &&& N ≠ 0) → ∃ r', f_X3_busiestOf_L7 fl (nI N) kk m r (nI c) (nI v) = kk r' ∧ ((r' = -1 ∧ ∀ w, w < 16 → N.testBit w = true → A w &&& N = 0) ∨ ∃ b, b < 16 ∧ r' = nI b ∧ N.testBit b = true ∧ A b &&& N ≠ 0) := by
  intro k
  induction k with
  | zero =>
    intro m v c r e1 hm hc hr
    obtain ⟨m, rfl⟩ : ∃ k, m = k + 1 := ⟨m - 1, by omega⟩
    refine ⟨r, ?_, ?_⟩
    · unfold f_X3_busiestOf_L7
      rw [if_pos ((le16 (by omega)).mpr (by omega))]
    · rcases hr with ⟨h1, -, h3⟩ | h
      · exact Or.inl ⟨h1, fun w hw => h3 w (by omega)⟩
      · exact Or.inr h
  | succ k ih =>
    intro m v c r e1 hm hc hr
    obtain ⟨m, rfl⟩ : ∃ k, m = k + 1 := ⟨m - 1, by omega⟩
    obtain ⟨a1, a2⟩ := hA v (by omega)
    unfold f_X3_busiestOf_L7
    rw [if_neg (fun h => by rw [le16 (by omega)] at h; omega), has_nI (by omega) (by omega)]
    simp only [jn]
    have hand : A v &&& N < 65536 := Nat.lt_of_le_of_lt Nat.and_le_right hN
    have hpl := pcF_le 16 (A v &&& N)
    -- z arcs are there
    have go : ∀ z, z ≤ 16 → (0 < z ↔ N.testBit v = true ∧ A v &&& N ≠ 0) → ∃ r', (if nI z ≤ nI c then f_X3_busiestOf_L7 fl (nI N) kk m r (nI c) (nI v + 1) else f_X3_busiestOf_L7 fl (nI N) kk m (nI v) (nI z) (nI v + 1)) = kk r' ∧ ((r' = -1 ∧ ∀ w, w < 16 → N.testBit w = true → A w &&& N = 0) ∨ ∃ b, b < 16 ∧ r' = nI b ∧ N.testBit b = true ∧ A b &&& N ≠ 0) := by
      intro z hz hzi
      rw [nI_1]
      by_cases d : z ≤ c
      · rw [if_pos ((nI_leI (by omega) (by omega)).mpr d)]
        refine ih m (v + 1) c r (by omega) (by omega) hc ?_
        rcases hr with ⟨h1, h2, h3⟩ | h
        · refine Or.inl ⟨h1, h2, fun w hw hNw => ?_⟩
          by_cases e : w = v
          · subst e
            by_cases f : A w &&& N = 0
            · exact f
            · have := hzi.mpr ⟨hNw, f⟩
              omega
          · exact h3 w (by omega) hNw
        · exact Or.inr h
      · rw [if_neg (fun h => d ((nI_leI (by omega) (by omega)).mp h))]
        obtain ⟨x1, x2⟩ := hzi.mp (by omega)
        exact ih m (v + 1) z (nI v) (by omega) (by omega) hz (Or.inr ⟨v, by omega, rfl, x1, x2⟩)
    by_cases d : N.testBit v = true
    · rw [if_pos d, if_neg (by decide), rd_nI (by omega) (by decide), a1, nx_and, bc_nI (by omega), pcF_32 hand]
      refine go _ hpl ⟨fun h => ⟨d, fun e => by rw [e, pcF_0] at h; omega⟩, fun h => pcF_pos hand (Nat.pos_of_ne_zero h.2)⟩
    · rw [if_neg d, if_pos rfl, z32]
      exact go 0 (by omega) ⟨fun h => absurd h (Nat.lt_irrefl 0), fun h => absurd h.1 d⟩
theorem busiest_eq {F : Nat} (hF : 100000 ≤ F) {fl : Nat → Int32} {A : Nat → Nat} (hA : ∀ w, w < 16 → fl w = nI (A w) ∧ A w < 65536) {N : Nat} (hN : N < 65536) : ∃ r, f_X3_busiestOf F (nI N) fl = some r ∧ ((r = -1 ∧ ∀ w, w < 16 → N.testBit w = true → A w &&& N = 0) ∨ ∃ b, b < 16 ∧ r = nI b ∧ N.testBit b = true ∧ A b &&& N ≠ 0) := by
  unfold f_X3_busiestOf
  simp only [jn]
  rw [z32]
  exact busiest_L hA hN (kk := fun x => some x) 16 F 0 0 (-1) (by omega) (by omega) (by omega) (Or.inl ⟨rfl, rfl, fun w hw => by omega⟩)
theorem lp_s (F : Nat) (fl : Nat → Int32) (n : Nat) (p1 p2 : Int32) : f_X3_leastPrice F fl (n + 1) p1 p2 = (f_X3_busiestOf F p1 fl).bind (fun r_1 => (if 16 < p2 then some 0 else (if r_1 = (-1) then some 0 else rd 16 fl r_1 (fun y_5 => ((f_X3_leastPrice F fl n) (p1 &&& (((1 : Int32) <<< (r_1 &&& 31)) ^^^ (-1))) (p2 + 1)).bind (fun r_8 => ((f_X3_leastPrice F fl n) ((p1 &&& (((1 : Int32) <<< (r_1 &&& 31)) ^^^ (-1))) &&& ((y_5 &&& p1) ^^^ (-1))) (p2 + 1)).bind (fun r_12 => some (if ((f_X3_priceOf (y_5 &&& p1)) + r_12) < ((f_X3_priceOf ((1 : Int32) <<< (r_1 &&& 31))) + r_8) then ((f_X3_priceOf (y_5 &&& p1)) + r_12) else ((f_X3_priceOf ((1 : Int32) <<< (r_1 &&& 31))) + r_8)))))))) := rfl
theorem lt16_bit {N v : Nat} (hN : N < 65536) (h : N.testBit v = true) : v < 16 := by
  rcases Nat.lt_or_ge v 16 with c | c
  · exact c
  · rw [Nat.testBit_lt_two_pow (Nat.lt_of_lt_of_le hN (Nat.pow_le_pow_right (n := 2) (i := 16) (by decide) c))] at h
    cases h
theorem leastPrice_eq {F : Nat} (hF : 100000 ≤ F) {fl : Nat → Int32} {A : Nat → Nat} (hA : ∀ w, w < 16 → fl w = nI (A w) ∧ A w < 65536) (hsym : ∀ v u, v < 16 → u < 16 → (A v).testBit u = (A u).testBit v) (hirr : ∀ v, v < 16 → (A v).testBit v = false) :
    ∀ (n N d : Nat), N < 65536 → d + pcF 16 N ≤ 16 → pcF 16 N < n → ∃ C, f_X3_leastPrice F fl n (nI N) (nI d) = some (nI (prN C)) ∧ VC A N C ∧ ∀ D, VC A N D → prN C ≤ prN D := by
  intro n
  induction n with
  | zero => intro N d hN hd hn; omega
  | succ n ih =>
    intro N d hN hd hn
    obtain ⟨r, r1, r2⟩ := busiest_eq hF hA hN
    rw [lp_s, r1, bS, if_neg (fun h => by rw [show (16 : Int32) = nI 16 from rfl, nI_ltI (by decide) (by omega)] at h; omega)]
    rcases r2 with ⟨rfl, h2⟩ | ⟨b, b1, rfl, b2, b3⟩
    · rw [if_pos rfl]
      refine ⟨0, rfl, ⟨fun v hv => (by rw [Nat.zero_testBit] at hv; cases hv), fun v u hv hu hvu => ?_⟩, fun D _ => Nat.zero_le _⟩
      exact absurd ⟨u, hvu, hu⟩ (and_z.mp (h2 v (lt16_bit hN hv) hv))
    · obtain ⟨a1, a2⟩ := hA b b1
      have hB16 : A b &&& N < 65536 := Nat.lt_of_le_of_lt Nat.and_le_right hN
      have hN1 := dif_le N (2 ^ b)
      have hN2 := dif_le (dif N (2 ^ b)) (A b &&& N)
      have hp1 : pcF 16 (dif N (2 ^ b)) + 1 = pcF 16 N := pcF_dif 16 N b b1 b2
      have hp2 : pcF 16 (dif (dif N (2 ^ b)) (A b &&& N)) ≤ pcF 16 (dif N (2 ^ b)) := pcF_mono 16 _ _ (fun i _ h => by rw [dif_bit] at h; simp at h; exact h.1)
      rw [if_neg (nI_ne_m1 (by omega)), rd_nI (by omega) (by decide), a1, without_nI _ (by omega), nx_and, nI_dif, nI_1]
      obtain ⟨C1, c1, c2, c3⟩ := ih (dif N (2 ^ b)) (d + 1) (by omega) (by omega) (by omega)
      obtain ⟨C2, e1, e2, e3⟩ := ih (dif (dif N (2 ^ b)) (A b &&& N)) (d + 1) (by omega) (by omega) (by omega)
      have hpb : 2 ^ b < 65536 := Nat.pow_lt_pow_right (n := 16) (by decide) b1
      rw [c1, bS, e1, bS, shl_nI (by omega), priceOf_eq hB16, priceOf_eq hpb, nI_add, nI_add]
      have hC1 : C1 < 65536 := lt_of_bits (n := 16) (fun v hv => lt16_bit (show dif N (2 ^ b) < 65536 by omega) (c2.1 v hv))
      have hC2 : C2 < 65536 := lt_of_bits (n := 16) (fun v hv => lt16_bit (show dif (dif N (2 ^ b)) (A b &&& N) < 65536 by omega) (e2.1 v hv))
      have d1 : ∀ i, (2 ^ b).testBit i = true → C1.testBit i = false := by
        intro i hi
        rw [Nat.testBit_two_pow, decide_eq_true_eq] at hi
        subst hi
        cases x : C1.testBit b with
        | false => rfl
        | true => have := c2.1 b x; rw [dif_bit, Nat.testBit_two_pow_self] at this; simp at this
      have d2 : ∀ i, (A b &&& N).testBit i = true → C2.testBit i = false := by
        intro i hi
        cases x : C2.testBit i with
        | false => rfl
        | true => have := e2.1 i x; rw [dif_bit, hi] at this; simp at this
      have p1 := prN_or hpb hC1 d1
      have p2 := prN_or hB16 hC2 d2
      have v1 : VC A N (2 ^ b ||| C1) := by
        refine ⟨fun v hv => ?_, fun v u hv hu hvu => ?_⟩
        · rw [Nat.testBit_or, Nat.testBit_two_pow, Bool.or_eq_true, decide_eq_true_eq] at hv
          rcases hv with hv | hv
          · rw [← hv]; exact b2
          · have := c2.1 v hv; rw [dif_bit] at this; simp at this; exact this.1
        · rw [Nat.testBit_or, Nat.testBit_or, Nat.testBit_two_pow, Nat.testBit_two_pow, Bool.or_eq_true, Bool.or_eq_true, decide_eq_true_eq, decide_eq_true_eq]
          by_cases x : b = v
          · exact Or.inl (Or.inl x)
          · by_cases y : b = u
            · exact Or.inr (Or.inl y)
            · rcases c2.2 v u (by rw [dif_bit, hv, Nat.testBit_two_pow]; simp [x]) (by rw [dif_bit, hu, Nat.testBit_two_pow]; simp [y]) hvu with z | z
              · exact Or.inl (Or.inr z)
              · exact Or.inr (Or.inr z)
      have v2 : VC A N ((A b &&& N) ||| C2) := by
        refine ⟨fun v hv => ?_, fun v u hv hu hvu => ?_⟩
        · rw [Nat.testBit_or, Bool.or_eq_true, Nat.testBit_and, Bool.and_eq_true] at hv
          rcases hv with hv | hv
          · exact hv.2
          · have := e2.1 v hv; rw [dif_bit, dif_bit] at this; simp at this; exact this.1.1
        · rw [Nat.testBit_or, Nat.testBit_or, Bool.or_eq_true, Bool.or_eq_true, Nat.testBit_and, Nat.testBit_and, hv, hu, Bool.and_true, Bool.and_true]
          by_cases x : (A b).testBit v = true
          · exact Or.inl (Or.inl x)
          · by_cases y : (A b).testBit u = true
            · exact Or.inr (Or.inl y)
            · have xb : b ≠ v := fun e => by subst e; exact y hvu
              have yb : b ≠ u := fun e => by
                subst e
                rw [hsym v b (lt16_bit hN hv) b1] at hvu
                exact x hvu
              have x' : (A b).testBit v = false := by cases q : (A b).testBit v with | false => rfl | true => exact absurd q x
              have y' : (A b).testBit u = false := by cases q : (A b).testBit u with | false => rfl | true => exact absurd q y
              rcases e2.2 v u (by rw [dif_bit, dif_bit, hv, Nat.testBit_two_pow, Nat.testBit_and, x']; simp [xb]) (by rw [dif_bit, dif_bit, hu, Nat.testBit_two_pow, Nat.testBit_and, y']; simp [yb]) hvu with z | z
              · exact Or.inl (Or.inr z)
              · exact Or.inr (Or.inr z)
      -- each hold has the one node or all beside it
      have both : ∀ D, VC A N D → prN (2 ^ b ||| C1) ≤ prN D ∨ prN ((A b &&& N) ||| C2) ≤ prN D := by
        intro D hD
        have hD16 : D < 65536 := lt_of_bits (n := 16) (fun v hv => lt16_bit hN (hD.1 v hv))
        cases x : D.testBit b with
        | true =>
          left
          have q1 : VC A (dif N (2 ^ b)) (dif D (2 ^ b)) := by
            refine ⟨fun v hv => ?_, fun v u hv hu hvu => ?_⟩
            · rw [dif_bit] at hv ⊢
              rw [Bool.and_eq_true] at hv ⊢
              exact ⟨hD.1 v hv.1, hv.2⟩
            · rw [dif_bit, Bool.and_eq_true] at hv hu
              rw [dif_bit, dif_bit, hv.2, hu.2, Bool.and_true, Bool.and_true]
              exact hD.2 v u hv.1 hu.1 hvu
          have q2 := c3 _ q1
          have q3 : 2 ^ b ||| dif D (2 ^ b) = D := by
            apply Nat.eq_of_testBit_eq
            intro j
            rw [Nat.testBit_or, dif_bit, Nat.testBit_two_pow]
            by_cases y : b = j
            · subst y; simp [x]
            · simp [y]
          have q4 := prN_or hpb (show dif D (2 ^ b) < 65536 from Nat.lt_of_le_of_lt (dif_le _ _) hD16) (fun i hi => by rw [dif_bit, hi]; simp)
          rw [q3] at q4
          omega
        | false =>
          right
          have hsub : ∀ v, (A b &&& N).testBit v = true → D.testBit v = true := by
            intro v hv
            rw [Nat.testBit_and, Bool.and_eq_true] at hv
            rcases hD.2 b v b2 hv.2 hv.1 with z | z
            · rw [x] at z; cases z
            · exact z
          have q1 : VC A (dif (dif N (2 ^ b)) (A b &&& N)) (dif D (A b &&& N)) := by
            refine ⟨fun v hv => ?_, fun v u hv hu hvu => ?_⟩
            · rw [dif_bit, Bool.and_eq_true] at hv
              rw [dif_bit, dif_bit, Nat.testBit_two_pow, hv.2, hD.1 v hv.1]
              have : b ≠ v := fun e => by rw [← e, x] at hv; cases hv.1
              simp [this]
            · rw [dif_bit, dif_bit, Bool.and_eq_true, Bool.and_eq_true] at hv hu
              rw [dif_bit, dif_bit, hv.2, hu.2, Bool.and_true, Bool.and_true]
              exact hD.2 v u hv.1.1 hu.1.1 hvu
          have q2 := e3 _ q1
          have q3 : (A b &&& N) ||| dif D (A b &&& N) = D := by
            apply Nat.eq_of_testBit_eq
            intro j
            rw [Nat.testBit_or, dif_bit]
            cases y : (A b &&& N).testBit j with
            | true => rw [hsub j y]; rfl
            | false => simp
          have q4 := prN_or hB16 (show dif D (A b &&& N) < 65536 from Nat.lt_of_le_of_lt (dif_le _ _) hD16) (fun i hi => by rw [dif_bit, hi]; simp)
          rw [q3] at q4
          omega
      have l1 := prN_le (C := C1)
      have l2 := prN_le (C := C2)
      have l3 := prN_le (C := 2 ^ b)
      have l4 := prN_le (C := A b &&& N)
      by_cases f : prN (A b &&& N) + prN C2 < prN (2 ^ b) + prN C1
      · rw [if_pos ((nI_ltI (by omega) (by omega)).mpr f)]
        refine ⟨(A b &&& N) ||| C2, by rw [p2], v2, fun D hD => ?_⟩
        rcases both D hD with z | z <;> omega
      · rw [if_neg (fun h => f ((nI_ltI (by omega) (by omega)).mp h))]
        refine ⟨2 ^ b ||| C1, by rw [p1], v1, fun D hD => ?_⟩
        rcases both D hD with z | z <;> omega
theorem flipped_L {F : Nat} (hF : 100000 ≤ F) {G : Gr} (hW : Wf G) {joined : Nat → Int32} (hj : ∀ v, v < 16 → joined v = nI (adj G v)) {kk : (Nat → Int32) → Option (Int32 × Int32 × (Nat → Int32))} :
    ∀ (k m v : Nat) (fl : Nat → Int32), v + k = 16 → k < m → (∀ w, 16 ≤ w + v → w < 16 → fl w = nI (flp (adj G (15 - w)))) → ∃ fl', f_X3_refresh_L27 F joined kk m (nI v) fl = kk fl' ∧ ∀ w, w < 16 → fl' w = nI (flp (adj G (15 - w))) := by
  intro k
  induction k with
  | zero =>
    intro m v fl e1 hm hf
    obtain ⟨m, rfl⟩ : ∃ k, m = k + 1 := ⟨m - 1, by omega⟩
    refine ⟨fl, ?_, fun w hw => hf w (by omega) hw⟩
    unfold f_X3_refresh_L27
    rw [if_pos ((le16 (by omega)).mpr (by omega))]
  | succ k ih =>
    intro m v fl e1 hm hf
    obtain ⟨m, rfl⟩ : ∃ k, m = k + 1 := ⟨m - 1, by omega⟩
    unfold f_X3_refresh_L27
    rw [if_neg (fun h => by rw [le16 (by omega)] at h; omega), rd_nI (by omega) (by decide), hj v (by omega), flip_eq hF (adj_lt hW v), bS, show (15 : Int32) = nI 15 from rfl, pk_sub (by omega), wr_nI (by omega) (by decide), nI_1]
    refine ih m (v + 1) _ (by omega) (by omega) (fun w h1 h2 => ?_)
    by_cases c : w = 15 - v
    · rw [c, up_s, show 15 - (15 - v) = v by omega]
    · rw [up_n c]; exact hf w (by omega) h2
/-- H touches all arcs -/
def Vo (G : Gr) (T H : Nat) : Prop := ∀ v u, T.testBit v = true → T.testBit u = true → (adj G v).testBit u = true → H.testBit v = true ∨ H.testBit u = true
def IsH (G : Gr) (H : Nat) : Prop := H < 65536 ∧ Vo G (allN G) H ∧ ∀ Y, Y < 65536 → Vo G (allN G) Y → pcF 16 H < pcF 16 Y ∨ (pcF 16 H = pcF 16 Y ∧ flp Y ≤ flp H)
theorem isH_one {G : Gr} {H K : Nat} (h : IsH G H) (k : IsH G K) : H = K := by
  have h1 := h.2.2 K k.1 k.2.1
  have h2 := k.2.2 H h.1 h.2.1
  have h3 : flp H = flp K := by omega
  rw [← flp_flp h.1, h3, flp_flp k.1]
theorem vo_vc {G : Gr} (hW : Wf G) {Y : Nat} : Vo G (allN G) Y ↔ VC (fun w => flp (adj G (15 - w))) 65535 (flp Y) := by
  have hn := hW.1
  have h16 : ∀ v, (65535 : Nat).testBit v = decide (v < 16) := fun v => Nat.testBit_two_pow_sub_one 16 v
  constructor
  · intro h
    refine ⟨fun v hv => ?_, fun v u hv hu hvu => ?_⟩
    · rw [h16]; exact decide_eq_true (lt16_bit (flp_lt Y) hv)
    · rw [h16] at hv hu
      have hv := of_decide_eq_true hv
      have hu := of_decide_eq_true hu
      have hvu : (flp (adj G (15 - v))).testBit u = true := hvu
      rw [flp_bit, decide_eq_true hu, Bool.true_and] at hvu
      obtain ⟨n1, n2, -⟩ := adj_in hW hvu
      rw [flp_bit, flp_bit, decide_eq_true hv, decide_eq_true hu, Bool.true_and, Bool.true_and]
      exact h _ _ (by rw [allN_bit]; exact decide_eq_true n1) (by rw [allN_bit]; exact decide_eq_true n2) hvu
  · rintro ⟨-, h⟩ v u hv hu hvu
    obtain ⟨n1, n2, -⟩ := adj_in hW hvu
    have := h (15 - v) (15 - u) (by rw [h16]; exact decide_eq_true (by omega)) (by rw [h16]; exact decide_eq_true (by omega)) (by
      show (flp (adj G (15 - (15 - v)))).testBit (15 - u) = true
      rw [flp_bit, decide_eq_true (show 15 - u < 16 by omega), show 15 - (15 - v) = v by omega, show 15 - (15 - u) = u by omega, Bool.true_and]
      exact hvu)
    rw [flp_bit, flp_bit, decide_eq_true (show 15 - v < 16 by omega), decide_eq_true (show 15 - u < 16 by omega), show 15 - (15 - v) = v by omega, show 15 - (15 - u) = u by omega, Bool.true_and, Bool.true_and] at this
    exact this
theorem holds_eq {F : Nat} (hF : 100000 ≤ F) {G : Gr} (hW : Wf G) {joined : Nat → Int32} (hj : ∀ v, v < 16 → joined v = nI (adj G v)) {age hage : Int32} (hne : hage ≠ age) (fl : Nat → Int32) (ch : Int32) : ∃ H fl', f_X3_refresh F age joined fl ch hage = some (nI H, age, fl') ∧ IsH G H := by
  have hn := hW.1
  obtain ⟨fl1, a1, a2⟩ := flipped_L hF hW hj (kk := fun f2 => (f_X3_leastPrice F f2 18 65535 (nI 0)).bind (fun r_3 => (f_X3_flip F (f_X3_nodesOf r_3)).bind (fun r_7 => some (r_7, age, f2)))) 16 F 0 fl (by omega) (by omega) (fun w h1 h2 => by omega)
  obtain ⟨C, c1, c2, c3⟩ := leastPrice_eq hF (fl := fl1) (A := fun w => flp (adj G (15 - w))) (fun w hw => ⟨a2 w hw, flp_lt _⟩) (fun v u hv hu => by
    show (flp (adj G (15 - v))).testBit u = (flp (adj G (15 - u))).testBit v
    rw [flp_bit, flp_bit, decide_eq_true hv, decide_eq_true hu, adj_sym hW]) (fun v hv => by
    show (flp (adj G (15 - v))).testBit v = false
    rw [flp_bit, decide_eq_true hv, Bool.true_and]
    cases x : (adj G (15 - v)).testBit (15 - v) with
    | false => rfl
    | true => exact absurd rfl (adj_in hW x).2.2) 18 65535 0 (by decide) (by decide) (by decide)
  have hC16 : C < 65536 := lt_of_bits (n := 16) (fun v hv => lt16_bit (show 65535 < 65536 by decide) (c2.1 v hv))
  refine ⟨flp C, fl1, ?_, flp_lt C, ?_, fun Y hY hV => ?_⟩
  · unfold f_X3_refresh
    rw [if_neg hne]
    simp only [jn]
    rw [z32, a1]
    have c1' : f_X3_leastPrice F fl1 18 65535 (nI 0) = some (nI (prN C)) := c1
    rw [c1', bS, nodesOf_eq hC16, flip_eq hF hC16, bS]
  · rw [vo_vc hW, flp_flp hC16]; exact c2
  · have h1 := c3 _ ((vo_vc hW).mp hV)
    have h2 := prN_cmp hC16 (flp_lt Y) h1
    rw [flp_pc] at h2
    rw [flp_pc, flp_flp hC16]
    exact h2
