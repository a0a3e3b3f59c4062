/-! ===== the arc, or the node, in a place of a set ===== -/
def plF (X : Nat) (p : Int32) : Nat → Nat → Nat → Int32
  | 0, _, _ => -1
  | k + 1, a, b => if inX X a = true then (if nI b = p then nI a else plF X p k (a + 1) (b + 1)) else plF X p k (a + 1) b
theorem plF_s (X : Nat) (p : Int32) (k a b : Nat) : plF X p (k + 1) a b = if inX X a = true then (if nI b = p then nI a else plF X p k (a + 1) (b + 1)) else plF X p k (a + 1) b := rfl
theorem plF_none {X : Nat} {p : Int32} : ∀ (k a b : Nat), (∀ j, a ≤ j → j < a + k → inX X j = false) → plF X p k a b = -1 := by
  intro k
  induction k with
  | zero => intro a b _; rfl
  | succ k ih =>
    intro a b h
    rw [plF_s, h a (Nat.le_refl _) (by omega), if_neg (by decide)]
    exact ih (a + 1) b (fun j h1 h2 => h j (by omega) (by omega))
theorem plF_cut {X : Nat} {p : Int32} {d : Nat} : ∀ (k a b : Nat), (∀ j, a + k ≤ j → j < a + k + d → inX X j = false) → plF X p (k + d) a b = plF X p k a b := by
  intro k
  induction k with
  | zero =>
    intro a b h
    rw [Nat.zero_add]
    exact plF_none d a b (fun j h1 h2 => h j (by omega) (by omega))
  | succ k ih =>
    intro a b h
    rw [show k + 1 + d = (k + d) + 1 by omega, plF_s, plF_s, ih (a + 1) b (fun j h1 h2 => h j (by omega) (by omega)), ih (a + 1) (b + 1) (fun j h1 h2 => h j (by omega) (by omega))]
theorem arcInPlace_L {X : Nat} (hX : X < 2 ^ 62) {p : Int32} : ∀ (k m a b : Nat), a + k = 60 → k < m → f_X11_arcInPlace_L5 (lN X) p (some (-1)) m (nI b) (nI a) = some (plF X p k a b) := by
  intro k
  induction k with
  | zero =>
    intro m a b e1 hm
    obtain ⟨m, rfl⟩ : ∃ k, m = k + 1 := ⟨m - 1, by omega⟩
    unfold f_X11_arcInPlace_L5
    rw [if_pos (show (60 : Int32) ≤ nI a from (nI_leI (a := 60) (by decide) (by omega)).mpr (by omega))]
    rfl
  | succ k ih =>
    intro m a b e1 hm
    obtain ⟨m, rfl⟩ : ∃ k, m = k + 1 := ⟨m - 1, by omega⟩
    unfold f_X11_arcInPlace_L5
    rw [if_neg (show ¬ (60 : Int32) ≤ nI a from fun h => by rw [show (60 : Int32) = nI 60 from rfl, nI_leI (by decide) (by omega)] at h; omega), plF_s, nI_1, nI_1]
    have hz := lgc0 (X := X) (i := a) hX (by omega)
    cases c : inX X a with
    | false =>
      rw [if_pos (hz.mpr c), if_neg (by decide)]
      exact ih m (a + 1) b (by omega) (by omega)
    | true =>
      rw [if_neg (fun h => by rw [hz.mp h] at c; cases c), if_pos rfl]
      by_cases d : nI b = p
      · rw [if_pos d, if_pos d]
      · rw [if_neg d, if_neg d]
        exact ih m (a + 1) (b + 1) (by omega) (by omega)
theorem arcInPlace_eq {F : Nat} (hF : 100000 ≤ F) {G : Gr} (hW : Wf G) {X : Nat} (hX : X < 2 ^ 60) (hin : ∀ i, i < 60 → inX X i = true → i < md G) (p : Int32) : f_X11_arcInPlace F (lN X) p = some (plF X p (md G) 0 0) := by
  have h60 := hW.2.1
  unfold f_X11_arcInPlace
  simp only [jn]
  rw [z32, arcInPlace_L (X := X) (by omega) 60 F 0 0 (by omega) (by omega)]
  have := plF_cut (X := X) (p := p) (d := 60 - md G) (md G) 0 0 (fun j h1 h2 => by
    cases c : inX X j with
    | false => rfl
    | true => have := hin j (by omega) c; omega)
  rw [show md G + (60 - md G) = 60 by omega] at this
  rw [this]
theorem joinArc_L {G : Gr} (hW : Wf G) {ij : Nat → Int32} {X : Nat} (h : ∀ j, j < md G → ij j = if inX X j = true then 1 else 0) {p : Int32} : ∀ (k m a b : Nat), a + k = md G → k < m → f_X12_joinArc_L14 (nI (md G)) ij p (some (-1)) m (nI b) (nI a) = some (plF X p k a b) := by
  have h60 := hW.2.1
  intro k
  induction k with
  | zero =>
    intro m a b e1 hm
    obtain ⟨m, rfl⟩ : ∃ k, m = k + 1 := ⟨m - 1, by omega⟩
    unfold f_X12_joinArc_L14
    rw [if_pos (by rw [nI_leI (by omega) (by omega)]; omega)]
    rfl
  | succ k ih =>
    intro m a b e1 hm
    obtain ⟨m, rfl⟩ : ∃ k, m = k + 1 := ⟨m - 1, by omega⟩
    unfold f_X12_joinArc_L14
    rw [if_neg (fun h => by rw [nI_leI (by omega) (by omega)] at h; omega), rd_nI (by omega) (by decide), h a (by omega), plF_s, nI_1, nI_1]
    cases c : inX X a with
    | false =>
      rw [if_neg (show ¬ (false = true) by decide), if_pos (show (0 : Int32) = 0 from rfl), if_neg (show ¬ (false = true) by decide)]
      exact ih m (a + 1) b (by omega) (by omega)
    | true =>
      rw [if_pos (show true = true from rfl), if_neg (show ¬ (1 : Int32) = 0 by decide), if_pos (show true = true from rfl)]
      by_cases d : nI b = p
      · rw [if_pos d, if_pos d]
      · rw [if_neg d, if_neg d]
        exact ih m (a + 1) (b + 1) (by omega) (by omega)
theorem coverArc_L {G : Gr} (hW : Wf G) (k1 k2 k3 k4 k5 k6 : Int32) (q1 q2 q3 q4 q5 q6 q7 q8 q9 q10 q11 q12 q13 q14 q15 : Nat → Int32) {X : Nat} (h : ∀ j, j < md G → q12 j = if inX X j = true then 1 else 0) {p : Int32} : ∀ (k m a b : Nat), a + k = md G → k < m → f_X12_coverArc_L18 (nI (md G)) p k1 k2 k3 k4 k5 k6 q1 q2 q3 q4 q5 q6 q7 q8 q9 q10 q11 q12 q13 q14 q15 (some (-1, k1, k2, k3, k4, k5, k6, q1, q2, q3, q4, q5, q6, q7, q8, q9, q10, q11, q12, q13, q14, q15)) m (nI b) (nI a) = some (plF X p k a b, k1, k2, k3, k4, k5, k6, q1, q2, q3, q4, q5, q6, q7, q8, q9, q10, q11, q12, q13, q14, q15) := by
  have h60 := hW.2.1
  intro k
  induction k with
  | zero =>
    intro m a b e1 hm
    obtain ⟨m, rfl⟩ : ∃ k, m = k + 1 := ⟨m - 1, by omega⟩
    unfold f_X12_coverArc_L18
    rw [if_pos (by rw [nI_leI (by omega) (by omega)]; omega)]
    rfl
  | succ k ih =>
    intro m a b e1 hm
    obtain ⟨m, rfl⟩ : ∃ k, m = k + 1 := ⟨m - 1, by omega⟩
    unfold f_X12_coverArc_L18
    rw [if_neg (fun h => by rw [nI_leI (by omega) (by omega)] at h; omega), rd_nI (by omega) (by decide), h a (by omega), plF_s, nI_1, nI_1]
    cases c : inX X a with
    | false =>
      rw [if_neg (show ¬ (false = true) by decide), if_pos (show (0 : Int32) = 0 from rfl), if_neg (show ¬ (false = true) by decide)]
      exact ih m (a + 1) b (by omega) (by omega)
    | true =>
      rw [if_pos (show true = true from rfl), if_neg (show ¬ (1 : Int32) = 0 by decide), if_pos (show true = true from rfl)]
      by_cases d : nI b = p
      · rw [if_pos d, if_pos d]
      · rw [if_neg d, if_neg d]
        exact ih m (a + 1) (b + 1) (by omega) (by omega)
def plN (B : Nat) (p : Int32) : Nat → Nat → Nat → Int32
  | 0, _, _ => -1
  | k + 1, a, b => if B.testBit a = true then (if nI b = p then nI a else plN B p k (a + 1) (b + 1)) else plN B p k (a + 1) b
theorem plN_s (B : Nat) (p : Int32) (k a b : Nat) : plN B p (k + 1) a b = if B.testBit a = true then (if nI b = p then nI a else plN B p k (a + 1) (b + 1)) else plN B p k (a + 1) b := rfl
theorem plN_none {B : Nat} {p : Int32} : ∀ (k a b : Nat), (∀ j, a ≤ j → j < a + k → B.testBit j = false) → plN B p k a b = -1 := by
  intro k
  induction k with
  | zero => intro a b _; rfl
  | succ k ih =>
    intro a b h
    rw [plN_s, h a (Nat.le_refl _) (by omega), if_neg (by decide)]
    exact ih (a + 1) b (fun j h1 h2 => h j (by omega) (by omega))
theorem plN_cut {B : Nat} {p : Int32} {d : Nat} : ∀ (k a b : Nat), (∀ j, a + k ≤ j → j < a + k + d → B.testBit j = false) → plN B p (k + d) a b = plN B p k a b := by
  intro k
  induction k with
  | zero =>
    intro a b h
    rw [Nat.zero_add]
    exact plN_none d a b (fun j h1 h2 => h j (by omega) (by omega))
  | succ k ih =>
    intro a b h
    rw [show k + 1 + d = (k + d) + 1 by omega, plN_s, plN_s, ih (a + 1) b (fun j h1 h2 => h j (by omega) (by omega)), ih (a + 1) (b + 1) (fun j h1 h2 => h j (by omega) (by omega))]
theorem nodeInPlace_L {B : Nat} (hB : B < 65536) {p : Int32} : ∀ (k m a b : Nat), a + k = 16 → k < m → f_X11_nodeInPlace_L4 (nI B) p (some (-1)) m (nI b) (nI a) = some (plN B p k a b) := by
  intro k
  induction k with
  | zero =>
    intro m a b e1 hm
    obtain ⟨m, rfl⟩ : ∃ k, m = k + 1 := ⟨m - 1, by omega⟩
    unfold f_X11_nodeInPlace_L4
    rw [if_pos ((le16 (by omega)).mpr (by omega))]
    rfl
  | succ k ih =>
    intro m a b e1 hm
    obtain ⟨m, rfl⟩ : ∃ k, m = k + 1 := ⟨m - 1, by omega⟩
    unfold f_X11_nodeInPlace_L4
    rw [if_neg (fun h => by rw [le16 (by omega)] at h; omega), has_nI (by omega) (by omega), plN_s, nI_1, nI_1]
    cases c : B.testBit a with
    | false =>
      rw [if_neg (show ¬ (false = true) by decide), if_pos (show (0 : Int32) = 0 from rfl), if_neg (show ¬ (false = true) by decide)]
      exact ih m (a + 1) b (by omega) (by omega)
    | true =>
      rw [if_pos (show true = true from rfl), if_neg (show ¬ (1 : Int32) = 0 by decide), if_pos (show true = true from rfl)]
      by_cases d : nI b = p
      · rw [if_pos d, if_pos d]
      · rw [if_neg d, if_neg d]
        exact ih m (a + 1) (b + 1) (by omega) (by omega)
theorem nodeInPlace_eq {F : Nat} (hF : 100000 ≤ F) {G : Gr} (hW : Wf G) {B : Nat} (hB : B < 65536) (hin : ∀ i, B.testBit i = true → i < nd G) (p : Int32) : f_X11_nodeInPlace F (nI B) p = some (plN B p (nd G) 0 0) := by
  have hn := hW.1
  unfold f_X11_nodeInPlace
  simp only [jn]
  rw [z32, nodeInPlace_L hB 16 F 0 0 (by omega) (by omega)]
  have := plN_cut (B := B) (p := p) (d := 16 - nd G) (nd G) 0 0 (fun j h1 h2 => by
    cases c : B.testBit j with
    | false => rfl
    | true => have := hin j c; omega)
  rw [show nd G + (16 - nd G) = 16 by omega] at this
  rw [this]
theorem holdNode_L {G : Gr} (hW : Wf G) {B : Nat} (hB : B < 65536) (k1 k2 k3 k4 k5 : Int32) (q1 q2 q3 q4 q5 q6 q7 q8 q9 q10 q11 q12 q13 q14 q15 : Nat → Int32) {p : Int32} : ∀ (k m a b : Nat), a + k = nd G → k < m → f_X12_holdNode_L8 (nI (nd G)) p k1 k2 k3 k4 k5 (nI B) q1 q2 q3 q4 q5 q6 q7 q8 q9 q10 q11 q12 q13 q14 q15 (some (-1, k1, k2, k3, k4, k5, nI B, q1, q2, q3, q4, q5, q6, q7, q8, q9, q10, q11, q12, q13, q14, q15)) m (nI b) (nI a) = some (plN B p k a b, k1, k2, k3, k4, k5, nI B, q1, q2, q3, q4, q5, q6, q7, q8, q9, q10, q11, q12, q13, q14, q15) := by
  have hn := hW.1
  intro k
  induction k with
  | zero =>
    intro m a b e1 hm
    obtain ⟨m, rfl⟩ : ∃ k, m = k + 1 := ⟨m - 1, by omega⟩
    unfold f_X12_holdNode_L8
    rw [if_pos (by rw [nI_leI (by omega) (by omega)]; omega)]
    rfl
  | succ k ih =>
    intro m a b e1 hm
    obtain ⟨m, rfl⟩ : ∃ k, m = k + 1 := ⟨m - 1, by omega⟩
    unfold f_X12_holdNode_L8
    rw [if_neg (fun h => by rw [nI_leI (by omega) (by omega)] at h; omega), bitv_nI (by omega) (by omega), plN_s, nI_1, nI_1]
    cases c : B.testBit a with
    | false =>
      rw [if_neg (show ¬ (false = true) by decide), if_neg (show ¬ (0 : Int32) = 1 by decide), if_neg (show ¬ (false = true) by decide)]
      exact ih m (a + 1) b (by omega) (by omega)
    | true =>
      rw [if_pos (show true = true from rfl), if_pos (show (1 : Int32) = 1 from rfl), if_pos (show true = true from rfl)]
      by_cases d : nI b = p
      · rw [if_pos d, if_pos d]
      · rw [if_neg d, if_neg d]
        exact ih m (a + 1) (b + 1) (by omega) (by omega)
