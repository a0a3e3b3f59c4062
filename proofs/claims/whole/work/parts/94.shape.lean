/-! ===== shape: how many are beside, how many pieces are odd ===== -/
theorem pcF_s (k x : Nat) : pcF (k + 1) x = pcF k x + if x.testBit k = true then 1 else 0 := by
  rw [pcF_add]
  show pcF k x + (x / 2 ^ k % 2 + 0) = _
  rw [bit_dm]
  rcases Nat.mod_two_eq_zero_or_one (x / 2 ^ k) with h | h <;> rw [h] <;> rfl
theorem pcF_top {x n : Nat} (h : ∀ i, n ≤ i → x.testBit i = false) : ∀ j, pcF (n + j) x = pcF n x := by
  intro j
  induction j with
  | zero => rfl
  | succ j ih => rw [← Nat.add_assoc, pcF_s, h (n + j) (by omega), ih]; rfl
abbrev K22 : Type := Int32 × Int32 × Int32 × Int32 × Int32 × Int32 × Int32 × (Nat → Int32) × (Nat → Int32) × (Nat → Int32) × (Nat → Int32) × (Nat → Int32) × (Nat → Int32) × (Nat → Int32) × (Nat → Int32) × (Nat → Int32) × (Nat → Int32) × (Nat → Int32) × (Nat → Int32) × (Nat → Int32) × (Nat → Int32) × (Nat → Int32)
theorem shape23_L {G : Gr} (hW : Wf G) {B : Nat} {so : Nat → Int32} (hs : ∀ v, v < nd G → (so v = 1 ↔ B.testBit v = true)) {kk : Int32 → Option K22} :
    ∀ (k m v : Nat), v + k = nd G → k < m → f_X12_shape_L23 (nI (nd G)) so kk m (nI (pcF v B)) (nI v) = kk (nI (pcF (nd G) B)) := by
  have hn := hW.1
  intro k
  induction k with
  | zero =>
    intro m v e1 hm
    obtain ⟨m, rfl⟩ : ∃ k, m = k + 1 := ⟨m - 1, by omega⟩
    unfold f_X12_shape_L23
    rw [if_pos (by rw [nI_leI (by omega) (by omega)]; omega), show nd G = v by omega]
  | succ k ih =>
    intro m v e1 hm
    obtain ⟨m, rfl⟩ : ∃ k, m = k + 1 := ⟨m - 1, by omega⟩
    have hsv := hs v (by omega)
    unfold f_X12_shape_L23
    rw [if_neg (fun h => by rw [nI_leI (by omega) (by omega)] at h; omega), rd_nI (by omega) (by decide)]
    simp only [jn]
    have ih' := ih m (v + 1) (by omega) (by omega)
    rw [pcF_s] at ih'
    rw [nI_1 v]
    by_cases c : B.testBit v = true
    · rw [if_pos (hsv.mpr c), nI_1]
      rw [if_pos c] at ih'
      exact ih'
    · rw [if_neg (fun h => c (hsv.mp h)), z32, nI_add]
      rw [if_neg c] at ih'
      exact ih'
/-- how many of the first k nodes are in S and have the number p -/
def cq (S : Nat) (part : Nat → Nat) (p : Nat) : Nat → Nat
  | 0 => 0
  | k + 1 => cq S part p k + if S.testBit k = true ∧ part k = p then 1 else 0
theorem cq_s (S : Nat) (part : Nat → Nat) (p k : Nat) : cq S part p (k + 1) = cq S part p k + if S.testBit k = true ∧ part k = p then 1 else 0 := rfl
theorem cq_le (S : Nat) (part : Nat → Nat) (p : Nat) : ∀ k, cq S part p k ≤ k := by
  intro k
  induction k with
  | zero => exact Nat.le_refl _
  | succ k ih => rw [cq_s]; split <;> omega
theorem cq_congr {S S' : Nat} {part part' : Nat → Nat} {p p' : Nat} (h : ∀ u, (S.testBit u = true ∧ part u = p) ↔ (S'.testBit u = true ∧ part' u = p')) : ∀ k, cq S part p k = cq S' part' p' k := by
  intro k
  induction k with
  | zero => rfl
  | succ k ih =>
    rw [cq_s, cq_s, ih]
    by_cases c : S.testBit k = true ∧ part k = p
    · rw [if_pos c, if_pos ((h k).mp c)]
    · rw [if_neg c, if_neg (fun x => c ((h k).mpr x))]
def tq (S : Nat) (part : Nat → Nat) (n : Nat) : Nat → Nat
  | 0 => 0
  | p + 1 => tq S part n p + cq S part p n % 2
theorem tq_s (S : Nat) (part : Nat → Nat) (n p : Nat) : tq S part n (p + 1) = tq S part n p + cq S part p n % 2 := rfl
theorem tq_congr {S S' : Nat} {part part' : Nat → Nat} {n : Nat} : ∀ j, (∀ p, p < j → cq S part p n = cq S' part' p n) → tq S part n j = tq S' part' n j := by
  intro j
  induction j with
  | zero => intro _; rfl
  | succ j ih =>
    intro h
    rw [tq_s, tq_s, ih (fun p hp => h p (by omega)), h j (by omega)]
theorem Rch_trans {G : Gr} {W a b c : Nat} (h : Rch G W a b) (h2 : Rch G W b c) : Rch G W a c := by
  obtain ⟨n, h2⟩ := h2
  have : ∀ n c, Wk G W b n c → Rch G W a c := by
    intro n
    induction n with
    | zero => intro c hc; rw [show c = b from hc]; exact h
    | succ n ih =>
      rintro c ⟨w, h1, h2, h3⟩
      exact Rch_step (ih w h1) h2 h3
  exact this n c h2
theorem Rch_symm {G : Gr} (hW : Wf G) {W a b : Nat} (ha : W.testBit a = true) (h : Rch G W a b) : Rch G W b a := by
  obtain ⟨n, h⟩ := h
  have : ∀ n b, Wk G W a n b → Rch G W b a := by
    intro n
    induction n with
    | zero => intro b hb; rw [show b = a from hb]; exact ⟨0, rfl⟩
    | succ n ih =>
      rintro b ⟨w, h1, h2, h3⟩
      have hw := Rch_W ha ⟨n, h1⟩
      have h4 : Rch G W b w := ⟨1, b, rfl, by rw [adj_sym hW]; exact h2, hw⟩
      exact Rch_trans h4 (ih w h1)
  exact this n b h
theorem spl_closed {G : Gr} {W : Nat} {cm : Nat → Nat} (h : CM G W cm) : ∀ k u w, (spl W cm k).1.testBit u = true → Rch G W u w → (spl W cm k).1.testBit w = true := by
  intro k
  induction k with
  | zero => intro u w hu; unfold spl at hu; rw [Nat.zero_testBit] at hu; cases hu
  | succ k ih =>
    intro u w hu hr
    by_cases c : W.testBit k = true ∧ (spl W cm k).1.testBit k = false
    · rw [spl_new c.1 c.2] at hu ⊢
      have hu : ((spl W cm k).1 ||| cm k).testBit u = true := hu
      show ((spl W cm k).1 ||| cm k).testBit w = true
      rw [Nat.testBit_or, Bool.or_eq_true] at hu ⊢
      rcases hu with hu | hu
      · exact Or.inl (ih u w hu hr)
      · exact Or.inr ((h.2 k c.1 w).mpr (Rch_trans ((h.2 k c.1 u).mp hu) hr))
    · rw [spl_old c] at hu ⊢; exact ih u w hu hr
theorem cq_mask {M : Nat} {p : Nat} : ∀ k, cq M (fun _ => p) p k = pcF k M := by
  intro k
  induction k with
  | zero => rfl
  | succ k ih =>
    rw [cq_s, pcF_s, ih]
    by_cases c : M.testBit k = true
    · rw [if_pos ⟨c, rfl⟩, if_pos c]
    · rw [if_neg (fun x => c x.1), if_neg c]
theorem spl_odd {G : Gr} (hW : Wf G) {W : Nat} {cm : Nat → Nat} (h : CM G W cm) : ∀ k, tq (spl W cm k).1 (spl W cm k).2.1 (nd G) (spl W cm k).2.2.1 = (spl W cm k).2.2.2 := by
  have hn := hW.1
  intro k
  induction k with
  | zero => rfl
  | succ k ih =>
    by_cases c : W.testBit k = true ∧ (spl W cm k).1.testBit k = false
    · have hb := spl_bd (W := W) (cm := cm) k
      have hdis : ∀ u, (spl W cm k).1.testBit u = true → (cm k).testBit u = true → False := by
        intro u h1 h2
        have h3 := (h.2 k c.1 u).mp h2
        have h4 := spl_closed h k u k h1 (Rch_symm hW c.1 h3)
        rw [c.2] at h4
        cases h4
      have hM16 := CM_lt hW h c.1
      rw [spl_new c.1 c.2]
      show tq ((spl W cm k).1 ||| cm k) (fun u => if (cm k).testBit u = true then (spl W cm k).2.2.1 else (spl W cm k).2.1 u) (nd G) ((spl W cm k).2.2.1 + 1) = (spl W cm k).2.2.2 + pcF 16 (cm k) % 2
      rw [tq_s, ← ih]
      congr 1
      · apply tq_congr
        intro p hp
        apply cq_congr
        intro u
        rw [Nat.testBit_or, Bool.or_eq_true]
        by_cases d : (cm k).testBit u = true
        · rw [if_pos d]
          constructor
          · rintro ⟨-, h2⟩; omega
          · rintro ⟨h1, -⟩; exact absurd d (hdis u h1)
        · rw [if_neg d]
          constructor
          · rintro ⟨h1 | h1, h2⟩
            · exact ⟨h1, h2⟩
            · exact absurd h1 d
          · rintro ⟨h1, h2⟩; exact ⟨Or.inl h1, h2⟩
      · have e1 : cq ((spl W cm k).1 ||| cm k) (fun u => if (cm k).testBit u = true then (spl W cm k).2.2.1 else (spl W cm k).2.1 u) (spl W cm k).2.2.1 (nd G) = cq (cm k) (fun _ => (spl W cm k).2.2.1) (spl W cm k).2.2.1 (nd G) := by
          apply cq_congr
          intro u
          rw [Nat.testBit_or, Bool.or_eq_true]
          by_cases d : (cm k).testBit u = true
          · rw [if_pos d]
            exact ⟨fun _ => ⟨d, rfl⟩, fun _ => ⟨Or.inr d, rfl⟩⟩
          · rw [if_neg d]
            constructor
            · rintro ⟨h1 | h1, h2⟩
              · have := hb.2.2 u h1; omega
              · exact absurd h1 d
            · rintro ⟨h1, -⟩; exact absurd h1 d
        have e2 := pcF_top (x := cm k) (n := nd G) (fun i hi => by
          cases x : (cm k).testBit i with
          | false => rfl
          | true => have := h.1 i (CM_bit h c.1 x); omega) (16 - nd G)
        rw [show nd G + (16 - nd G) = 16 by omega] at e2
        rw [e1, cq_mask, e2]
    · rw [spl_old c]; exact ih
theorem shape78_L {G : Gr} (hW : Wf G) {W : Nat} {cm : Nat → Nat} (hcm : CM G W cm) {so ps : Nat → Int32} (hs : ∀ v, v < nd G → (so v = 1 ↔ W.testBit v = false)) (hp : PcI G W cm (nd G) ps) {p : Nat} (hp16 : p < 100) {kk : Int32 → Option K22} :
    ∀ (k m v : Nat), v + k = nd G → k < m → f_X12_shape_L78 (nI (nd G)) so ps (nI p) kk m (nI (cq (spl W cm (nd G)).1 (spl W cm (nd G)).2.1 p v)) (nI v) = kk (nI (cq (spl W cm (nd G)).1 (spl W cm (nd G)).2.1 p (nd G))) := by
  have hn := hW.1
  intro k
  induction k with
  | zero =>
    intro m v e1 hm
    obtain ⟨m, rfl⟩ : ∃ k, m = k + 1 := ⟨m - 1, by omega⟩
    unfold f_X12_shape_L78
    rw [if_pos (by rw [nI_leI (by omega) (by omega)]; omega), show cq (spl W cm (nd G)).1 (spl W cm (nd G)).2.1 p v = cq (spl W cm (nd G)).1 (spl W cm (nd G)).2.1 p (nd G) by rw [show v = nd G by omega]]
  | succ k ih =>
    intro m v e1 hm
    obtain ⟨m, rfl⟩ : ∃ k, m = k + 1 := ⟨m - 1, by omega⟩
    have hsv := hs v (by omega)
    have hb := spl_bd (W := W) (cm := cm) (nd G)
    unfold f_X12_shape_L78
    rw [if_neg (fun h => by rw [nI_leI (by omega) (by omega)] at h; omega), rd_nI (by omega) (by decide)]
    simp only [jn]
    rw [rd_nI (by omega) (by decide), hp v (by omega)]
    have ih' := ih m (v + 1) (by omega) (by omega)
    rw [cq_s] at ih'
    rw [nI_1 v]
    cases c : W.testBit v with
    | false =>
      have c2 : ¬ (spl W cm (nd G)).1.testBit v = true := fun h => by have := spl_in hcm _ v h; rw [c] at this; cases this
      rw [if_pos (hsv.mpr c), z32, nI_add]
      rw [if_neg (fun h => c2 h.1)] at ih'
      exact ih'
    | true =>
      have c2 := spl_all hcm (nd G) v (by omega) c
      have hlt := hb.2.2 v c2
      rw [if_neg (fun h => by rw [hsv.mp h] at c; cases c), if_pos c2]
      by_cases d : (spl W cm (nd G)).2.1 v = p
      · rw [if_pos (by rw [d]), nI_1]
        rw [if_pos ⟨c2, d⟩] at ih'
        exact ih'
      · rw [if_neg (fun h => d ((nI_eq (by omega) (by omega)).mp h)), z32, nI_add]
        rw [if_neg (fun h => d h.2)] at ih'
        exact ih'
theorem shape64_L {F : Nat} (hF : 100000 ≤ F) {G : Gr} (hW : Wf G) {W : Nat} {cm : Nat → Nat} (hcm : CM G W cm) {so ps : Nat → Int32} (hs : ∀ v, v < nd G → (so v = 1 ↔ W.testBit v = false)) (hp : PcI G W cm (nd G) ps) {kk : Int32 → Option K22} :
    ∀ (k m p : Nat), p + k = (spl W cm (nd G)).2.2.1 → k < m → f_X12_shape_L64 F (nI (nd G)) (nI (spl W cm (nd G)).2.2.1) so ps kk m (nI (tq (spl W cm (nd G)).1 (spl W cm (nd G)).2.1 (nd G) p)) (nI p) = kk (nI (spl W cm (nd G)).2.2.2) := by
  have hn := hW.1
  have hb := spl_bd (W := W) (cm := cm) (nd G)
  intro k
  induction k with
  | zero =>
    intro m p e1 hm
    obtain ⟨m, rfl⟩ : ∃ k, m = k + 1 := ⟨m - 1, by omega⟩
    unfold f_X12_shape_L64
    rw [if_pos (by rw [nI_leI (by omega) (by omega)]; omega), ← spl_odd hW hcm (nd G), show p = (spl W cm (nd G)).2.2.1 by omega]
  | succ k ih =>
    intro m p e1 hm
    obtain ⟨m, rfl⟩ : ∃ k, m = k + 1 := ⟨m - 1, by omega⟩
    unfold f_X12_shape_L64
    rw [if_neg (fun h => by rw [nI_leI (by omega) (by omega)] at h; omega)]
    simp only [jn]
    have h78 := shape78_L hW hcm hs hp (p := p) (by omega) (kk := fun x => f_X12_shape_L64 F (nI (nd G)) (nI (spl W cm (nd G)).2.2.1) so ps kk m (nI (tq (spl W cm (nd G)).1 (spl W cm (nd G)).2.1 (nd G) p) + (x &&& 1)) (nI p + 1)) (nd G) F 0 (by omega) (by omega)
    refine Eq.trans h78 ?_
    have ih' := ih m (p + 1) (by omega) (by omega)
    rw [tq_s] at ih'
    rw [nI_1, show (1 : Int32) = nI 1 from rfl, nx_and, show cq (spl W cm (nd G)).1 (spl W cm (nd G)).2.1 p (nd G) &&& 1 = cq (spl W cm (nd G)).1 (spl W cm (nd G)).2.1 p (nd G) % 2 from Nat.and_one_is_mod _, nI_add]
    exact ih'
