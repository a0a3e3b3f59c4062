/-! ===== the reference: least, bits, all, valueOf, findWorth ===== -/
theorem bitv_nI {a j : Nat} (ha : a < 2 ^ 31) (hj : j < 31) : ((nI a >>> (nI j &&& 31)) &&& 1) = if a.testBit j then 1 else 0 := by
  have h1 : a / 2 ^ j < 2 ^ 31 := Nat.lt_of_le_of_lt (Nat.div_le_self _ _) ha
  rw [shr_nI ha hj, and1_nI _ (by omega), bit_dm]
  have h2 : a / 2 ^ j % 2 = 0 ∨ a / 2 ^ j % 2 = 1 := by omega
  rcases h2 with h | h <;> rw [h] <;> rfl
theorem mleast_L {s : Nat} (h0 : 0 < s) (hs : s < 65536) {kk : Int32 → Option Int32} : ∀ (d m v : Nat), v + d = low 16 s → d < m → f_X12_least_L2 (nI s) kk m (nI v) = kk (nI (low 16 s)) := by
  have hl := low_lt (k := 16) h0 hs
  intro d
  induction d with
  | zero =>
    intro m v e1 hm
    obtain ⟨m, rfl⟩ : ∃ k, m = k + 1 := ⟨m - 1, by omega⟩
    have : v = low 16 s := by omega
    subst this
    unfold f_X12_least_L2
    rw [bitv_nI (by omega) (by omega), if_pos (low_bit (k := 16) h0 hs), if_neg (by decide)]
  | succ d ih =>
    intro m v e1 hm
    obtain ⟨m, rfl⟩ : ∃ k, m = k + 1 := ⟨m - 1, by omega⟩
    unfold f_X12_least_L2
    rw [bitv_nI (by omega) (by omega), low_min (k := 16) h0 hs (show v < low 16 s by omega), if_neg (show ¬ (false = true) by decide), if_pos rfl, nI_1]
    exact ih m (v + 1) (by omega) (by omega)
theorem mleast_eq {F : Nat} (hF : 100000 ≤ F) {s : Nat} (h0 : 0 < s) (hs : s < 65536) : f_X12_least F (nI s) = some (nI (low 16 s)) := by
  have hl := low_lt (k := 16) h0 hs
  unfold f_X12_least
  simp only [jn]
  rw [z32, mleast_L h0 hs (low 16 s) F 0 (by omega) (by omega)]
theorem mbits_L {s : Nat} (hs : s < 65536) {kk : Int32 → Option Int32} : ∀ (k m w c : Nat), w + k = 16 → k < m → f_X12_bits_L4 (nI s) kk m (nI c) (nI w) = kk (nI (c + pcF k (s / 2 ^ w))) := by
  intro k
  induction k with
  | zero =>
    intro m w c e1 hm
    obtain ⟨m, rfl⟩ : ∃ k, m = k + 1 := ⟨m - 1, by omega⟩
    unfold f_X12_bits_L4
    rw [if_pos ((le16 (by omega)).mpr (by omega))]
    rfl
  | succ k ih =>
    intro m w c e1 hm
    obtain ⟨m, rfl⟩ : ∃ k, m = k + 1 := ⟨m - 1, by omega⟩
    unfold f_X12_bits_L4
    have h1 : s / 2 ^ w < 2 ^ 31 := Nat.lt_of_le_of_lt (Nat.div_le_self _ _) (by omega)
    rw [if_neg (fun h => by rw [le16 (by omega)] at h; omega), shr_nI (by omega) (by omega), and1_nI _ (by omega), nI_add, nI_1, ih m (w + 1) _ (by omega) (by omega)]
    congr 2
    show c + s / 2 ^ w % 2 + pcF k (s / 2 ^ (w + 1)) = c + (s / 2 ^ w % 2 + pcF k (s / 2 ^ w / 2))
    rw [Nat.div_div_eq_div_mul, Nat.pow_succ]
    omega
theorem mbits_eq {F : Nat} (hF : 100000 ≤ F) {s : Nat} (hs : s < 65536) : f_X12_bits F (nI s) = some (nI (pcF 16 s)) := by
  have h := mbits_L hs (kk := fun x => some x) 16 F 0 0 (by omega) (by omega)
  unfold f_X12_bits
  simp only [jn]
  rw [z32, h, Nat.pow_zero, Nat.div_one, Nat.zero_add]
/-- the reference's cells of a graph -/
def MG (G : Gr) (nodes made : Int32) (fm tm wm am : Nat → Int32) : Prop := nodes = nI (nd G) ∧ made = nI (md G) ∧ ∀ i, i < md G → fm i = nI (fr G i) ∧ tm i = nI (tt G i) ∧ wm i = nI (wt G i) ∧ am i = if al G i = true then 1 else 0
theorem mall_eq {G : Gr} (hW : Wf G) : f_X12_all (nI (nd G)) = nI (allN G) := by
  unfold f_X12_all
  have := hW.1
  rw [shl_nI (by omega)]
  have h : 0 < 2 ^ nd G := Nat.two_pow_pos _
  obtain ⟨t, ht⟩ : ∃ t, 2 ^ nd G = t + 1 := ⟨2 ^ nd G - 1, by omega⟩
  unfold allN
  rw [ht, nI_pred]
  rfl
/-- the reference's value of an arc by its way -/
def vm (way : Nat) (w : Nat) : Int := if way = 0 then 1 else if way = 1 then (w : Int) * 100 - 1 else if way = 2 then -(w : Int) else (w : Int)
theorem vm_bd {way w : Nat} (hw : w ≤ 1000) : -1000 ≤ vm way w ∧ vm way w ≤ 100000 := by
  unfold vm
  split
  · omega
  · split
    · omega
    · split <;> omega
theorem valueOf_eq {wm : Nat → Int32} {way i w : Nat} (hw : w ≤ 1000) (h : way < 4) (hi : i < 60) (e : wm i = nI w) : ∃ r, f_X12_valueOf (nI way) (nI i) wm = some r ∧ r.toInt = vm way w := by
  have c : way = 0 ∨ way = 1 ∨ way = 2 ∨ way = 3 := by omega
  unfold f_X12_valueOf
  rw [rd_nI hi (by decide), rd_nI hi (by decide), rd_nI hi (by decide), e]
  rcases c with c | c | c | c <;> subst c
  · exact ⟨1, rfl, rfl⟩
  · refine ⟨nI w * 100 - 1, rfl, ?_⟩
    show (nI w * 100 - 1).toInt = (w : Int) * 100 - 1
    rw [show (100 : Int32) = nI 100 from rfl, pk_mul, show (1 : Int32) = nI 1 from rfl, pk_sub_toInt (by omega) (by omega)]
    omega
  · exact ⟨-nI w, rfl, sb_negT (by omega)⟩
  · exact ⟨nI w, rfl, nI_toInt (by omega)⟩
theorem cell2_nI (v u : Nat) : (16 * nI v) + nI u = nI (v * 16 + u) := by
  rw [show (16 : Int32) = nI 16 from rfl, pk_mul, nI_add, Nat.mul_comm]
/-- how many of the first k arcs join v and u -/
def cnt (G : Gr) : Nat → Nat → Nat → Nat
  | 0, _, _ => 0
  | i + 1, v, u => cnt G i v u + if al G i = true ∧ ((fr G i = v ∧ tt G i = u) ∨ (fr G i = u ∧ tt G i = v)) then 1 else 0
theorem cnt_s (G : Gr) (i v u : Nat) : cnt G (i + 1) v u = cnt G i v u + if al G i = true ∧ ((fr G i = v ∧ tt G i = u) ∨ (fr G i = u ∧ tt G i = v)) then 1 else 0 := rfl
/-- worth and near behind the first k arcs -/
def WT (G : Gr) (val : Nat → Int) (k : Nat) (near worth : Nat → Int32) : Prop := ∀ v u, v < 16 → u < 16 → near (v * 16 + u) = nI (cnt G k v u) ∧
  (((∀ i, i < k → al G i = true → ¬ Jn G i v u) ∧ worth (v * 16 + u) = -1000000000) ∨
  ∃ j, j < k ∧ al G j = true ∧ Jn G j v u ∧ (worth (v * 16 + u)).toInt = val j ∧ ∀ i, i < k → al G i = true → Jn G i v u → val i ≤ val j)
theorem worth0_L {kk : (Nat → Int32) → (Nat → Int32) → Option ((Nat → Int32) × (Nat → Int32))} : ∀ (k m j : Nat) (near worth : Nat → Int32), j + k = 256 → k < m → (∀ i, i < j → near i = 0 ∧ worth i = -1000000000) → ∃ near' worth', f_X12_findWorth_L2 kk m (nI j) near worth = kk near' worth' ∧ ∀ i, i < 256 → near' i = 0 ∧ worth' i = -1000000000 := by
  intro k
  induction k with
  | zero =>
    intro m j near worth e1 hm h
    obtain ⟨m, rfl⟩ : ∃ k, m = k + 1 := ⟨m - 1, by omega⟩
    refine ⟨near, worth, ?_, fun i hi => h i (by omega)⟩
    unfold f_X12_findWorth_L2
    rw [if_pos (show (256 : Int32) ≤ nI j from (nI_leI (a := 256) (by decide) (by omega)).mpr (by omega))]
  | succ k ih =>
    intro m j near worth e1 hm h
    obtain ⟨m, rfl⟩ : ∃ k, m = k + 1 := ⟨m - 1, by omega⟩
    obtain ⟨near', worth', h1, h2⟩ := ih m (j + 1) (va_up near j 0) (va_up worth j (-1000000000)) (by omega) (by omega) (fun i hi => by
      by_cases c : i = j
      · rw [c, up_s, up_s]; exact ⟨rfl, rfl⟩
      · rw [up_n c, up_n c]; exact h i (by omega))
    refine ⟨near', worth', ?_, h2⟩
    unfold f_X12_findWorth_L2
    rw [if_neg (show ¬ (256 : Int32) ≤ nI j from fun x => by have := (nI_leI (a := 256) (by decide) (by omega)).mp x; omega), wr_nI (by omega) (by decide), wr_nI (by omega) (by decide), nI_1]
    exact h1
