/-! ===== how many sets of pairs there are of each size (as longs) ===== -/
def smL (G : Gr) (g : Nat → Int64) (s : Nat) : Nat → Nat → Int64 → Int64
  | 0, _, acc => acc
  | k + 1, u, acc => smL G g s k (u + 1) (if (rst s).testBit u = true ∧ (adj G (low 16 s)).testBit u = true then acc + (nI (cnt G (md G) (low 16 s) u)).toInt64 * g (dif (rst s) (2 ^ u)) else acc)
theorem smL_s (G : Gr) (g : Nat → Int64) (s k u : Nat) (acc : Int64) : smL G g s (k + 1) u acc = smL G g s k (u + 1) (if (rst s).testBit u = true ∧ (adj G (low 16 s)).testBit u = true then acc + (nI (cnt G (md G) (low 16 s) u)).toInt64 * g (dif (rst s) (2 ^ u)) else acc) := rfl
theorem smL_none {G : Gr} {g : Nat → Int64} {s : Nat} : ∀ (k u : Nat) (acc : Int64), (∀ w, u ≤ w → (adj G (low 16 s)).testBit w = false) → smL G g s k u acc = acc := by
  intro k
  induction k with
  | zero => intro u acc _; rfl
  | succ k ih =>
    intro u acc h
    rw [smL_s, if_neg (fun x => by rw [h u (Nat.le_refl _)] at x; cases x.2)]
    exact ih (u + 1) acc (fun w hw => h w (by omega))
theorem smL_add {G : Gr} {g : Nat → Int64} {s : Nat} : ∀ (a b u : Nat) (acc : Int64), smL G g s (a + b) u acc = smL G g s b (u + a) (smL G g s a u acc) := by
  intro a
  induction a with
  | zero => intro b u acc; rw [Nat.zero_add]; rfl
  | succ a ih =>
    intro b u acc
    rw [show a + 1 + b = (a + b) + 1 by omega, smL_s, smL_s, ih, show u + 1 + a = u + (a + 1) by omega]
theorem smL_congr {G : Gr} {g g' : Nat → Int64} {s : Nat} (h : ∀ u, g (dif (rst s) (2 ^ u)) = g' (dif (rst s) (2 ^ u))) : ∀ (k u : Nat) (acc : Int64), smL G g s k u acc = smL G g' s k u acc := by
  intro k
  induction k with
  | zero => intro u acc; rfl
  | succ k ih => intro u acc; rw [smL_s, smL_s, h u, ih]
def cF (G : Gr) (g : Nat → Int64) : Nat → Nat → Int64
  | 0, _ => 0
  | f + 1, s => if s = 0 then 0 else smL G g s (15 - low 16 s) (low 16 s + 1) (cF G g f (rst s))
theorem cF_s (G : Gr) (g : Nat → Int64) (f s : Nat) : cF G g (f + 1) s = if s = 0 then 0 else smL G g s (15 - low 16 s) (low 16 s + 1) (cF G g f (rst s)) := rfl
theorem cF_fuel {G : Gr} {g : Nat → Int64} : ∀ (f f' s : Nat), s ≤ f → s ≤ f' → s < 65536 → cF G g f s = cF G g f' s := by
  intro f
  induction f with
  | zero =>
    intro f' s h1 h2 h3
    have : s = 0 := by omega
    subst this
    cases f' with
    | zero => rfl
    | succ f' => rw [cF_s, if_pos rfl]; rfl
  | succ f ih =>
    intro f' s h1 h2 h3
    cases f' with
    | zero =>
      have : s = 0 := by omega
      subst this
      rw [cF_s, if_pos rfl]; rfl
    | succ f' =>
      rw [cF_s, cF_s]
      by_cases c : s = 0
      · rw [if_pos c, if_pos c]
      · have := rst_lt (s := s) (by omega) h3
        rw [if_neg c, if_neg c, ih f' (rst s) (by omega) (by omega) (by omega)]
def ctN (G : Gr) : Nat → Nat → Int64
  | 0, _ => 1
  | k + 1, s => cF G (ctN G k) s s
theorem ctN_0 (G : Gr) (s : Nat) : ctN G 0 s = 1 := rfl
theorem ctN_z (G : Gr) (k : Nat) : ctN G (k + 1) 0 = 0 := rfl
theorem ctN_s (G : Gr) (k : Nat) {s : Nat} (h0 : 0 < s) (hs : s < 65536) : ctN G (k + 1) s = smL G (ctN G k) s (15 - low 16 s) (low 16 s + 1) (ctN G (k + 1) (rst s)) := by
  have hr := rst_lt h0 hs
  show cF G (ctN G k) s s = smL G (ctN G k) s (15 - low 16 s) (low 16 s + 1) (cF G (ctN G k) (rst s) (rst s))
  obtain ⟨f, hf⟩ : ∃ f, s = f + 1 := ⟨s - 1, by omega⟩
  have e : cF G (ctN G k) s s = cF G (ctN G k) (f + 1) s := by rw [← hf]
  rw [e, cF_s, if_neg (by omega), cF_fuel f (rst s) (rst s) (by omega) (Nat.le_refl _) (by omega)]
theorem cnt_pos {G : Gr} : ∀ (k v u : Nat), 0 < cnt G k v u ↔ ∃ i, i < k ∧ al G i = true ∧ Jn G i v u := by
  intro k
  induction k with
  | zero => intro v u; constructor
            · intro h; exact absurd h (Nat.lt_irrefl 0)
            · rintro ⟨i, h, -⟩; omega
  | succ k ih =>
    intro v u
    rw [cnt_s]
    by_cases c : al G k = true ∧ ((fr G k = v ∧ tt G k = u) ∨ (fr G k = u ∧ tt G k = v))
    · rw [if_pos c]
      exact ⟨fun _ => ⟨k, by omega, c.1, c.2⟩, fun _ => by omega⟩
    · rw [if_neg c, Nat.add_zero, ih]
      constructor
      · rintro ⟨i, h1, h2⟩; exact ⟨i, by omega, h2⟩
      · rintro ⟨i, h1, h2, h3⟩
        by_cases d : i = k
        · subst d; exact absurd ⟨h2, h3⟩ c
        · exact ⟨i, by omega, h2, h3⟩
theorem cnt_le {G : Gr} : ∀ (k v u : Nat), cnt G k v u ≤ k := by
  intro k
  induction k with
  | zero => intro v u; exact Nat.le_refl _
  | succ k ih => intro v u; rw [cnt_s]; have := ih v u; split <;> omega
theorem countArcs_L {G : Gr} (hW : Wf G) {nodes made : Int32} {one oth wts alv joined : Nat → Int32} (hC : CG G nodes made one oth wts alv joined) {kk : (Nat → Int32) → Option (Nat → Int32)} :
    ∀ (k m i : Nat) (sv : Nat → Int32), i + k = md G → k < m → (∀ v u, v < 16 → u < 16 → sv (v * 16 + u) = nI (cnt G i v u)) → ∃ sv', f_X1_countArcs_L10 made one oth alv kk m (nI i) sv = kk sv' ∧ ∀ v u, v < 16 → u < 16 → sv' (v * 16 + u) = nI (cnt G (md G) v u) := by
  have hn := hW.1
  have hm60 := hW.2.1
  obtain ⟨-, rfl, harc, -⟩ := hC
  intro k
  induction k with
  | zero =>
    intro m i sv e1 hm hs
    obtain ⟨m, rfl⟩ : ∃ k, m = k + 1 := ⟨m - 1, by omega⟩
    refine ⟨sv, ?_, by rw [show md G = i by omega]; exact hs⟩
    unfold f_X1_countArcs_L10
    rw [if_pos (by rw [nI_leI (by omega) (by omega)]; omega)]
  | succ k ih =>
    intro m i sv e1 hm hs
    obtain ⟨m, rfl⟩ : ∃ k, m = k + 1 := ⟨m - 1, by omega⟩
    obtain ⟨f1, f2, f3, f4⟩ := harc i (by omega)
    obtain ⟨w1, w2, w3, -⟩ := hW.2.2 i (by omega)
    unfold f_X1_countArcs_L10
    rw [if_neg (fun h => by rw [nI_leI (by omega) (by omega)] at h; omega), rd_nI (by omega) (by decide), f4, nI_1]
    by_cases c : al G i = true
    · rw [if_pos c, if_neg (by decide), rd_nI (by omega) (by decide), rd_nI (by omega) (by decide), f1, f2, cell_nI, rd_nI (by omega) (by decide), wr_nI (by omega) (by decide), rd_nI (by omega) (by decide), rd_nI (by omega) (by decide), f1, f2, cell_nI, rd_nI (by omega) (by decide), wr_nI (by omega) (by decide), up_n (by omega), hs _ _ (by omega) (by omega), hs _ _ (by omega) (by omega), nI_1, nI_1]
      refine ih m (i + 1) _ (by omega) (by omega) (fun v u hv hu => ?_)
      rw [cnt_s]
      by_cases d1 : v * 16 + u = tt G i * 16 + fr G i
      · have e1 : v = tt G i := by omega
        have e2 : u = fr G i := by omega
        rw [d1, up_s, if_pos ⟨c, Or.inr ⟨e2.symm, e1.symm⟩⟩, e1, e2]
      · rw [up_n d1]
        by_cases d2 : v * 16 + u = fr G i * 16 + tt G i
        · have e1 : v = fr G i := by omega
          have e2 : u = tt G i := by omega
          rw [d2, up_s, if_pos ⟨c, Or.inl ⟨e1.symm, e2.symm⟩⟩, e1, e2]
        · rw [up_n d2, hs v u hv hu, if_neg (fun h => by rcases h.2 with ⟨x, y⟩ | ⟨x, y⟩ <;> omega), Nat.add_zero]
    · rw [if_neg c, if_pos rfl]
      refine ih m (i + 1) _ (by omega) (by omega) (fun v u hv hu => ?_)
      rw [cnt_s, if_neg (fun h => c h.1), Nat.add_zero]
      exact hs v u hv hu
theorem countArcs_eq {F : Nat} (hF : 100000 ≤ F) {G : Gr} (hW : Wf G) {nodes made : Int32} {one oth wts alv joined : Nat → Int32} (hC : CG G nodes made one oth wts alv joined) (sv : Nat → Int32) : ∃ sv', f_X1_countArcs F made one oth alv sv = some sv' ∧ ∀ v u, v < 16 → u < 16 → sv' (v * 16 + u) = nI (cnt G (md G) v u) := by
  have hm60 := hW.2.1
  obtain ⟨f', a1, a2⟩ := fillI (F := F) 0 (n := 256) (by decide) (by omega) sv
  unfold f_X1_countArcs
  rw [a1, bS]
  simp only [jn]
  rw [z32]
  exact countArcs_L hW hC (kk := fun x => some x) (md G) F 0 f' (by omega) (by omega) (fun v u hv hu => by rw [a2 _ (by omega)]; rfl)
theorem add_L {p q mo : Nat} (hp : p < 2584) (hq : q < 2584) (hpq : p ≠ q) (hmo : mo ≤ 1) {t : Int64} {kk : (Nat → Int64) → Option (Nat → Int64)} :
    ∀ (k m z : Nat) (nu : Nat → Int64), z + k = 9 → mo ≤ z → k < m → ∃ nu', f_X1_add_L9 (nI p) (nI q) (nI mo) t kk m (nI z) nu = kk nu' ∧ (∀ j, j < 9 → nu' (p * 9 + j) = if z ≤ j then nu (p * 9 + j) + t * nu (q * 9 + j - mo) else nu (p * 9 + j)) ∧ ∀ i, (i < p * 9 ∨ p * 9 + 9 ≤ i) → nu' i = nu i := by
  intro k
  induction k with
  | zero =>
    intro m z nu e1 hz hm
    obtain ⟨m, rfl⟩ : ∃ k, m = k + 1 := ⟨m - 1, by omega⟩
    refine ⟨nu, ?_, fun j hj => by rw [if_neg (by omega)], fun i _ => rfl⟩
    unfold f_X1_add_L9
    rw [if_pos (show (9 : Int32) ≤ nI z from (nI_leI (a := 9) (by decide) (by omega)).mpr (by omega))]
  | succ k ih =>
    intro m z nu e1 hz hm
    obtain ⟨m, rfl⟩ : ∃ k, m = k + 1 := ⟨m - 1, by omega⟩
    unfold f_X1_add_L9
    rw [if_neg (show ¬ (9 : Int32) ≤ nI z from fun h => by rw [show (9 : Int32) = nI 9 from rfl, nI_leI (by decide) (by omega)] at h; omega), show (9 : Int32) = nI 9 from rfl, pk_mul, pk_mul, nI_add, nI_add, pk_sub (by omega), rd_nI (by omega) (by decide), rd_nI (by omega) (by decide), wr_nI (by omega) (by decide), nI_1]
    obtain ⟨nu', h1, h2, h3⟩ := ih m (z + 1) (va_up nu (p * 9 + z) (nu (p * 9 + z) + t * nu (q * 9 + z - mo))) (by omega) (by omega) (by omega)
    refine ⟨nu', h1, fun j hj => ?_, fun i hi => ?_⟩
    · rw [h2 j hj]
      by_cases c : j = z
      · subst c
        rw [if_neg (by omega), if_pos (Nat.le_refl _), up_s]
      · rw [up_n (by omega)]
        by_cases d : z + 1 ≤ j
        · rw [if_pos d, if_pos (by omega), up_n (by omega)]
        · rw [if_neg d, if_neg (by omega)]
    · rw [h3 i hi, up_n (by omega)]
theorem add_eq {F : Nat} (hF : 100000 ≤ F) {p q mo : Nat} (hp : p < 2584) (hq : q < 2584) (hpq : p ≠ q) (hmo : mo ≤ 1) (t : Int64) (nu : Nat → Int64) : ∃ nu', f_X1_add F (nI p) (nI q) (nI mo) t nu = some nu' ∧ (∀ j, j < 9 → nu' (p * 9 + j) = if mo ≤ j then nu (p * 9 + j) + t * nu (q * 9 + j - mo) else nu (p * 9 + j)) ∧ ∀ i, (i < p * 9 ∨ p * 9 + 9 ≤ i) → nu' i = nu i := by
  unfold f_X1_add
  simp only [jn]
  rw [if_neg (nI_ne_m1 (by omega))]
  exact add_L hp hq hpq hmo (kk := fun x => some x) (9 - mo) F mo nu (by omega) (Nat.le_refl _) (by omega)
theorem zero_L {p : Nat} (hp : p < 2584) {kk : (Nat → Int64) → Option (Nat → Int64)} :
    ∀ (k m z : Nat) (nu : Nat → Int64), z + k = 9 → k < m → ∃ nu', f_X1_countFor_L2 (nI p) kk m (nI z) nu = kk nu' ∧ (∀ j, j < 9 → nu' (p * 9 + j) = if z ≤ j then 0 else nu (p * 9 + j)) ∧ ∀ i, (i < p * 9 ∨ p * 9 + 9 ≤ i) → nu' i = nu i := by
  intro k
  induction k with
  | zero =>
    intro m z nu e1 hm
    obtain ⟨m, rfl⟩ : ∃ k, m = k + 1 := ⟨m - 1, by omega⟩
    refine ⟨nu, ?_, fun j hj => by rw [if_neg (by omega)], fun i _ => rfl⟩
    unfold f_X1_countFor_L2
    rw [if_pos (show (9 : Int32) ≤ nI z from (nI_leI (a := 9) (by decide) (by omega)).mpr (by omega))]
  | succ k ih =>
    intro m z nu e1 hm
    obtain ⟨m, rfl⟩ : ∃ k, m = k + 1 := ⟨m - 1, by omega⟩
    unfold f_X1_countFor_L2
    rw [if_neg (show ¬ (9 : Int32) ≤ nI z from fun h => by rw [show (9 : Int32) = nI 9 from rfl, nI_leI (by decide) (by omega)] at h; omega), show (9 : Int32) = nI 9 from rfl, pk_mul, nI_add, wr_nI (by omega) (by decide), nI_1]
    obtain ⟨nu', h1, h2, h3⟩ := ih m (z + 1) (va_up nu (p * 9 + z) 0) (by omega) (by omega)
    refine ⟨nu', h1, fun j hj => ?_, fun i hi => ?_⟩
    · rw [h2 j hj]
      by_cases c : j = z
      · subst c
        rw [if_neg (by omega), if_pos (Nat.le_refl _), up_s]
      · rw [up_n (by omega)]
        by_cases d : z + 1 ≤ j
        · rw [if_pos d, if_pos (by omega)]
        · rw [if_neg d, if_neg (by omega)]
    · rw [h3 i hi, up_n (by omega)]
def NumOK (G : Gr) (nu : Nat → Int64) (p s : Nat) : Prop := ∀ j, j < 9 → nu (p * 9 + j) = ctN G j s
def ff (G : Gr) (s j : Nat) (acc : Int64) (u : Nat) : Int64 := if (rst s).testBit u = true then acc + (nI (cnt G (md G) (low 16 s) u)).toInt64 * ctN G j (dif (rst s) (2 ^ u)) else acc
theorem ff_smL {G : Gr} {s j : Nat} : ∀ (k u : Nat) (acc : Int64), (nbrF (adj G (low 16 s)) k u).foldl (ff G s j) acc = smL G (ctN G j) s k u acc := by
  intro k
  induction k with
  | zero => intro u acc; rfl
  | succ k ih =>
    intro u acc
    rw [smL_s]
    unfold nbrF
    by_cases c : (adj G (low 16 s)).testBit u = true
    · rw [if_pos c, List.foldl_cons, ih]
      unfold ff
      by_cases d : (rst s).testBit u = true
      · rw [if_pos d, if_pos ⟨d, c⟩]
      · rw [if_neg d, if_neg (fun h => d h.1)]
    · rw [if_neg c, ih, if_neg (fun h => c h.2)]
theorem countFor_L {F : Nat} (hF : 100000 ≤ F) {G : Gr} (hW : Wf G) {sl so se later laters : Nat → Int32} {n : Nat} {e a b : Nat → Nat} (hR : RI sl so se n e a b) (hrow : ∀ u, u < 16 → rowOK later laters (adj G) u) {sv : Nat → Int32} (hsv : ∀ v u, v < 16 → u < 16 → sv (v * 16 + u) = nI (cnt G (md G) v u))
    {p : Nat} (hp : p < n) (h0 : 0 < e p) (hcl : ∀ u, u ∈ nbr (adj G (low 16 (e p))) (low 16 (e p)) → (rst (e p)).testBit u = true → ∃ p', p' < p ∧ e p' = dif (rst (e p)) (2 ^ u)) {kk : (Nat → Int64) → Option (Nat → Int64)} :
    ∀ (k m i : Nat) (nu : Nat → Int64), i + k = (nbr (adj G (low 16 (e p))) (low 16 (e p))).length → k < m → (∀ p', p' < p → NumOK G nu p' (e p')) →
      ∃ nu', f_X1_countFor_L77 F sv sl so se later laters (nI n) (nI p) (nI (e p)) kk m (nI i) nu = kk nu' ∧ (∀ x, (x < p * 9 ∨ p * 9 + 9 ≤ x) → nu' x = nu x) ∧ nu' (p * 9) = nu (p * 9) ∧ ∀ j, j < 8 → nu' (p * 9 + (j + 1)) = ((nbr (adj G (low 16 (e p))) (low 16 (e p))).drop i).foldl (ff G (e p) j) (nu (p * 9 + (j + 1))) := by
  have hn := hR.1
  have hs16 := (hR.2.2.2.1 p hp).2.1
  have hl16 : low 16 (e p) < 16 := low_lt (k := 16) h0 hs16
  obtain ⟨r1, r2⟩ := hrow _ hl16
  have hlen2 : (nbr (adj G (low 16 (e p))) (low 16 (e p))).length ≤ 15 - low 16 (e p) := nbrF_len (adj G (low 16 (e p))) (15 - low 16 (e p)) (low 16 (e p) + 1)
  have hrl := rst_lt h0 hs16
  intro k
  induction k with
  | zero =>
    intro m i nu e1 hm hd
    obtain ⟨m, rfl⟩ : ∃ k, m = k + 1 := ⟨m - 1, by omega⟩
    refine ⟨nu, ?_, fun _ _ => rfl, rfl, fun j hj => ?_⟩
    · unfold f_X1_countFor_L77
      rw [least_nI h0 hs16, rd_nI hl16 (by decide), r1, if_pos (by rw [nI_leI (by omega) (by omega)]; omega)]
    · rw [List.drop_eq_nil_of_le (by omega)]; rfl
  | succ k ih =>
    intro m i nu e1 hm hd
    obtain ⟨m, rfl⟩ : ∃ k, m = k + 1 := ⟨m - 1, by omega⟩
    have hi : i < (nbr (adj G (low 16 (e p))) (low 16 (e p))).length := by omega
    have hmem : (nbr (adj G (low 16 (e p))) (low 16 (e p))).getD i 0 ∈ nbr (adj G (low 16 (e p))) (low 16 (e p)) := by
      rw [gD hi]; exact List.getElem_mem hi
    have hu := (nbr_mem hl16).mp hmem
    have ru := r2 i hi
    have hdrop : (nbr (adj G (low 16 (e p))) (low 16 (e p))).drop i = (nbr (adj G (low 16 (e p))) (low 16 (e p))).getD i 0 :: (nbr (adj G (low 16 (e p))) (low 16 (e p))).drop (i + 1) := by
      rw [gD hi]; exact List.drop_eq_getElem_cons hi
    rw [hdrop]
    generalize hug : (nbr (adj G (low 16 (e p))) (low 16 (e p))).getD i 0 = u at hmem hu ru
    unfold f_X1_countFor_L77
    rw [least_nI h0 hs16, rd_nI hl16 (by decide), r1, if_neg (fun h => by rw [nI_leI (by omega) (by omega)] at h; omega), cell_nI, rd_nI (by omega) (by decide), ru, rst_nI h0 hs16, has_nI (by omega) (by omega)]
    by_cases c : (rst (e p)).testBit u = true
    · rw [if_pos c, if_neg (by decide), without_nI _ (by omega), cell_nI]
      obtain ⟨p', q1, q2⟩ := hcl u hmem c
      rw [← q2, placeOf_in hF hR (by omega), bS, rd_nI (by omega) (by decide), hsv _ _ hl16 hu.2.1]
      obtain ⟨nu1, a1, a2, a3⟩ := add_eq hF (p := p) (q := p') (mo := 1) (by omega) (by omega) (by omega) (Nat.le_refl _) (nI (cnt G (md G) (low 16 (e p)) u)).toInt64 nu
      rw [show (1 : Int32) = nI 1 from rfl, a1, bS, ← show (1 : Int32) = nI 1 from rfl, nI_1]
      obtain ⟨nu', b1, b2, b3, b4⟩ := ih m (i + 1) nu1 (by omega) (by omega) (fun p'' hp'' j hj => by rw [a3 _ (by omega)]; exact hd p'' hp'' j hj)
      refine ⟨nu', b1, fun x hx => by rw [b2 x hx, a3 x hx], ?_, fun j hj => ?_⟩
      · rw [b3]
        have := a2 0 (by omega)
        rw [if_neg (by omega)] at this
        exact this
      · rw [b4 j hj, a2 (j + 1) (by omega), if_pos (by omega), List.foldl_cons]
        congr 1
        unfold ff
        rw [if_pos c, show p' * 9 + (j + 1) - 1 = p' * 9 + j by omega, hd p' q1 j (by omega), q2]
    · rw [if_neg c, if_pos rfl, nI_1]
      obtain ⟨nu', b1, b2, b3, b4⟩ := ih m (i + 1) nu (by omega) (by omega) hd
      refine ⟨nu', b1, b2, b3, fun j hj => ?_⟩
      rw [b4 j hj, List.foldl_cons]
      congr 1
      unfold ff
      rw [if_neg c]
theorem countFor_eq {F : Nat} (hF : 100000 ≤ F) {G : Gr} (hW : Wf G) {sl so se later laters : Nat → Int32} {n : Nat} {e a b : Nat → Nat} (hR : RI sl so se n e a b) (hrow : ∀ u, u < 16 → rowOK later laters (adj G) u) {sv : Nat → Int32} (hsv : ∀ v u, v < 16 → u < 16 → sv (v * 16 + u) = nI (cnt G (md G) v u))
    {p : Nat} (hp : p < n) (hC : 0 < e p → (∃ p', p' < p ∧ e p' = rst (e p)) ∧ ∀ u, u ∈ nbr (adj G (low 16 (e p))) (low 16 (e p)) → (rst (e p)).testBit u = true → ∃ p', p' < p ∧ e p' = dif (rst (e p)) (2 ^ u)) {nu : Nat → Int64} (hd : ∀ p', p' < p → NumOK G nu p' (e p')) :
    ∃ nu', f_X1_countFor F (nI p) sv nu sl so se later laters (nI n) = some nu' ∧ ∀ p', p' < p + 1 → NumOK G nu' p' (e p') := by
  have hn := hR.1
  obtain ⟨s1, hs16, -⟩ := hR.2.2.2.1 p hp
  unfold f_X1_countFor
  simp only [jn]
  rw [z32]
  obtain ⟨nu1, a1, a2, a3⟩ := zero_L (p := p) (by omega) (kk := fun n_numbers_1 => rd 2584 se (nI p) (fun y_2 => (if y_2 = nI 0 then wr 23256 n_numbers_1 (nI p * 9) (1 : Int64) (fun n_numbers_30 => some n_numbers_30) else (f_X7_placeOf F (y_2 &&& (y_2 - 1)) sl so se (nI n)).bind (fun r_6 => (f_X1_add F (nI p) r_6 (nI 0) (1 : Int64) n_numbers_1).bind (fun n_numbers_8 => f_X1_countFor_L77 F sv sl so se later laters (nI n) (nI p) y_2 (fun x => some x) F (nI 0) n_numbers_8))))) 9 F 0 nu (by omega) (by omega)
  rw [a1, rd_nI (by omega) (by decide), s1]
  by_cases c : e p = 0
  · rw [if_pos (by rw [c]), show (9 : Int32) = nI 9 from rfl, pk_mul, wr_nI (by omega) (by decide)]
    refine ⟨_, rfl, fun p' hp' j hj => ?_⟩
    by_cases d : p' = p
    · subst d
      rw [c]
      cases j with
      | zero => rw [Nat.add_zero, up_s]; rfl
      | succ j => rw [up_n (by omega), a2 (j + 1) hj, if_pos (by omega)]; rfl
    · rw [up_n (by omega), a3 _ (by omega)]
      exact hd p' (by omega) j hj
  · have h0 : 0 < e p := by omega
    obtain ⟨⟨p', q1, q2⟩, hcl⟩ := hC h0
    have hl16 : low 16 (e p) < 16 := low_lt (k := 16) h0 hs16
    have hlen2 : (nbr (adj G (low 16 (e p))) (low 16 (e p))).length ≤ 15 - low 16 (e p) := nbrF_len (adj G (low 16 (e p))) (15 - low 16 (e p)) (low 16 (e p) + 1)
    rw [if_neg (fun h => c ((nI_eq (by omega) (by decide)).mp h)), rst_nI h0 hs16, ← q2, placeOf_in hF hR (by omega), bS]
    obtain ⟨nu2, b1, b2, b3⟩ := add_eq hF (p := p) (q := p') (mo := 0) (by omega) (by omega) (by omega) (by omega) 1 nu1
    rw [b1, bS]
    have hd2 : ∀ p'', p'' < p → NumOK G nu2 p'' (e p'') := fun p'' hp'' j hj => by rw [b3 _ (by omega), a3 _ (by omega)]; exact hd p'' hp'' j hj
    obtain ⟨nu3, c1, c2, c3, c4⟩ := countFor_L hF hW hR hrow hsv hp h0 hcl (kk := fun x => some x) _ F 0 nu2 (Nat.zero_add _) (by omega) hd2
    refine ⟨nu3, c1, fun p'' hp'' j hj => ?_⟩
    have hst : ∀ j, j < 9 → nu2 (p * 9 + j) = ctN G j (rst (e p)) := by
      intro j hj
      rw [b2 j hj, if_pos (by omega), a2 j hj, if_pos (by omega), Int64.zero_add, Int64.one_mul, a3 _ (by omega), Nat.sub_zero, hd p' q1 j hj, q2]
    by_cases d : p'' = p
    · subst d
      cases j with
      | zero =>
        have := hst 0 hj
        rw [Nat.add_zero] at this
        rw [Nat.add_zero, c3, this]; rfl
      | succ j =>
        rw [c4 j (by omega), hst (j + 1) hj, ctN_s G j h0 hs16]
        exact ff_smL _ _ _
    · rw [c2 _ (by omega)]
      exact hd2 p'' (by omega) j hj
theorem counts_L {F : Nat} (hF : 100000 ≤ F) {G : Gr} (hW : Wf G) {sl so se later laters : Nat → Int32} {n : Nat} {e a b : Nat → Nat} (hR : RI sl so se n e a b) (hrow : ∀ u, u < 16 → rowOK later laters (adj G) u) (hC : Cl 1 (adj G) n e) {sv : Nat → Int32} (hsv : ∀ v u, v < 16 → u < 16 → sv (v * 16 + u) = nI (cnt G (md G) v u)) {kk : (Nat → Int64) → Option (Int32 × Int32 × (Nat → Int32) × (Nat → Int64))} :
    ∀ (k m p : Nat) (nu : Nat → Int64), p + k = n → k < m → (∀ p', p' < p → NumOK G nu p' (e p')) → ∃ nu', f_X1_refresh_L31 F sl so se later laters (nI n) sv kk m (nI p) nu = kk nu' ∧ ∀ p', p' < n → NumOK G nu' p' (e p') := by
  have hn := hR.1
  intro k
  induction k with
  | zero =>
    intro m p nu e1 hm hd
    obtain ⟨m, rfl⟩ : ∃ k, m = k + 1 := ⟨m - 1, by omega⟩
    refine ⟨nu, ?_, fun p' hp' => hd p' (by omega)⟩
    unfold f_X1_refresh_L31
    rw [if_pos (by rw [nI_leI (by omega) (by omega)]; omega)]
  | succ k ih =>
    intro m p nu e1 hm hd
    obtain ⟨m, rfl⟩ : ∃ k, m = k + 1 := ⟨m - 1, by omega⟩
    unfold f_X1_refresh_L31
    obtain ⟨nu1, a1, a2⟩ := countFor_eq hF hW hR hrow hsv (p := p) (by omega) (fun h0 => ⟨(hC p (by omega) h0).1 rfl, (hC p (by omega) h0).2⟩) hd
    rw [if_neg (fun h => by rw [nI_leI (by omega) (by omega)] at h; omega), a1, bS, nI_1]
    exact ih m (p + 1) nu1 (by omega) (by omega) a2
/-- what the class's counts hold of the graph -/
def NR (G : Gr) (nu : Nat → Int64) (last : Int32) : Prop := ∃ l, l < 2584 ∧ last = nI l ∧ NumOK G nu l (allN G)
theorem counts_eq {F : Nat} (hF : 100000 ≤ F) {G : Gr} (hW : Wf G) {nodes made : Int32} {one oth wts alv joined : Nat → Int32} (hC : CG G nodes made one oth wts alv joined) {n : Nat} {e : Nat → Nat} {sl so se later laters : Nat → Int32} (hT : Tab (allN G) 1 (adj G) n e sl so se later laters) {age nage : Int32} (hne : nage ≠ age) (sv : Nat → Int32) (nu : Nat → Int64) (last : Int32) :
    ∃ last' sv' nu', f_X1_refresh F made age one oth alv sv nu last nage sl so se later laters (nI n) = some (last', age, sv', nu') ∧ NR G nu' last' := by
  obtain ⟨⟨a, b, hR⟩, h0, hl, hCl, hP, hrow⟩ := hT
  have hn := hR.1
  obtain ⟨sv1, a1, a2⟩ := countArcs_eq hF hW hC sv
  unfold f_X1_refresh
  rw [if_neg hne, a1, bS]
  simp only [jn]
  rw [z32]
  obtain ⟨nu1, b1, b2⟩ := counts_L hF hW hR hrow hCl a2 (kk := fun x => some (nI n - 1, age, sv1, x)) n F 0 nu (by omega) (by omega) (fun p' h => by omega)
  have hpred : nI n - 1 = nI (n - 1) := by
    obtain ⟨k, rfl⟩ : ∃ k, n = k + 1 := ⟨n - 1, by omega⟩
    exact nI_pred k
  refine ⟨_, _, _, b1, n - 1, by omega, hpred, ?_⟩
  have := b2 (n - 1) (by omega)
  rw [hl] at this
  exact this
theorem ofSize_eq {G : Gr} {nu : Nat → Int64} {last : Int32} (h : NR G nu last) {k : Nat} (hk : k < 9) : f_X1_ofSize (nI k) nu last = some (ctN G k (allN G)) := by
  obtain ⟨l, h1, rfl, h2⟩ := h
  unfold f_X1_ofSize
  rw [if_neg (nI_pos (by omega)), if_neg (nI_pos (by omega)), if_neg (show ¬ (9 : Int32) ≤ nI k from fun h => by rw [show (9 : Int32) = nI 9 from rfl, nI_leI (by decide) (by omega)] at h; omega), show (9 : Int32) = nI 9 from rfl, pk_mul, nI_add, rd_nI (by omega) (by decide), h2 k hk]
