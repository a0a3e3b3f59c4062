/-! ===== the class's join ===== -/
theorem reached17_L {gain : Nat → Int32} {a : Nat} (ha : a < 16) {kk : (Nat → Int32) → Option (Nat → Int32)} :
    ∀ (k f e R : Nat) (rd0 : Nat → Int32), e + k = 16 → k < f → rd0 a = nI R → (∀ b, R.testBit b = true ↔ b < e ∧ gain (a * 16 + b) ≠ -1000000000) → ∃ R' rd1, f_X4_findReached_L17 gain (nI a) kk f (nI e) rd0 = kk rd1 ∧ rd1 a = nI R' ∧ (∀ b, R'.testBit b = true ↔ b < 16 ∧ gain (a * 16 + b) ≠ -1000000000) ∧ ∀ x, x ≠ a → rd1 x = rd0 x := by
  intro k
  induction k with
  | zero =>
    intro f e R rd0 e1 hf h1 h2
    obtain ⟨f, rfl⟩ : ∃ k, f = k + 1 := ⟨f - 1, by omega⟩
    refine ⟨R, rd0, ?_, h1, fun b => by rw [h2, show e = 16 by omega], fun _ _ => rfl⟩
    unfold f_X4_findReached_L17
    rw [if_pos ((le16 (by omega)).mpr (by omega))]
  | succ k ih =>
    intro f e R rd0 e1 hf h1 h2
    obtain ⟨f, rfl⟩ : ∃ k, f = k + 1 := ⟨f - 1, by omega⟩
    unfold f_X4_findReached_L17
    rw [if_neg (fun h => by rw [le16 (by omega)] at h; omega), cell_nI, rd_nI (by omega) (by decide), nI_1]
    by_cases c : gain (a * 16 + e) = -1000000000
    · rw [if_pos c]
      refine ih f (e + 1) R rd0 (by omega) (by omega) h1 (fun b => ?_)
      rw [h2]
      constructor
      · rintro ⟨x, y⟩; exact ⟨by omega, y⟩
      · rintro ⟨x, y⟩
        by_cases d : b = e
        · subst d; exact absurd c y
        · exact ⟨by omega, y⟩
    · rw [if_neg c, rd_nI ha (by decide), h1, shl_nI (by omega), nI_or, wr_nI ha (by decide)]
      obtain ⟨R', rd1, q1, q2, q3, q4⟩ := ih f (e + 1) (R ||| 2 ^ e) (va_up rd0 a (nI (R ||| 2 ^ e))) (by omega) (by omega) (up_s _ _ _) (fun b => by
        rw [Nat.testBit_or, Nat.testBit_two_pow, Bool.or_eq_true, decide_eq_true_eq, h2]
        constructor
        · rintro (⟨x, y⟩ | x)
          · exact ⟨by omega, y⟩
          · subst x; exact ⟨by omega, c⟩
        · rintro ⟨x, y⟩
          by_cases d : e = b
          · exact Or.inr d
          · exact Or.inl ⟨by omega, y⟩)
      exact ⟨R', rd1, q1, q2, q3, fun x hx => by rw [q4 x hx, up_n hx]⟩
def RcO (gain : Nat → Int32) (reached : Nat → Int32) (a : Nat) : Prop := ∃ R, R < 65536 ∧ reached a = nI R ∧ ∀ b, R.testBit b = true ↔ b < 16 ∧ gain (a * 16 + b) ≠ -1000000000
theorem reached2_L {F : Nat} (hF : 100000 ≤ F) {gain : Nat → Int32} {kk : (Nat → Int32) → Option (Nat → Int32)} :
    ∀ (k f a : Nat) (rd0 : Nat → Int32), a + k = 16 → k < f → (∀ x, x < a → RcO gain rd0 x) → ∃ rd1, f_X4_findReached_L2 F gain kk f (nI a) rd0 = kk rd1 ∧ ∀ x, x < 16 → RcO gain rd1 x := by
  intro k
  induction k with
  | zero =>
    intro f a rd0 e1 hf h
    obtain ⟨f, rfl⟩ : ∃ k, f = k + 1 := ⟨f - 1, by omega⟩
    refine ⟨rd0, ?_, fun x hx => h x (by omega)⟩
    unfold f_X4_findReached_L2
    rw [if_pos ((le16 (by omega)).mpr (by omega))]
  | succ k ih =>
    intro f a rd0 e1 hf h
    obtain ⟨f, rfl⟩ : ∃ k, f = k + 1 := ⟨f - 1, by omega⟩
    obtain ⟨R', rd1, q1, q2, q3, q4⟩ := reached17_L (gain := gain) (a := a) (by omega) (kk := fun r => f_X4_findReached_L2 F gain kk f (nI a + 1) r) 16 F 0 0 (va_up rd0 a 0) (by omega) (by omega) (up_s _ _ _) (fun b => by
      rw [Nat.zero_testBit]
      constructor
      · intro h; cases h
      · rintro ⟨h, -⟩; omega)
    unfold f_X4_findReached_L2
    rw [if_neg (fun h => by rw [le16 (by omega)] at h; omega), wr_nI (by omega) (by decide)]
    simp only [jn]
    rw [← z32] at q1
    rw [q1, nI_1]
    refine ih f (a + 1) rd1 (by omega) (by omega) (fun x hx => ?_)
    by_cases c : x = a
    · subst c
      exact ⟨R', lt_of_bits (n := 16) (fun b hb => ((q3 b).mp hb).1), q2, q3⟩
    · obtain ⟨R, r1, r2, r3⟩ := h x (by omega)
      exact ⟨R, r1, by rw [q4 x c, up_n c, r2], r3⟩
def PathsOK (G : Gr) (gain : Nat → Int32) (mark : Nat → Int64) (reached : Nat → Int32) : Prop := FWs G (nd G) 0 0 gain mark ∧ ∀ a, a < 16 → RcO gain reached a
theorem findPaths_eq {F : Nat} (hF : 100000 ≤ F) {G : Gr} (hW : Wf G) {nodes made : Int32} {one oth wts alv joined : Nat → Int32} (hC : CG G nodes made one oth wts alv joined) (gain : Nat → Int32) (mark : Nat → Int64) (reached : Nat → Int32) {pk : Int32} (hk : pk = 0 ∨ (pk = 1 ∧ PathsOK G gain mark reached)) :
    ∃ gain' mark' reached', f_X4_findPaths F nodes made one oth wts alv gain mark reached pk = some (1, gain', mark', reached') ∧ PathsOK G gain' mark' reached' := by
  have hn := hW.1
  have h60 := hW.2.1
  unfold f_X4_findPaths
  rcases hk with rfl | ⟨rfl, hk⟩
  · obtain ⟨g1, a1, a2⟩ := fillI (F := F) (-1000000000) (n := 256) (by decide) (by omega) gain
    obtain ⟨m1, b1, b2⟩ := fillJ (F := F) 0 (n := 256) (by decide) (by omega) mark
    rw [if_pos rfl]
    unfold f_X0_forgetOffers
    rw [a1, bS, b1, bS, b2S]
    simp only [jn]
    have hnod := hC.1
    subst hnod
    rw [z32]
    obtain ⟨g2, m2, c1, c2⟩ := paths22_L hW hC (kk := fun x y => f_X4_findPaths_L100 F (nI (nd G)) (fun g m => (f_X4_findReached F g reached).bind (fun r => some (1, g, m, r))) F (nI 0) x y) (md G) F 0 g1 m1 (by omega) (by omega) (fun v u hv hu => Or.inl ⟨fun i hi => by omega, a2 _ (by omega), b2 _ (by omega)⟩)
    rw [c1]
    obtain ⟨g3, m3, d1, d2⟩ := paths100_L hF hW (kk := fun g m => (f_X4_findReached F g reached).bind (fun r => some (1, g, m, r))) (nd G) F 0 g2 m2 (by omega) (by omega) (OT_FW hW c2)
    rw [d1]
    obtain ⟨r3, e1, e2⟩ := reached2_L hF (gain := g3) (kk := fun r => some r) 16 F 0 reached (by omega) (by omega) (fun x hx => by omega)
    have e3 : f_X4_findReached F g3 reached = some r3 := by
      unfold f_X4_findReached
      simp only [jn]
      rw [z32]
      exact e1
    rw [e3, bS]
    exact ⟨g3, m3, r3, rfl, d2, e2⟩
  · rw [if_neg (by decide)]
    exact ⟨gain, mark, reached, rfl, hk⟩
def rcC (gain : Nat → Int32) (a b : Nat) : Prop := a < 16 ∧ b < 16 ∧ gain (a * 16 + b) ≠ -1000000000
def dnC (gain : Nat → Int32) (mark : Nat → Int64) (a b : Nat) : Nat := (-(gain (a * 16 + b)).toInt).toNat * 2 ^ 70 - mkT mark a b
theorem tabC {G : Gr} (hW : Wf G) {gain : Nat → Int32} {mark : Nat → Int64} (h : FWs G (nd G) 0 0 gain mark) {a b : Nat} (hab : a ≠ b) (hr : rcC gain a b) : ∃ C : Nat, gnT gain a b = -(C : Int) ∧ dnC gain mark a b + mkT mark a b = C * 2 ^ 70 ∧ mkT mark a b < 2 ^ 60 ∧ C ≤ 61440060 ∧ Ent G (lnC G) (nd G) a b (some (dnC gain mark a b)) := by
  obtain ⟨ha, hb, hg⟩ := hr
  have hc := h.2 a b ha hb hab
  rw [if_neg (fun x => by omega)] at hc
  rcases hc with ⟨h1, -⟩ | ⟨X, x1, x2, x3, x4⟩
  · exact absurd h1 hg
  · have hX := x1.1.1
    have hmk : mkT mark a b = X := mkT_of (by omega) x3
    have hl := lenC (G := G) hX
    have hle := csC_le hW x1.1
    have hdn : dnC gain mark a b = lX (lnC G) X 60 := by
      unfold dnC
      rw [x2, hmk, Int.neg_neg, Int.toNat_natCast]
      omega
    exact ⟨csC G X, x2, by rw [hdn, hmk]; exact hl, by rw [hmk]; exact hX, hle, by rw [hdn]; exact x4⟩
theorem metC {G : Gr} (hW : Wf G) {gain : Nat → Int32} {mark : Nat → Int64} (h : FWs G (nd G) 0 0 gain mark) : MetD G (lnC G) (rcC gain) (dnC gain mark) := by
  have hn := hW.1
  intro a b hab
  refine ⟨fun hr => ?_, fun hr => ?_⟩
  · obtain ⟨C, -, -, -, -, h5⟩ := tabC hW h hab hr
    exact h5
  · by_cases c : a < 16 ∧ b < 16
    · have hc := h.2 a b c.1 c.2 hab
      rw [if_neg (fun x => by omega)] at hc
      rcases hc with ⟨-, -, h1⟩ | ⟨X, x1, x2, -⟩
      · exact h1
      · exfalso
        apply hr
        refine ⟨c.1, c.2, fun e => ?_⟩
        rw [e, m9] at x2
        have := csC_le hW x1.1
        omega
    · exact Ent_out hW (by omega)
theorem fam_pm {G : Gr} (hW : Wf G) {gain : Nat → Int32} {mark : Nat → Int64} (h : FWs G (nd G) 0 0 gain mark) {rm : Nat → Nat} (hrm : ∀ a, a < 16 → ∀ b, (rm a).testBit b = true ↔ b < 16 ∧ gain (a * 16 + b) ≠ -1000000000) : ∀ (k s : Nat) (g : Int) (m : Nat), s < 65536 → FmR 1 (gnT gain) (mkT mark) rm k s g m → ∃ (k' x C : Nat), PMr (rcC gain) (dnC gain mark) k' s x ∧ g = -(C : Int) ∧ x + m = C * 2 ^ 70 ∧ 2 * C ≤ 61440060 * pcF 16 s ∧ 2 * m ≤ (2 ^ 60 - 1) * pcF 16 s := by
  intro k
  induction k with
  | zero =>
    rintro s g m hs ⟨rfl, rfl, rfl⟩
    exact ⟨0, 0, 0, ⟨rfl, rfl⟩, rfl, rfl, Nat.zero_le _, Nat.zero_le _⟩
  | succ k ih =>
    rintro s g m hs (⟨rfl, rfl, rfl⟩ | ⟨h0, hx | hx⟩)
    · exact ⟨0, 0, 0, ⟨rfl, rfl⟩, rfl, rfl, Nat.zero_le _, Nat.zero_le _⟩
    · rcases hx with ⟨hx, -⟩ | ⟨hx, -⟩ <;> omega
    · have hl := low_lt (k := 16) h0 hs
      obtain ⟨u, u1, u2, u3, u4, g', m', u5, rfl, rfl⟩ := CL_to hl hx
      have hrl := rst_lt h0 hs
      have hle := dif_le (rst s) (2 ^ u)
      obtain ⟨k', x, C, p1, p2, p3, p4, p5⟩ := ih _ g' m' (by omega) u5
      have hrc : rcC gain (low 16 s) u := ⟨hl, ((hrm _ hl u).mp u3).1, ((hrm _ hl u).mp u3).2⟩
      obtain ⟨D, d1, d2, d3, d4, -⟩ := tabC hW h (show low 16 s ≠ u by omega) hrc
      have hp1 : pcF 16 (rst s) + 1 = pcF 16 s := pcF_dif 16 s _ hl (low_bit (k := 16) h0 hs)
      have hp2 : pcF 16 (dif (rst s) (2 ^ u)) + 1 = pcF 16 (rst s) := pcF_dif 16 _ _ u2 u4
      have hub : s.testBit u = true := by rw [rst_bit, Bool.and_eq_true] at u4; exact u4.1
      refine ⟨k' + 1, x + dnC gain mark (low 16 s) u, C + D, ⟨low 16 s, u, x, low_bit (k := 16) h0 hs, hub, by omega, hrc, p1, rfl⟩, ?_, ?_, ?_, ?_⟩
      · rw [p2, d1]; omega
      · rw [Nat.add_mul]; omega
      · rw [← hp1, ← hp2]; omega
      · rw [← hp1, ← hp2]; omega
theorem pm_fam {G : Gr} (hW : Wf G) {gain : Nat → Int32} {mark : Nat → Int64} (h : FWs G (nd G) 0 0 gain mark) {rm : Nat → Nat} (hrm : ∀ a, a < 16 → ∀ b, (rm a).testBit b = true ↔ b < 16 ∧ gain (a * 16 + b) ≠ -1000000000) : ∀ (k s x : Nat), s < 65536 → PMr (rcC gain) (dnC gain mark) k s x → ∃ (g : Int) (m C : Nat), Fam 1 (gnT gain) (mkT mark) rm s g m ∧ g = -(C : Int) ∧ x + m = C * 2 ^ 70 := by
  intro k
  induction k with
  | zero =>
    rintro s x hs ⟨rfl, rfl⟩
    exact ⟨0, 0, 0, (Fam_0 _ _ _ _ _ _).mpr ⟨rfl, rfl⟩, rfl, rfl⟩
  | succ k ih =>
    intro s x hs hp
    have h0 : 0 < s := by
      obtain ⟨a, b, y, h1, -⟩ := hp
      rcases Nat.eq_zero_or_pos s with c | c
      · rw [c, Nat.zero_testBit] at h1; cases h1
      · exact c
    have hl := low_lt (k := 16) h0 hs
    have hrl := rst_lt h0 hs
    obtain ⟨k', u, y, g1, g2, g3, g4, g5, g6, rfl⟩ := PM_low hW (metC hW h) h0 hs hp
    have e : k' = k := by omega
    subst e
    have hle := dif_le (rst s) (2 ^ u)
    obtain ⟨g, m, C, f1, f2, f3⟩ := ih _ y (by omega) g6
    obtain ⟨D, d1, d2, d3, d4, -⟩ := tabC hW h (show low 16 s ≠ u by omega) g5
    refine ⟨g + gnT gain (low 16 s) u, m + mkT mark (low 16 s) u, C + D, (Fam_s _ _ _ _ h0 _ _).mpr (Or.inr (CL_of hl g2 g3 ((hrm _ hl u).mpr ⟨g5.2.1, g5.2.2⟩) g4 ⟨g, m, f1, rfl, rfl⟩)), ?_, ?_⟩
    · rw [f2, d1]; omega
    · rw [Nat.add_mul]; omega
/-- the join of T: least weight, then fewest arcs, then the first -/
def IsJ (G : Gr) (T X : Nat) : Prop := JT G T X ∧ ∀ Y, JT G T Y → wX G X 60 < wX G Y 60 ∨ (wX G X 60 = wX G Y 60 ∧ (cX X 60 < cX Y 60 ∨ (cX X 60 = cX Y 60 ∧ Y ≤ X)))
theorem isJ_one {G : Gr} {T X Y : Nat} (h : IsJ G T X) (h' : IsJ G T Y) : X = Y := by
  have := h.2 Y h'.1
  have := h'.2 X h.1
  omega
theorem b7J {α1 α2 α3 α4 α5 α6 α7 β : Type} (a : α1) (b : α2) (c : α3) (d : α4) (e : α5) (f : α6) (g : α7) (k : α1 → α2 → α3 → α4 → α5 → α6 → α7 → Option β) : bd7 (some (a, b, c, d, e, f, g)) k = k a b c d e f g := rfl
theorem tell_eq {F : Nat} (hF : 100000 ≤ F) {G : Gr} (hW : Wf G) {nodes made : Int32} {one oth wts alv joined : Nat → Int32} (hC : CG G nodes made one oth wts alv joined) {T : Nat} (hT : T < 65536) {sl so se : Nat → Int32} {e0 a b : Nat → Nat} (hR : RI sl so se 0 e0 a b) (later laters gain : Nat → Int32) (mark : Nat → Int64) (bg : Nat → Int32) (bm : Nat → Int64) (reached : Nat → Int32) (told : Int64) (isTold : Int32) {pk : Int32} (hk : pk = 0 ∨ (pk = 1 ∧ PathsOK G gain mark reached)) :
    ∃ fnd told' isTold' n sl' so' se' later' laters' gain' mark' bg' bm' reached', f_X4_tell F (nI T) nodes made one oth wts alv sl so se later laters gain mark bg bm reached told isTold pk = some (fnd, told', isTold', 1, 0, nI n, sl', so', se', later', laters', gain', mark', bg', bm', reached') ∧ PathsOK G gain' mark' reached' ∧ (∃ e a b, RI sl' so' se' n e a b) ∧
      ((fnd = 1 ∧ isTold' = 1 ∧ ∃ X, told' = lN X ∧ IsJ G T X) ∨ (fnd = 0 ∧ told' = told ∧ isTold' = isTold ∧ ∀ Y, ¬ JT G T Y)) := by
  obtain ⟨g1, m1, r1, p1, p2, p3⟩ := findPaths_eq hF hW hC gain mark reached hk
  have hch : ∀ a, ∃ R, a < 16 → R < 65536 ∧ r1 a = nI R ∧ ∀ b, R.testBit b = true ↔ b < 16 ∧ g1 (a * 16 + b) ≠ -1000000000 := by
    intro a
    by_cases c : a < 16
    · obtain ⟨R, x⟩ := p3 a c
      exact ⟨R, fun _ => x⟩
    · exact ⟨0, fun h => absurd h c⟩
  obtain ⟨rm, hrm⟩ : ∃ rm : Nat → Nat, ∀ a, a < 16 → rm a < 65536 ∧ r1 a = nI (rm a) ∧ ∀ b, (rm a).testBit b = true ↔ b < 16 ∧ g1 (a * 16 + b) ≠ -1000000000 := ⟨fun a => (hch a).choose, fun a ha => (hch a).choose_spec ha⟩
  obtain ⟨n, e, sl', so', se', later', laters', q1, q2⟩ := build_eq hF hT (ml := 0) (Or.inl rfl) (adj := rm) (fun v hv => (hrm v hv).1) (p2 := r1) (fun v hv => (hrm v hv).2.1) hR later laters
  have hbit : ∀ a, a < 16 → ∀ b, (rm a).testBit b = true ↔ b < 16 ∧ g1 (a * 16 + b) ≠ -1000000000 := fun a ha => (hrm a ha).2.2
  have hmet := metC hW p2
  obtain ⟨bg1, bm1, o, c1, c2, c3, c4, c5⟩ := choose_eq hF q2 (Fb := Fam 1 (gnT g1) (mkT m1) rm) (gn := gnT g1) (mk := mkT m1) (gain := g1) (mark := m1) (fun v u _ _ _ => rfl) (fun v u hv hu => by
    refine ⟨lN_self _, ?_⟩
    by_cases c : v = u
    · subst c
      rw [mkT_of (m := 0) (by decide) (p2.1 v hv).2]; decide
    · have hc := p2.2 v u hv hu c
      rw [if_neg (fun x => by omega)] at hc
      rcases hc with ⟨-, h2, -⟩ | ⟨X, x1, -, x3, -⟩
      · rw [mkT_of (m := 0) (by decide) h2]; decide
      · have := x1.1.1
        rw [mkT_of (by omega) x3]; omega) (lv := 1) (by decide) (fun h => absurd rfl h) (fun g m => Fam_0 _ _ _ _ g m) (fun s _ h0 g m => Fam_s _ _ _ _ h0 g m) (fun s hs g m ⟨k, hx⟩ => by
      obtain ⟨k', x, C, -, f2, -, f4, f5⟩ := fam_pm hW p2 hbit k s g m hs.1 hx
      have := pcF_le 16 s
      have h4 : 61440060 * pcF 16 s ≤ 61440060 * 16 := Nat.mul_le_mul_left _ this
      have h5 : (2 ^ 60 - 1) * pcF 16 s ≤ (2 ^ 60 - 1) * 16 := Nat.mul_le_mul_left _ this
      exact ⟨by omega, by omega, by omega⟩) bg bm
  have hRI : ∃ e a b, RI sl' so' se' n e a b := by
    obtain ⟨⟨a, b, h⟩, -⟩ := q2
    exact ⟨e, a, b, h⟩
  unfold f_X4_tell
  have q1' : f_X7_build F (nI T) 0 sl so se later laters r1 16 = some (0, nI n, sl', so', se', later', laters') := q1
  have c1' : f_X0_choose F 1 sl' so' se' later' laters' (nI n) g1 m1 bg bm = some (bg1, bm1) := c1
  rw [p1, b4S, q1', b7J, c1', b2S, c4, bS]
  cases o with
  | none =>
    rw [if_pos rfl, if_pos rfl]
    refine ⟨0, told, isTold, n, _, _, _, _, _, _, _, _, _, _, rfl, ⟨p2, p3⟩, hRI, Or.inr ⟨rfl, rfl, rfl, fun Y hY => ?_⟩⟩
    obtain ⟨k, x, y1, -⟩ := PM_complete hW hmet (cX Y 60) T Y (Nat.le_refl _) hY
    obtain ⟨g, m, C, f1, -, -⟩ := pm_fam hW p2 hbit k T x hT y1
    exact c2 g m f1
  | some z =>
    obtain ⟨g, m⟩ := z
    rw [if_neg (fun h => by cases h), c5, bS]
    refine ⟨1, bm1 (n - 1), 1, n, _, _, _, _, _, _, _, _, _, _, rfl, ⟨p2, p3⟩, hRI, Or.inl ⟨rfl, rfl, m, c3.2.2.2.1, ?_⟩⟩
    obtain ⟨⟨k, hmem⟩, hbest⟩ := c2
    obtain ⟨k', x, C, f1, f2, f3, f4, f5⟩ := fam_pm hW p2 hbit k T g m hT hmem
    have hpl := pcF_le 16 T
    have h5 : (2 ^ 60 - 1) * pcF 16 T ≤ (2 ^ 60 - 1) * 16 := Nat.mul_le_mul_left _ hpl
    -- the least of all joins
    have low : ∀ Y, JT G T Y → x ≤ lX (lnC G) Y 60 := by
      intro Y hY
      obtain ⟨k2, x2, y1, y2⟩ := PM_complete hW hmet (cX Y 60) T Y (Nat.le_refl _) hY
      obtain ⟨g', m', C', z1, z2, z3⟩ := pm_fam hW p2 hbit k2 T x2 hT y1
      have hb := hbest g' m' z1
      obtain ⟨k3, hz⟩ := z1
      obtain ⟨k4, x4, C4, w1, w2, w3, w4, w5⟩ := fam_pm hW p2 hbit k3 T g' m' hT hz
      have e1 : ((g, m) : Int × Nat).1 = g := rfl
      have e2 : ((g, m) : Int × Nat).2 = m := rfl
      rw [e1, e2] at hb
      have e3 : C4 = C' := by omega
      omega
    obtain ⟨X, x1, x2⟩ := PM_join hW hmet k' T x f1
    have x3 := low X x1
    have hl := lenC (G := G) x1.1.1
    have hX := x1.1.1
    have e4 : csC G X = C := by omega
    have e5 : X = m := by omega
    subst e5
    refine ⟨x1, fun Y hY => ?_⟩
    have h1 := low Y hY
    have h2 := lenC (G := G) hY.1.1
    have h3 := hY.1.1
    have h4 := cX_le X 60
    have h6 := cX_le Y 60
    have h7 : csC G X < csC G Y ∨ (csC G X = csC G Y ∧ Y ≤ X) := by omega
    unfold csC at h7
    omega
