/-- what comes when the least node is left, freely (0), never (1), or by an arc out of the set (2) -/
def LF (Fb : Nat → Int → Nat → Prop) (mk : Nat → Nat → Nat) (lv s : Nat) : Int → Nat → Prop := fun g m => (lv = 0 ∧ Fb (rst s) g m) ∨ (lv = 2 ∧ 0 < fo (mk (low 16 s)) s ∧ Fsh (Fb (rst s)) (-1) (fo (mk (low 16 s)) s) g m)
theorem Fsh0 {A : Int → Nat → Prop} (g : Int) (m : Nat) : Fsh A 0 0 g m ↔ A g m := by
  constructor
  · rintro ⟨g', m', h, rfl, rfl⟩
    rw [Int.add_zero]; exact h
  · intro h; exact ⟨g, m, h, (Int.add_zero g).symm, rfl⟩
theorem chooseFor_eq {F : Nat} (hF : 100000 ≤ F) {sl so se later laters : Nat → Int32} {n : Nat} {e a b : Nat → Nat} (hR : RI sl so se n e a b) {adj : Nat → Nat} (hrow : ∀ u, u < 16 → rowOK later laters adj u) {Fb : Nat → Int → Nat → Prop} {gn : Nat → Nat → Int} {mk : Nat → Nat → Nat} {gain : Nat → Int32} {mark : Nat → Int64} (hG : ∀ v u, v < 16 → u < 16 → (adj v).testBit u = true → (gain (v * 16 + u)).toInt = gn v u) (hM : ∀ v u, v < 16 → u < 16 → mark (v * 16 + u) = lN (mk v u) ∧ mk v u < 2 ^ 62)
    {p : Nat} (hp : p < n) (h0 : 0 < e p) (hcl : ∀ u, u ∈ nbr (adj (low 16 (e p))) (low 16 (e p)) → (rst (e p)).testBit u = true → ∃ p', p' < p ∧ e p' = dif (rst (e p)) (2 ^ u)) {lv : Nat} (hlv : lv < 3) (hre : lv ≠ 1 → ∃ p', p' < p ∧ e p' = rst (e p)) (hbd : ∀ g m, (LF Fb mk lv (e p) g m ∨ CL Fb gn mk adj (e p) 0 g m) → Bnd g m)
    {bg : Nat → Int32} {bm : Nat → Int64} (hd : ∀ p', p' < p → ∃ ob, enc (bg p') (bm p') ob ∧ Opt (Fb (e p')) ob) (hi : bg p = -1000000000) :
    ∃ bg' bm' o', f_X0_chooseFor F (nI p) (nI (e p)) (nI lv) sl so se later laters (nI n) gain mark bg bm = some (bg', bm') ∧ (∀ q, q ≠ p → bg' q = bg q ∧ bm' q = bm q) ∧ enc (bg' p) (bm' p) o' ∧ Opt (fun g m => LF Fb mk lv (e p) g m ∨ CL Fb gn mk adj (e p) 0 g m) o' := by
  have hn := hR.1
  have hs16 := (hR.2.2.2.1 p hp).2.1
  have hl16 : low 16 (e p) < 16 := low_lt (k := 16) h0 hs16
  have hlen2 : (nbr (adj (low 16 (e p))) (low 16 (e p))).length ≤ 15 - low 16 (e p) := nbrF_len (adj (low 16 (e p))) (15 - low 16 (e p)) (low 16 (e p) + 1)
  have hnone : enc (bg p) (bm p) none := hi
  -- the loop behind the leaving
  have lp : ∀ (bg1 : Nat → Int32) (bm1 : Nat → Int64) (o1 : Option (Int × Nat)), (∀ q, q ≠ p → bg1 q = bg q ∧ bm1 q = bm q) → enc (bg1 p) (bm1 p) o1 → Opt (LF Fb mk lv (e p)) o1 →
      ∃ bg' bm' o', f_X0_chooseFor_L67 F sl so se later laters (nI n) gain mark (nI p) (nI (e p)) (fun x y => some (x, y)) F 0 bg1 bm1 = some (bg', bm') ∧ (∀ q, q ≠ p → bg' q = bg q ∧ bm' q = bm q) ∧ enc (bg' p) (bm' p) o' ∧ Opt (fun g m => LF Fb mk lv (e p) g m ∨ CL Fb gn mk adj (e p) 0 g m) o' := by
    intro bg1 bm1 o1 hq ho hA
    obtain ⟨bg2, bm2, o2, x1, x2, x3, x4⟩ := chooseFor_L hF hR hrow (Fb := Fb) hG hM hp h0 hcl (fun g m h => hbd g m (Or.inr h)) (kk := fun x y => some (x, y)) _ F 0 bg1 bm1 o1 _ (Nat.zero_add _) (by omega) (fun p' hp' => by
      obtain ⟨y1, y2⟩ := hq p' (by omega)
      rw [y1, y2]; exact hd p' hp') ho hA
    refine ⟨bg2, bm2, o2, ?_, fun q hq2 => ?_, x3, x4⟩
    · rw [z32, x1]
    · obtain ⟨y1, y2⟩ := x2 q hq2
      obtain ⟨y3, y4⟩ := hq q hq2
      exact ⟨y1.trans y3, y2.trans y4⟩
  unfold f_X0_chooseFor
  simp only [jn]
  by_cases c0 : lv = 0
  · subst c0
    obtain ⟨p', q1, q2⟩ := hre (by decide)
    obtain ⟨ob, w1, w2⟩ := hd p' q1
    rw [q2] at w2
    have w3 : Opt (LF Fb mk 0 (e p)) (osh ob 0 0) := Opt.congr (fun g m => by
      rw [Fsh0]
      constructor
      · intro h; exact Or.inl ⟨rfl, h⟩
      · rintro (⟨-, h⟩ | ⟨h, -⟩)
        · exact h
        · exact absurd h (by decide)) (w2.shift 0 0)
    obtain ⟨bg1, bm1, t1, t2, t3⟩ := take_eq hF hR hp (p' := p') (by omega) (mg := 0) (mm := 0) (x := 0) (y := 0) (by decide) rfl w1 hnone (opt_bd w2 (fun g m h => hbd g m (Or.inl (Or.inl ⟨rfl, (Fsh0 g m).mp h⟩))))
    rw [q2] at t1
    rw [if_pos (show nI 0 = (0 : Int32) from rfl), rst_nI h0 hs16, t1, b2S]
    exact lp bg1 bm1 _ t3 t2 w3
  · rw [if_neg (nI_ne0 (show 0 < lv by omega) (by omega))]
    by_cases c2 : lv = 2
    · subst c2
      rw [if_pos (show nI 2 = (2 : Int32) from rfl), least_nI h0 hs16]
      obtain ⟨f1, f2⟩ := firstOutOf_eq hF hs16 hl16 (mark := mark) (mr := mk (low 16 (e p))) (fun w hw => hM _ w hl16 hw)
      rw [f1, bS]
      by_cases d : fo (mk (low 16 (e p))) (e p) = 0
      · rw [if_pos (by rw [show (0 : Int64) = lN 0 from rfl, cmp_eq (by omega) (by decide)]; exact d)]
        refine lp bg bm none (fun _ _ => ⟨rfl, rfl⟩) hnone ?_
        rintro g m (⟨h, -⟩ | ⟨-, h, -⟩)
        · exact absurd h (by decide)
        · omega
      · rw [if_neg (fun h => by rw [show (0 : Int64) = lN 0 from rfl, cmp_eq (by omega) (by decide)] at h; exact d h)]
        obtain ⟨p', q1, q2⟩ := hre (by decide)
        obtain ⟨ob, w1, w2⟩ := hd p' q1
        rw [q2] at w2
        have w3 : Opt (LF Fb mk 2 (e p)) (osh ob (-1) (fo (mk (low 16 (e p))) (e p))) := Opt.congr (fun g m => by
          constructor
          · intro h; exact Or.inr ⟨rfl, by omega, h⟩
          · rintro (⟨h, -⟩ | ⟨-, -, h⟩)
            · exact absurd h (by decide)
            · exact h) (w2.shift (-1) (fo (mk (low 16 (e p))) (e p)))
        obtain ⟨bg1, bm1, t1, t2, t3⟩ := take_eq hF hR hp (p' := p') (by omega) (mg := f_X0_gainOf 4 0) (mm := lN (fo (mk (low 16 (e p))) (e p))) (x := -1) (y := fo (mk (low 16 (e p))) (e p)) (by decide) rfl w1 hnone (opt_bd w2 (fun g m h => hbd g m (Or.inl (Or.inr ⟨rfl, by omega, h⟩))))
        rw [q2] at t1
        rw [rst_nI h0 hs16, t1, b2S]
        exact lp bg1 bm1 _ t3 t2 w3
    · rw [if_neg (show ¬ nI lv = (2 : Int32) from fun h => c2 ((nI_eq (b := 2) (by omega) (by decide)).mp h))]
      refine lp bg bm none (fun _ _ => ⟨rfl, rfl⟩) hnone ?_
      rintro g m (⟨h, -⟩ | ⟨h, -⟩)
      · exact absurd h c0
      · exact absurd h c2
theorem choose_L {F : Nat} (hF : 100000 ≤ F) {sl so se later laters : Nat → Int32} {n : Nat} {e a b : Nat → Nat} (hR : RI sl so se n e a b) {adj : Nat → Nat} (hrow : ∀ u, u < 16 → rowOK later laters adj u) {ml : Int32} (hC : Cl ml adj n e) {Fb : Nat → Int → Nat → Prop} {gn : Nat → Nat → Int} {mk : Nat → Nat → Nat} {gain : Nat → Int32} {mark : Nat → Int64} (hG : ∀ v u, v < 16 → u < 16 → (adj v).testBit u = true → (gain (v * 16 + u)).toInt = gn v u) (hM : ∀ v u, v < 16 → u < 16 → mark (v * 16 + u) = lN (mk v u) ∧ mk v u < 2 ^ 62)
    {lv : Nat} (hlv : lv < 3) (hml : lv ≠ 1 → ml = 1) (hF0 : ∀ g m, Fb 0 g m ↔ g = 0 ∧ m = 0) (hFs : ∀ p, p < n → 0 < e p → ∀ g m, Fb (e p) g m ↔ (LF Fb mk lv (e p) g m ∨ CL Fb gn mk adj (e p) 0 g m)) (hbd : ∀ p, p < n → ∀ g m, Fb (e p) g m → Bnd g m)
    {kk : (Nat → Int32) → (Nat → Int64) → Option ((Nat → Int32) × (Nat → Int64))} :
    ∀ (k m p : Nat) (bg : Nat → Int32) (bm : Nat → Int64), p + k = n → k < m → (∀ p', p' < p → ∃ ob, enc (bg p') (bm p') ob ∧ Opt (Fb (e p')) ob) →
      ∃ bg' bm', f_X0_choose_L2 F sl so se later laters (nI n) gain mark (nI lv) kk m (nI p) bg bm = kk bg' bm' ∧ ∀ p', p' < n → ∃ ob, enc (bg' p') (bm' p') ob ∧ Opt (Fb (e p')) ob := by
  have hn := hR.1
  intro k
  induction k with
  | zero =>
    intro m p bg bm e1 hm hd
    obtain ⟨m, rfl⟩ : ∃ k, m = k + 1 := ⟨m - 1, by omega⟩
    refine ⟨bg, bm, ?_, fun p' hp' => hd p' (by omega)⟩
    unfold f_X0_choose_L2
    rw [if_pos (by rw [nI_leI (by omega) (by omega)]; omega)]
  | succ k ih =>
    intro m p bg bm e1 hm hd
    obtain ⟨m, rfl⟩ : ∃ k, m = k + 1 := ⟨m - 1, by omega⟩
    obtain ⟨s1, s2, -⟩ := hR.2.2.2.1 p (by omega)
    unfold f_X0_choose_L2
    rw [if_neg (fun h => by rw [nI_leI (by omega) (by omega)] at h; omega), rd_nI (by omega) (by decide), s1, wr_nI (by omega) (by decide), nI_1]
    by_cases c : e p = 0
    · rw [if_pos (by rw [c]; rfl), wr_nI (by omega) (by decide)]
      refine ih m (p + 1) _ _ (by omega) (by omega) (fun p' hp' => ?_)
      by_cases d : p' = p
      · subst d
        rw [up_s, up_s, c]
        refine ⟨some (0, 0), ⟨by decide, by decide, by decide, rfl, by decide⟩, (hF0 0 0).mpr ⟨rfl, rfl⟩, fun g m h => ?_⟩
        obtain ⟨rfl, rfl⟩ := (hF0 g m).mp h
        exact Or.inr ⟨rfl, Nat.le_refl _⟩
      · rw [up_n d, up_n d]
        exact hd p' (by omega)
    · have h0 : 0 < e p := by omega
      rw [if_neg (nI_ne0 h0 (by omega)), wr_nI (by omega) (by decide)]
      obtain ⟨bg1, bm1, o1, t1, t2, t3, t4⟩ := chooseFor_eq hF hR hrow (Fb := Fb) hG hM (p := p) (by omega) h0 ((hC p (by omega) h0).2) hlv (fun h => (hC p (by omega) h0).1 (hml h)) (fun g m h => hbd p (by omega) g m ((hFs p (by omega) h0 g m).mpr h)) (bg := va_up bg p (-1000000000)) (bm := va_up bm p 0) (fun p' hp' => by
        rw [up_n (by omega), up_n (by omega)]; exact hd p' hp') (up_s _ _ _)
      rw [t1, b2S]
      refine ih m (p + 1) bg1 bm1 (by omega) (by omega) (fun p' hp' => ?_)
      by_cases d : p' = p
      · subst d
        exact ⟨o1, t3, Opt.congr (fun g m => (hFs p' (by omega) h0 g m).symm) t4⟩
      · obtain ⟨y1, y2⟩ := t2 p' d
        rw [y1, y2, up_n d, up_n d]
        exact hd p' (by omega)
theorem choose_eq {F : Nat} (hF : 100000 ≤ F) {full : Nat} {ml : Int32} {adj : Nat → Nat} {n : Nat} {e : Nat → Nat} {sl so se later laters : Nat → Int32} (hT : Tab full ml adj n e sl so se later laters) {Fb : Nat → Int → Nat → Prop} {gn : Nat → Nat → Int} {mk : Nat → Nat → Nat} {gain : Nat → Int32} {mark : Nat → Int64} (hG : ∀ v u, v < 16 → u < 16 → (adj v).testBit u = true → (gain (v * 16 + u)).toInt = gn v u) (hM : ∀ v u, v < 16 → u < 16 → mark (v * 16 + u) = lN (mk v u) ∧ mk v u < 2 ^ 62)
    {lv : Nat} (hlv : lv < 3) (hml : lv ≠ 1 → ml = 1) (hF0 : ∀ g m, Fb 0 g m ↔ g = 0 ∧ m = 0) (hFs : ∀ s, Pr0 full s → 0 < s → ∀ g m, Fb s g m ↔ (LF Fb mk lv s g m ∨ CL Fb gn mk adj s 0 g m)) (hbd : ∀ s, Pr0 full s → ∀ g m, Fb s g m → Bnd g m) (bg : Nat → Int32) (bm : Nat → Int64) :
    ∃ bg' bm' o, f_X0_choose F (nI lv) sl so se later laters (nI n) gain mark bg bm = some (bg', bm') ∧ Opt (Fb full) o ∧ enc (bg' (n - 1)) (bm' (n - 1)) o ∧ f_X0_found (nI n) bg' = some (if o = none then 0 else 1) ∧ f_X0_chosen (nI n) bm' = some (bm' (n - 1)) := by
  obtain ⟨⟨a, b, hR⟩, h0, hl, hC, hP, hrow⟩ := hT
  have hn := hR.1
  obtain ⟨bg', bm', t1, t2⟩ := choose_L hF hR hrow hC (Fb := Fb) hG hM hlv hml hF0 (fun p hp h => hFs _ (hP p hp) h) (fun p hp => hbd _ (hP p hp)) (kk := fun x y => some (x, y)) n F 0 bg bm (by omega) (by omega) (fun p' h => by omega)
  obtain ⟨o, e1, e2⟩ := t2 (n - 1) (by omega)
  rw [hl] at e2
  have hpred : nI n - 1 = nI (n - 1) := by
    obtain ⟨k, rfl⟩ : ∃ k, n = k + 1 := ⟨n - 1, by omega⟩
    exact nI_pred k
  refine ⟨bg', bm', o, ?_, e2, e1, ?_, ?_⟩
  · unfold f_X0_choose
    simp only [jn]
    rw [z32, t1]
  · unfold f_X0_found
    rw [if_neg (fun h => by rw [z32, nI_leI (by omega) (by decide)] at h; omega), hpred, rd_nI (by omega) (by decide)]
    cases o with
    | none => rw [if_pos (show bg' (n - 1) = -1000000000 from e1), if_pos rfl]
    | some x =>
      rw [if_neg (fun h => by have := e1.1; rw [h, m9] at this; have := e1.2.1; omega), if_neg (fun h => by cases h)]
  · unfold f_X0_chosen
    rw [if_neg (fun h => by rw [z32, nI_leI (by omega) (by decide)] at h; omega), hpred, rd_nI (by omega) (by decide)]
