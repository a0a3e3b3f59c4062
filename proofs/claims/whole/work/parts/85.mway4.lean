theorem b8z {α1 α2 α3 β : Type} (a : α1) (b : α2) (c : α3) (k : α1 → α2 → α3 → Option β) : bd3 (some (a, b, c)) k = k a b c := rfl
theorem left_0 {G : Gr} (X : Nat) : LeftOf G X 0 (allN G) := by
  intro v
  rw [allN_bit, decide_eq_true_eq]
  exact ⟨fun h => ⟨h, fun i hi => by omega⟩, fun h => h.1⟩
/-- what findWay leaves of a way -/
def MWay (G : Gr) (way : Nat) (mates sizes sums has : Nat → Int32) : Prop := (has way = 0 ∧ ∀ X, Mt G (allN G) X → (1 < way → Pf G (allN G) X) → False) ∨ (has way = 1 ∧ ∃ X, IsV G way X ∧ MM G X (md G) way mates ∧ sizes way = nI (cX X (md G)) ∧ sums way = nI (wX G X (md G)))
theorem small0 {G : Gr} {t : Nat} {b : Int32} (h : Mb G 0 t b) : ∃ c, c < 128 ∧ b = nI c := by
  have hc : ∀ X k, sumX (fun i => vm 0 (wt G i)) X k = (cX X k : Int) := by
    intro X k
    induction k with
    | zero => rfl
    | succ k ih =>
      have e1 : sumX (fun i => vm 0 (wt G i)) X (k + 1) = sumX (fun i => vm 0 (wt G i)) X k + if inX X k = true then 1 else 0 := rfl
      rw [e1, cX_s, ih]
      by_cases c : inX X k = true
      · rw [if_pos c, if_pos c]; omega
      · rw [if_neg c, if_neg c]; omega
  rcases h with ⟨-, h⟩ | ⟨-, -, ⟨X, -, -, h3⟩, -⟩
  · exfalso
    refine h 0 ⟨by decide, fun i _ hx => ?_, fun i j _ _ hx => ?_⟩ (fun x => by omega)
    · unfold inX at hx; rw [Nat.zero_testBit] at hx; cases hx
    · unfold inX at hx; rw [Nat.zero_testBit] at hx; cases hx
  · have hle := cX_le X 60
    refine ⟨cX X 60, by omega, Int32.toInt_inj.mp ?_⟩
    rw [← h3, hc, nI_toInt (by omega)]
theorem mway_eq {F : Nat} (hF : 100000 ≤ F) {G : Gr} (hW : Wf G) {nodes made : Int32} {fm tm wm am : Nat → Int32} (hC : MG G nodes made fm tm wm am) {way : Nat} (hw : way < 4) (best most near worth mates sizes sums has : Nat → Int32) :
    ∃ best' most' near' worth' mates' sizes' sums' has', f_X12_findWay F (nI way) nodes made fm tm wm am best most near worth mates sizes sums has = some (best', most', near', worth', mates', sizes', sums', has') ∧ (∀ t, t ≤ allN G → Mb G way t (best' t)) ∧ WT G (fun i => vm way (wt G i)) (md G) near' worth' ∧ (way = 0 → ∀ t, t ≤ allN G → most' t = best' t) ∧ (way ≠ 0 → most' = most) ∧ MWay G way mates' sizes' sums' has' ∧ ∀ w, w ≠ way → sizes' w = sizes w ∧ sums' w = sums w ∧ has' w = has w ∧ ∀ v, v < 16 → mates' (w * 16 + v) = mates (w * 16 + v) := by
  have hall := allN_lt hW
  have h60 := hW.2.1
  obtain ⟨b1, n1, w1, f1, f2, f3⟩ := mfindBest_eq hF hW hC hw best near worth
  have hMb := f3 (allN G) (Nat.le_refl _)
  -- behind the first loop
  have tail : ∀ most5 : Nat → Int32, ∃ mates' sizes' sums' has', f_X12_findWay_L40 (nI way) (fun m6 => wr 4 sizes (nI way) 0 fun s7 => wr 4 sums (nI way) 0 fun u8 => rd 65536 b1 (f_X12_all nodes) fun y => if y ≤ -1000000000 then wr 4 has (nI way) (0 &&& 1) fun h14 => rd 65536 b1 (f_X12_all nodes) fun y17 => f_X12_findWay_L118 made fm tm wm am (nI way) b1 h14 (fun a b c => some (b1, most5, n1, w1, a, b, c, h14)) F (f_X12_all nodes) y17 0 m6 s7 u8 else wr 4 has (nI way) (1 &&& 1) fun h14 => rd 65536 b1 (f_X12_all nodes) fun y17 => f_X12_findWay_L118 made fm tm wm am (nI way) b1 h14 (fun a b c => some (b1, most5, n1, w1, a, b, c, h14)) F (f_X12_all nodes) y17 0 m6 s7 u8) F 0 mates = some (b1, most5, n1, w1, mates', sizes', sums', has') ∧ MWay G way mates' sizes' sums' has' ∧ ∀ w, w ≠ way → sizes' w = sizes w ∧ sums' w = sums w ∧ has' w = has w ∧ ∀ v, v < 16 → mates' (w * 16 + v) = mates (w * 16 + v) := by
    intro most5
    rw [z32]
    obtain ⟨m6, p1, p2, p3⟩ := mates0_L hw (kk := fun m6 => wr 4 sizes (nI way) (nI 0) fun s7 => wr 4 sums (nI way) (nI 0) fun u8 => rd 65536 b1 (f_X12_all nodes) fun y => if y ≤ -1000000000 then wr 4 has (nI way) (nI 0 &&& 1) fun h14 => rd 65536 b1 (f_X12_all nodes) fun y17 => f_X12_findWay_L118 made fm tm wm am (nI way) b1 h14 (fun a b c => some (b1, most5, n1, w1, a, b, c, h14)) F (f_X12_all nodes) y17 (nI 0) m6 s7 u8 else wr 4 has (nI way) (1 &&& 1) fun h14 => rd 65536 b1 (f_X12_all nodes) fun y17 => f_X12_findWay_L118 made fm tm wm am (nI way) b1 h14 (fun a b c => some (b1, most5, n1, w1, a, b, c, h14)) F (f_X12_all nodes) y17 (nI 0) m6 s7 u8) 16 F 0 mates (by omega) (by omega) (fun u hu => by omega)
    rw [p1, wr_nI (by omega) (by decide), wr_nI (by omega) (by decide), hC.1, mall_eq hW, rd_nI (by omega) (by decide)]
    by_cases c : b1 (allN G) ≤ -1000000000
    · have hno : ∀ X, Mt G (allN G) X → (1 < way → Pf G (allN G) X) → False := by
        rcases hMb with ⟨-, h⟩ | ⟨h, -⟩
        · exact h
        · rw [Int32.le_iff_toInt_le, m9] at c; omega
      rw [if_pos c, wr_nI (by omega) (by decide), rd_nI (by omega) (by decide)]
      have hex : f_X12_findWay_L118 made fm tm wm am (nI way) b1 (va_up has way (nI 0 &&& 1)) (fun a b c => some (b1, most5, n1, w1, a, b, c, va_up has way (nI 0 &&& 1))) F (nI (allN G)) (b1 (allN G)) (nI 0) m6 (va_up sizes way (nI 0)) (va_up sums way (nI 0)) = some (b1, most5, n1, w1, m6, va_up sizes way (nI 0), va_up sums way (nI 0), va_up has way (nI 0 &&& 1)) := by
        obtain ⟨f, rfl⟩ : ∃ k, F = k + 1 := ⟨F - 1, by omega⟩
        unfold f_X12_findWay_L118
        by_cases d : made ≤ nI 0
        · rw [if_pos d]
        · rw [if_neg d, rd_nI (by omega) (by decide), up_s, if_pos (show nI 0 &&& 1 = (0 : Int32) from rfl)]
      rw [hex]
      refine ⟨_, _, _, _, rfl, Or.inl ⟨by rw [up_s]; rfl, hno⟩, fun w hne => ⟨up_n hne, up_n hne, up_n hne, fun v hv => p3 w hne v hv⟩⟩
    · have hne9 : b1 (allN G) ≠ -1000000000 := fun x => c (by rw [x, Int32.le_iff_toInt_le]; omega)
      obtain ⟨X, hX⟩ := isV_exists hMb hne9
      rw [if_neg c, wr_nI (by omega) (by decide), rd_nI (by omega) (by decide)]
      obtain ⟨m', s', u', x1, x2, x3, x4, x5⟩ := way_L hW hC hw f3 hX (has := va_up has way (1 &&& 1)) (by rw [up_s]; rfl) (kk := fun a b c => some (b1, most5, n1, w1, a, b, c, va_up has way (1 &&& 1))) (md G) F 0 (allN G) m6 (va_up sizes way (nI 0)) (va_up sums way (nI 0)) (by omega) (by omega) (left_0 X) (fun v hv => Or.inr ⟨fun i hi => by omega, p2 v hv⟩) (up_s _ _ _) (up_s _ _ _)
      rw [x1]
      refine ⟨_, _, _, _, rfl, Or.inr ⟨by rw [up_s]; rfl, X, hX, x2, x3, x4⟩, fun w hne => ?_⟩
      obtain ⟨y1, y2, y3⟩ := x5 w hne
      exact ⟨by rw [y1, up_n hne], by rw [y2, up_n hne], up_n hne, fun v hv => by rw [y3 v hv]; exact p3 w hne v hv⟩
  by_cases c : way = 0
  · subst c
    obtain ⟨most', q1, q2⟩ := most_L hW (best := b1) (fun t ht => small0 (f3 t ht)) (allN G + 1) F 0 most (by omega) (by omega) (fun t ht => by omega)
    obtain ⟨m', s', u', h', t1, t2, t3⟩ := tail most'
    refine ⟨b1, most', n1, w1, m', s', u', h', ?_, f3, f2, fun _ => q2, fun x => absurd rfl x, t2, t3⟩
    unfold f_X12_findWay
    rw [f1, b8z]
    simp only [jn]
    rw [hC.1] at t1 ⊢
    exact Eq.trans (q1 _) t1
  · obtain ⟨m', s', u', h', t1, t2, t3⟩ := tail most
    refine ⟨b1, most, n1, w1, m', s', u', h', ?_, f3, f2, fun x => absurd x c, fun _ => rfl, t2, t3⟩
    unfold f_X12_findWay
    rw [f1, b8z]
    simp only [jn]
    refine Eq.trans (b := f_X12_findWay_L40 (nI way) _ F 0 mates) ?_ t1
    obtain ⟨f, rfl⟩ : ∃ k, F = k + 1 := ⟨F - 1, by omega⟩
    rw [f_X12_findWay_L7, hC.1, mall_eq hW, if_neg (fun x => by rw [z32, nI_ltI (by omega) (by omega)] at x; omega), if_neg (nI_ne0 (show 0 < way by omega) (by omega))]
