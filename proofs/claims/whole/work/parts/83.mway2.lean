theorem way_L {G : Gr} (hW : Wf G) {nodes made : Int32} {fm tm wm am : Nat → Int32} (hC : MG G nodes made fm tm wm am) {way : Nat} (hw : way < 4) {best : Nat → Int32} (hbest : ∀ t, t ≤ allN G → Mb G way t (best t)) {X : Nat} (hX : IsV G way X) {has : Nat → Int32} (hhas : has way = 1)
    {kk : (Nat → Int32) → (Nat → Int32) → (Nat → Int32) → Option ((Nat → Int32) × (Nat → Int32) × (Nat → Int32) × (Nat → Int32) × (Nat → Int32) × (Nat → Int32) × (Nat → Int32) × (Nat → Int32))} :
    ∀ (k m i L : Nat) (mates sizes sums : Nat → Int32), i + k = md G → k < m → LeftOf G X i L → MM G X i way mates → sizes way = nI (cX X i) → sums way = nI (wX G X i) →
      ∃ mates' sizes' sums', f_X12_findWay_L118 made fm tm wm am (nI way) best has kk m (nI L) (best L) (nI i) mates sizes sums = kk mates' sizes' sums' ∧ MM G X (md G) way mates' ∧ sizes' way = nI (cX X (md G)) ∧ sums' way = nI (wX G X (md G)) ∧ ∀ w, w ≠ way → sizes' w = sizes w ∧ sums' w = sums w ∧ ∀ v, v < 16 → mates' (w * 16 + v) = mates (w * 16 + v) := by
  obtain ⟨-, hm, hA⟩ := hC
  have h60 := hW.2.1
  have h16 := hW.1
  have hall := allN_lt hW
  intro k
  induction k with
  | zero =>
    intro m i L mates sizes sums e1 hk hL hM hs hu
    obtain ⟨m, rfl⟩ : ∃ k, m = k + 1 := ⟨m - 1, by omega⟩
    have : i = md G := by omega
    subst this
    refine ⟨mates, sizes, sums, ?_, hM, hs, hu, fun w _ => ⟨rfl, rfl, fun _ _ => rfl⟩⟩
    unfold f_X12_findWay_L118
    rw [hm, if_pos ((nI_leI (by omega) (by omega)).mpr (Nat.le_refl _))]
  | succ k ih =>
    intro m i L mates sizes sums e1 hk hL hM hs hu
    obtain ⟨m, rfl⟩ : ∃ k, m = k + 1 := ⟨m - 1, by omega⟩
    have hi : i < md G := by omega
    obtain ⟨a1, a2, a3, a4⟩ := hA i hi
    obtain ⟨w1, w2, w3, hwt⟩ := hW.2.2 i hi
    have hLle : L ≤ allN G := by
      have : L < 2 ^ nd G := lt_of_bits (fun v hv => ((hL v).mp hv).1)
      unfold allN
      omega
    -- the arc is not taken
    have skip : inX X i = false → ∃ mates' sizes' sums', f_X12_findWay_L118 made fm tm wm am (nI way) best has kk m (nI L) (best L) (nI i + 1) mates sizes sums = kk mates' sizes' sums' ∧ MM G X (md G) way mates' ∧ sizes' way = nI (cX X (md G)) ∧ sums' way = nI (wX G X (md G)) ∧ ∀ w, w ≠ way → sizes' w = sizes w ∧ sums' w = sums w ∧ ∀ v, v < 16 → mates' (w * 16 + v) = mates (w * 16 + v) := by
      intro hx
      rw [nI_1]
      refine ih m (i + 1) L mates sizes sums (by omega) (by omega) (left_out hx hL) (fun v hv => ?_) ?_ ?_
      · rcases hM v hv with ⟨j, j1, j2, j3, j4⟩ | ⟨j1, j2⟩
        · exact Or.inl ⟨j, by omega, j2, j3, j4⟩
        · refine Or.inr ⟨fun j hj hjx => ?_, j2⟩
          by_cases c : j = i
          · rw [c, hx] at hjx; cases hjx
          · exact j1 j (by omega) hjx
      · rw [cX_s, hx, if_neg (by decide)]; exact hs
      · rw [wX_s, hx, if_neg (by decide)]; exact hu
    unfold f_X12_findWay_L118
    rw [hm, if_neg (fun h => by rw [nI_leI (by omega) (by omega)] at h; omega), rd_nI (by omega) (by decide), hhas, if_neg (by decide), rd_nI (by omega) (by decide), a4]
    simp only [jn]
    rw [← hm]
    by_cases c : al G i = true
    · rw [if_pos c, if_neg (by decide), rd_nI (by omega) (by decide), rd_nI (by omega) (by decide), a1, a2, bothM hW hi]
      obtain ⟨bl1, bl2⟩ := both_lt hW hi
      rw [if_neg (nI_ne0 bl1 (by omega)), nx_and]
      have hle2 : L &&& (2 ^ fr G i ||| 2 ^ tt G i) ≤ L := Nat.and_le_left
      by_cases d : L &&& (2 ^ fr G i ||| 2 ^ tt G i) = (2 ^ fr G i ||| 2 ^ tt G i)
      · obtain ⟨d1, d2⟩ := sub_both.mp d
        have hdl := dif_le L (2 ^ fr G i ||| 2 ^ tt G i)
        have hMb := hbest L hLle
        have hMb' := hbest (dif L (2 ^ fr G i ||| 2 ^ tt G i)) (by omega)
        have hiff := take_iff hW hX hi c hL d1 d2 hMb hMb'
        rw [if_pos (by rw [d]), nI_dif, rd_nI (by omega) (by decide)]
        by_cases e : (-1000000000 : Int32) < best (dif L (2 ^ fr G i ||| 2 ^ tt G i))
        · obtain ⟨r, r1, r2⟩ := valueOf_eq (wm := wm) hwt hw (show i < 60 by omega) a3
          rw [if_pos e, r1, bS, rd_nI (by omega) (by decide)]
          have hne : best (dif L (2 ^ fr G i ||| 2 ^ tt G i)) ≠ -1000000000 := fun x => by rw [x, Int32.lt_iff_toInt_lt] at e; omega
          have hbb : -10000000 < (best (dif L (2 ^ fr G i ||| 2 ^ tt G i))).toInt ∧ (best (dif L (2 ^ fr G i ||| 2 ^ tt G i))).toInt < 10000000 := by
            rcases hMb' with ⟨x, -⟩ | ⟨x, y, -⟩
            · exact absurd x hne
            · exact ⟨x, y⟩
          have hvb := vm_bd (way := way) hwt
          have hsum : (r + best (dif L (2 ^ fr G i ||| 2 ^ tt G i))).toInt = vm way (wt G i) + (best (dif L (2 ^ fr G i ||| 2 ^ tt G i))).toInt := by
            rw [i32_add (by omega) (by omega), r2]
          by_cases f : r + best (dif L (2 ^ fr G i ||| 2 ^ tt G i)) = best L
          · have hin : inX X i = true := hiff.mp ⟨hne, by rw [← hsum, f]⟩
            rw [if_pos f, rd_nI (by omega) (by decide), rd_nI (by omega) (by decide), a1, cell2_nI, wr_nI (by omega) (by decide), rd_nI (by omega) (by decide), a2, cell2_nI, wr_nI (by omega) (by decide), rd_nI (by omega) (by decide), wr_nI (by omega) (by decide), rd_nI (by omega) (by decide), rd_nI (by omega) (by decide), wr_nI (by omega) (by decide), nI_1, hs, hu, a3, nI_1, nI_add]
            have hM' : MM G X (i + 1) way (va_up (va_up mates (way * 16 + fr G i) (nI i)) (way * 16 + tt G i) (nI i)) := by
              intro v hv
              by_cases g1 : v = fr G i
              · refine Or.inl ⟨i, by omega, hin, Or.inl g1.symm, ?_⟩
                rw [g1, up_n (by omega), up_s]
              · by_cases g2 : v = tt G i
                · refine Or.inl ⟨i, by omega, hin, Or.inr g2.symm, ?_⟩
                  rw [g2, up_s]
                · rw [up_n (by omega), up_n (by omega)]
                  rcases hM v hv with ⟨j, j1, j2, j3, j4⟩ | ⟨j1, j2⟩
                  · exact Or.inl ⟨j, by omega, j2, j3, j4⟩
                  · refine Or.inr ⟨fun j hj hjx => ?_, j2⟩
                    by_cases cc : j = i
                    · rw [cc]; exact ⟨fun x => g1 x.symm, fun x => g2 x.symm⟩
                    · exact j1 j (by omega) hjx
            obtain ⟨m', s', u', x1, x2, x3, x4, x5⟩ := ih m (i + 1) (dif L (2 ^ fr G i ||| 2 ^ tt G i)) (va_up (va_up mates (way * 16 + fr G i) (nI i)) (way * 16 + tt G i) (nI i)) (va_up sizes way (nI (cX X i + 1))) (va_up sums way (nI (wX G X i + wt G i))) (by omega) (by omega) (left_in hin hL) hM' (by rw [up_s, cX_s, hin, if_pos rfl]) (by rw [up_s, wX_s, hin, if_pos rfl])
            refine ⟨m', s', u', x1, x2, x3, x4, fun w hne2 => ?_⟩
            obtain ⟨y1, y2, y3⟩ := x5 w hne2
            refine ⟨by rw [y1, up_n hne2], by rw [y2, up_n hne2], fun v hv => ?_⟩
            rw [y3 v hv, up_n (by omega), up_n (by omega)]
          · rw [if_neg f]
            refine skip ?_
            cases hh : inX X i with
            | false => rfl
            | true =>
              have := (hiff.mpr hh).2
              exact absurd (Int32.toInt_inj.mp (by rw [hsum]; exact this)) f
        · rw [if_neg e]
          refine skip ?_
          cases hh : inX X i with
          | false => rfl
          | true =>
            have hne := (hiff.mpr hh).1
            rcases hMb' with ⟨x, -⟩ | ⟨x, -⟩
            · exact absurd x hne
            · exact absurd (by rw [Int32.lt_iff_toInt_lt, m9]; omega) e
      · rw [if_neg (fun h => d ((nI_eq (by omega) (by omega)).mp h))]
        refine skip ?_
        cases hh : inX X i with
        | false => rfl
        | true =>
          obtain ⟨-, -, y3, y4⟩ := in_left hX (by omega) hL hh
          exact absurd (sub_both.mpr ⟨y3, y4⟩) d
    · rw [if_neg c, if_pos rfl, if_pos trivial]
      refine skip ?_
      cases hh : inX X i with
      | false => rfl
      | true => exact absurd (in_left hX (by omega) hL hh).2.1 c
