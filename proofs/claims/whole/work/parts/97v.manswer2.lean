/-! ===== the reference's answers: shape, places, join, count, stable ===== -/
def Ash (G : Gr) (p : Int32) (a : Int32) : Prop := ((p < 0 ∨ ¬ p ≤ 4) ∧ a = -1) ∨ ∃ w, w ≤ 4 ∧ p = nI w ∧ SpS G (rH G w) a
theorem Ash_one {G : Gr} {p : Int32} {a b : Int32} (h : Ash G p a) (h' : Ash G p b) : a = b := by
  rcases h with ⟨h1, h2⟩ | ⟨w, w1, w2, w3⟩
  · rcases h' with ⟨k1, k2⟩ | ⟨x, x1, x2, x3⟩
    · rw [h2, k2]
    · rw [x2] at h1
      rcases h1 with h1 | h1
      · exact absurd h1 (nI_pos (by omega))
      · exact absurd ((nI_leI (b := 4) (by omega) (by decide)).mpr x1) h1
  · rcases h' with ⟨k1, k2⟩ | ⟨x, x1, x2, x3⟩
    · rw [w2] at k1
      rcases k1 with k1 | k1
      · exact absurd k1 (nI_pos (by omega))
      · exact absurd ((nI_leI (b := 4) (by omega) (by decide)).mpr w1) k1
    · have e : w = x := (nI_eq (by omega) (by omega)).mp (w2.symm.trans x2)
      subst e
      exact SpS_one (rH_f G w) w3 x3
theorem mshape_eq {F : Nat} (hF : 100000 ≤ F) {G : Gr} (hW : Wf G) {nodes made : Int32} {fm tm wm am : Nat → Int32} (hC : MG G nodes made fm tm wm am) (s : MKn) (h : MKO G s) (p : Int32) : ∃ (a : Int32) (s' : MKn), f_X12_shape F p nodes made fm tm wm am s.1 s.2.2.2.2.2.2.1 s.2.2.2.2.2.2.2.1 s.2.2.2.2.2.2.2.2.1 s.2.2.2.2.2.2.2.2.2.1 s.2.2.2.2.2.2.2.2.2.2.1 s.2.2.2.2.2.2.2.2.2.2.2.1 s.2.2.2.2.2.2.2.2.2.2.2.2.1 s.2.2.2.2.2.2.2.2.2.2.2.2.2.1 s.2.2.2.2.2.2.2.2.2.2.2.2.2.2.1 s.2.2.2.2.2.2.2.2.2.2.2.2.2.2.2.1 s.2.2.2.2.2.2.2.2.2.2.2.2.2.2.2.2.1 s.2.1 s.2.2.1 s.2.2.2.1 s.2.2.2.2.2.2.2.2.2.2.2.2.2.2.2.2.2.1 s.2.2.2.2.1 s.2.2.2.2.2.1 s.2.2.2.2.2.2.2.2.2.2.2.2.2.2.2.2.2.2.1 s.2.2.2.2.2.2.2.2.2.2.2.2.2.2.2.2.2.2.2.1 s.2.2.2.2.2.2.2.2.2.2.2.2.2.2.2.2.2.2.2.2 = some (a, s') ∧ MKO G s' ∧ Ash G p a := by
  have hn := hW.1
  have hall := allN_lt hW
  have hnod := hC.1
  unfold f_X12_shape
  by_cases c : p < 0
  · rw [if_pos c]
    exact ⟨-1, s, rfl, h, Or.inl ⟨Or.inl c, rfl⟩⟩
  · rw [if_neg c]
    by_cases d : p ≤ 4
    · rw [if_pos d]
      obtain ⟨w, w1, rfl⟩ : ∃ w, w ≤ 4 ∧ p = nI w := nI_of2 (M := 4) (n := 4) (by decide) c d
      obtain ⟨s', q1, q2, q3⟩ := know_st hF hW hC s h
      have hK : MKO G s' := Or.inr ⟨q2, q3⟩
      obtain ⟨c0, L, B, cm, cn, hQ, k1, k2, k3, k4, k5, k6⟩ := SoK_sp q3.2.2.1
      have hBL : ∀ v, B.testBit v = true → L.testBit v = false := fun v hv => ((hQ.2.2.2.1 v).mp hv).2.1
      have hs1 : ∀ v, v < nd G → (s'.2.2.2.2.2.2.2.2.2.2.2.2.2.2.2.1 v = 1 ↔ B.testBit v = true) := fun v hv => by rw [k3 v hv]; exact srt1 (hBL v)
      have hs2 : ∀ v, v < nd G → (s'.2.2.2.2.2.2.2.2.2.2.2.2.2.2.2.1 v = 1 ↔ (dif (allN G) B).testBit v = false) := fun v hv => by
        rw [hs1 v hv, dif_bit, allN_bit, decide_eq_true hv]
        cases B.testBit v <;> simp
      rw [q1, b21K]
      simp only [jn]
      have hw : w = 0 ∨ w = 1 ∨ w = 2 ∨ w = 3 ∨ w = 4 := by omega
      rcases hw with rfl | rfl | rfl | rfl | rfl
      · rw [if_pos (show nI 0 = (0 : Int32) from rfl), hnod, z32]
        have e := shape23_L hW hs1 (kk := fun v2 => some (v2, s')) (nd G) F 0 (by omega) (by omega)
        refine ⟨_, s', e, hK, Or.inr ⟨0, w1, rfl, c0, L, B, cm, cn, hQ, Or.inl ⟨rfl, rfl⟩⟩⟩
      · rw [if_neg (show ¬ nI 1 = (0 : Int32) by decide), if_pos (show nI 1 = (1 : Int32) from rfl), hnod, z32, k1]
        have hb := spl_bd (W := dif (allN G) B) (cm := cm) (nd G)
        have e := shape64_L hF hW hQ.2.2.2.2.1 hs2 k4 (kk := fun v2 => some (v2, s')) (spl (dif (allN G) B) cm (nd G)).2.2.1 F 0 (by omega) (by omega)
        refine ⟨_, s', ?_, hK, Or.inr ⟨1, w1, rfl, c0, L, B, cm, cn, hQ, Or.inr (Or.inl ⟨rfl, rfl⟩)⟩⟩
        rw [← k1] at e ⊢
        exact e
      · obtain ⟨mu, m1, m2, m3⟩ := mb0 hW (q3.2.1 _ (Nat.le_refl (allN G)))
        have e : mu = c0 := Mx_one m3 ⟨hQ.2.2.1.1, hQ.2.2.1.2.1⟩
        rw [if_neg (show ¬ nI 2 = (0 : Int32) by decide), if_neg (show ¬ nI 2 = (1 : Int32) by decide), if_pos (show nI 2 = (2 : Int32) from rfl), hnod, mall_eq hW, rd_nI (by omega) (by decide), m1, e]
        exact ⟨_, s', rfl, hK, Or.inr ⟨2, w1, rfl, c0, L, B, cm, cn, hQ, Or.inr (Or.inr (Or.inl ⟨rfl, rfl⟩))⟩⟩
      · rw [if_neg (show ¬ nI 3 = (0 : Int32) by decide), if_neg (show ¬ nI 3 = (1 : Int32) by decide), if_neg (show ¬ nI 3 = (2 : Int32) by decide), if_pos (show nI 3 = (3 : Int32) from rfl)]
        refine ⟨_, s', rfl, hK, Or.inr ⟨3, w1, rfl, c0, L, B, cm, cn, hQ, Or.inr (Or.inr (Or.inr (Or.inl ⟨rfl, ?_⟩)))⟩⟩
        by_cases q : Flg G (allN G) cn (nd G)
        · exact Or.inl ⟨q, k5 q⟩
        · exact Or.inr ⟨q, k6 q⟩
      · rw [if_neg (show ¬ nI 4 = (0 : Int32) by decide), if_neg (show ¬ nI 4 = (1 : Int32) by decide), if_neg (show ¬ nI 4 = (2 : Int32) by decide), if_neg (show ¬ nI 4 = (3 : Int32) by decide)]
        exact ⟨_, s', rfl, hK, Or.inr ⟨4, w1, rfl, c0, L, B, cm, cn, hQ, Or.inr (Or.inr (Or.inr (Or.inr ⟨rfl, k2⟩)))⟩⟩
    · rw [if_neg d]
      exact ⟨-1, s, rfl, h, Or.inl ⟨Or.inr d, rfl⟩⟩
theorem mcovArc_eq {F : Nat} (hF : 100000 ≤ F) {G : Gr} (hW : Wf G) {nodes made : Int32} {fm tm wm am : Nat → Int32} (hC : MG G nodes made fm tm wm am) (s : MKn) (h : MKO G s) (p : Int32) : ∃ (a : Int32) (s' : MKn), f_X12_coverArc F p nodes made fm tm wm am s.1 s.2.2.2.2.2.2.1 s.2.2.2.2.2.2.2.1 s.2.2.2.2.2.2.2.2.1 s.2.2.2.2.2.2.2.2.2.1 s.2.2.2.2.2.2.2.2.2.2.1 s.2.2.2.2.2.2.2.2.2.2.2.1 s.2.2.2.2.2.2.2.2.2.2.2.2.1 s.2.2.2.2.2.2.2.2.2.2.2.2.2.1 s.2.2.2.2.2.2.2.2.2.2.2.2.2.2.1 s.2.2.2.2.2.2.2.2.2.2.2.2.2.2.2.1 s.2.2.2.2.2.2.2.2.2.2.2.2.2.2.2.2.1 s.2.1 s.2.2.1 s.2.2.2.1 s.2.2.2.2.2.2.2.2.2.2.2.2.2.2.2.2.2.1 s.2.2.2.2.1 s.2.2.2.2.2.1 s.2.2.2.2.2.2.2.2.2.2.2.2.2.2.2.2.2.2.1 s.2.2.2.2.2.2.2.2.2.2.2.2.2.2.2.2.2.2.2.1 s.2.2.2.2.2.2.2.2.2.2.2.2.2.2.2.2.2.2.2.2 = some (a, s') ∧ MKO G s' ∧ SpC G (fun X => plF X p (md G) 0 0) a := by
  have h60 := hW.2.1
  have hmd := hC.2.1
  unfold f_X12_coverArc
  obtain ⟨s', q1, q2, q3⟩ := know_st hF hW hC s h
  rw [q1, b21K]
  simp only [jn]
  rcases q3.2.2.2.1 with ⟨x1, x2⟩ | ⟨X, x1, x2, x3⟩
  · rw [if_neg (show ¬ (0 : Int32) ≤ s'.2.2.2.2.1 by rw [x1]; decide)]
    exact ⟨_, s', rfl, Or.inr ⟨q2, q3⟩, Or.inr ⟨x2, rfl⟩⟩
  · have hc := cX_le X 60
    rw [if_pos (show (0 : Int32) ≤ s'.2.2.2.2.1 by rw [x2]; exact nI_pos' (by omega)), hmd, z32]
    have e := coverArc_L hW (s'.1) (s'.2.1) (s'.2.2.1) (s'.2.2.2.1) (s'.2.2.2.2.1) (s'.2.2.2.2.2.1) (s'.2.2.2.2.2.2.1) (s'.2.2.2.2.2.2.2.1) (s'.2.2.2.2.2.2.2.2.1) (s'.2.2.2.2.2.2.2.2.2.1) (s'.2.2.2.2.2.2.2.2.2.2.1) (s'.2.2.2.2.2.2.2.2.2.2.2.1) (s'.2.2.2.2.2.2.2.2.2.2.2.2.1) (s'.2.2.2.2.2.2.2.2.2.2.2.2.2.1) (s'.2.2.2.2.2.2.2.2.2.2.2.2.2.2.1) (s'.2.2.2.2.2.2.2.2.2.2.2.2.2.2.2.1) (s'.2.2.2.2.2.2.2.2.2.2.2.2.2.2.2.2.1) (s'.2.2.2.2.2.2.2.2.2.2.2.2.2.2.2.2.2.1) (s'.2.2.2.2.2.2.2.2.2.2.2.2.2.2.2.2.2.2.1) (s'.2.2.2.2.2.2.2.2.2.2.2.2.2.2.2.2.2.2.2.1) (s'.2.2.2.2.2.2.2.2.2.2.2.2.2.2.2.2.2.2.2.2) x3 (p := p) (md G) F 0 0 (by omega) (by omega)
    exact ⟨_, s', e, Or.inr ⟨q2, q3⟩, Or.inl ⟨X, x1, rfl⟩⟩
theorem mholdNode_eq {F : Nat} (hF : 100000 ≤ F) {G : Gr} (hW : Wf G) {nodes made : Int32} {fm tm wm am : Nat → Int32} (hC : MG G nodes made fm tm wm am) (s : MKn) (h : MKO G s) (p : Int32) : ∃ (a : Int32) (s' : MKn), f_X12_holdNode F p nodes made fm tm wm am s.1 s.2.2.2.2.2.2.1 s.2.2.2.2.2.2.2.1 s.2.2.2.2.2.2.2.2.1 s.2.2.2.2.2.2.2.2.2.1 s.2.2.2.2.2.2.2.2.2.2.1 s.2.2.2.2.2.2.2.2.2.2.2.1 s.2.2.2.2.2.2.2.2.2.2.2.2.1 s.2.2.2.2.2.2.2.2.2.2.2.2.2.1 s.2.2.2.2.2.2.2.2.2.2.2.2.2.2.1 s.2.2.2.2.2.2.2.2.2.2.2.2.2.2.2.1 s.2.2.2.2.2.2.2.2.2.2.2.2.2.2.2.2.1 s.2.1 s.2.2.1 s.2.2.2.1 s.2.2.2.2.2.2.2.2.2.2.2.2.2.2.2.2.2.1 s.2.2.2.2.1 s.2.2.2.2.2.1 s.2.2.2.2.2.2.2.2.2.2.2.2.2.2.2.2.2.2.1 s.2.2.2.2.2.2.2.2.2.2.2.2.2.2.2.2.2.2.2.1 s.2.2.2.2.2.2.2.2.2.2.2.2.2.2.2.2.2.2.2.2 = some (a, s') ∧ MKO G s' ∧ ∃ H, IsH G H ∧ a = plN H p (nd G) 0 0 := by
  have hn := hW.1
  have hnod := hC.1
  unfold f_X12_holdNode
  obtain ⟨s', q1, q2, q3⟩ := know_st hF hW hC s h
  obtain ⟨H, h1, h2⟩ := q3.2.2.2.2.1
  rw [q1, b21K]
  simp only [jn]
  rw [hnod, z32]
  have e := holdNode_L hW h2.1 (s'.1) (s'.2.1) (s'.2.2.1) (s'.2.2.2.1) (s'.2.2.2.2.1) (s'.2.2.2.2.2.2.1) (s'.2.2.2.2.2.2.2.1) (s'.2.2.2.2.2.2.2.2.1) (s'.2.2.2.2.2.2.2.2.2.1) (s'.2.2.2.2.2.2.2.2.2.2.1) (s'.2.2.2.2.2.2.2.2.2.2.2.1) (s'.2.2.2.2.2.2.2.2.2.2.2.2.1) (s'.2.2.2.2.2.2.2.2.2.2.2.2.2.1) (s'.2.2.2.2.2.2.2.2.2.2.2.2.2.2.1) (s'.2.2.2.2.2.2.2.2.2.2.2.2.2.2.2.1) (s'.2.2.2.2.2.2.2.2.2.2.2.2.2.2.2.2.1) (s'.2.2.2.2.2.2.2.2.2.2.2.2.2.2.2.2.2.1) (s'.2.2.2.2.2.2.2.2.2.2.2.2.2.2.2.2.2.2.1) (s'.2.2.2.2.2.2.2.2.2.2.2.2.2.2.2.2.2.2.2.1) (s'.2.2.2.2.2.2.2.2.2.2.2.2.2.2.2.2.2.2.2.2) (p := p) (nd G) F 0 0 (by omega) (by omega)
  rw [← h1] at e
  exact ⟨_, s', e, Or.inr ⟨q2, q3⟩, H, h2, rfl⟩
