/-! ===== joins of both sides, asked ===== -/
theorem mask_of {G : Gr} (hW : Wf G) {p : Int32} (h : p &&& (nI (allN G) ^^^ (-1)) = 0) : ∃ T, T ≤ allN G ∧ p = nI T := by
  obtain ⟨m, m1, rfl⟩ := wb_of32 p
  rw [nI_dif] at h
  have h1 : (nI (dif m (allN G))).toBitVec.toNat = dif m (allN G) := by
    show (BitVec.ofNat 32 (dif m (allN G))).toNat = _
    rw [BitVec.toNat_ofNat, Nat.mod_eq_of_lt (Nat.lt_of_le_of_lt (dif_le _ _) m1)]
  rw [h] at h1
  have h2 : dif m (allN G) = 0 := h1.symm
  exact ⟨m, or_ge (fun v hv => dif0 h2 hv), rfl⟩
/-- what join answers for the set T -/
def SpJ (G : Gr) (p : Int32) (a : Int32) (o : Option Nat) : Prop := (¬ p &&& (nI (allN G) ^^^ (-1)) = 0 ∧ a = -2 ∧ o = none) ∨ ∃ T, T ≤ allN G ∧ p = nI T ∧ (((∀ Y, ¬ JT G T Y) ∧ a = -3 ∧ o = none) ∨ ∃ X, IsJ G T X ∧ a = nI (wX G X (md G)) ∧ o = some X)
theorem SpJ_one {G : Gr} (hW : Wf G) {p a b : Int32} {o q : Option Nat} (h : SpJ G p a o) (h' : SpJ G p b q) : a = b ∧ o = q := by
  have hall := allN_lt hW
  have ok : ∀ T, T ≤ allN G → nI T &&& (nI (allN G) ^^^ (-1)) = 0 := fun T hT => by
    rw [nI_dif]
    have : dif T (allN G) = 0 := by
      apply Nat.eq_of_testBit_eq
      intro v
      rw [dif_bit, Nat.zero_testBit]
      cases x : T.testBit v with
      | false => rfl
      | true => rw [allN_bit, decide_eq_true (sub_allN hT x)]; rfl
    rw [this]; rfl
  rcases h with ⟨h1, h2, h3⟩ | ⟨T, T1, T2, h2⟩
  · rcases h' with ⟨k1, k2, k3⟩ | ⟨U, U1, U2, k2⟩
    · exact ⟨by rw [h2, k2], by rw [h3, k3]⟩
    · rw [U2] at h1; exact absurd (ok U U1) h1
  · rcases h' with ⟨k1, k2, k3⟩ | ⟨U, U1, U2, k2⟩
    · rw [T2] at k1; exact absurd (ok T T1) k1
    · have e : T = U := (nI_eq (by omega) (by omega)).mp (T2.symm.trans U2)
      subst e
      rcases h2 with ⟨x1, x2, x3⟩ | ⟨X, x1, x2, x3⟩
      · rcases k2 with ⟨y1, y2, y3⟩ | ⟨Y, y1, y2, y3⟩
        · exact ⟨by rw [x2, y2], by rw [x3, y3]⟩
        · exact absurd y1.1 (x1 Y)
      · rcases k2 with ⟨y1, y2, y3⟩ | ⟨Y, y1, y2, y3⟩
        · exact absurd x1.1 (y1 X)
        · have e := isJ_one x1 y1
          subst e
          exact ⟨by rw [x2, y2], by rw [x3, y3]⟩
/-- the reference's told join -/
def TmO (G : Gr) (o : Option Nat) (hj : Int32) (ij : Nat → Int32) : Prop := match o with
  | none => hj = 0
  | some X => hj = 1 ∧ Lv G X ∧ ∀ j, j < md G → ij j = if inX X j = true then 1 else 0
def told (o n : Option Nat) : Option Nat := match n with
  | none => o
  | some X => some X
theorem mjoin_eq {F : Nat} (hF : 100000 ≤ F) {G : Gr} (hW : Wf G) {nodes made : Int32} {fm tm wm am : Nat → Int32} (hC : MG G nodes made fm tm wm am) (s : MKn) (h : MKO G s) (p : Int32) {o : Option Nat} {hj : Int32} {ij : Nat → Int32} (ho : TmO G o hj ij) : ∃ (a : Int32) (s' : MKn) (hj' : Int32) (ij' : Nat → Int32) (n : Option Nat), f_X12_join F p nodes made fm tm wm am s.1 s.2.2.2.2.2.2.1 s.2.2.2.2.2.2.2.1 s.2.2.2.2.2.2.2.2.1 s.2.2.2.2.2.2.2.2.2.1 s.2.2.2.2.2.2.2.2.2.2.1 s.2.2.2.2.2.2.2.2.2.2.2.1 s.2.2.2.2.2.2.2.2.2.2.2.2.1 s.2.2.2.2.2.2.2.2.2.2.2.2.2.1 s.2.2.2.2.2.2.2.2.2.2.2.2.2.2.1 s.2.2.2.2.2.2.2.2.2.2.2.2.2.2.2.1 s.2.2.2.2.2.2.2.2.2.2.2.2.2.2.2.2.1 s.2.1 s.2.2.1 s.2.2.2.1 s.2.2.2.2.2.2.2.2.2.2.2.2.2.2.2.2.2.1 s.2.2.2.2.1 s.2.2.2.2.2.1 s.2.2.2.2.2.2.2.2.2.2.2.2.2.2.2.2.2.2.1 ij hj s.2.2.2.2.2.2.2.2.2.2.2.2.2.2.2.2.2.2.2.1 s.2.2.2.2.2.2.2.2.2.2.2.2.2.2.2.2.2.2.2.2 = some (a, s'.1, s'.2.1, s'.2.2.1, s'.2.2.2.1, s'.2.2.2.2.1, s'.2.2.2.2.2.1, hj', s'.2.2.2.2.2.2.1, s'.2.2.2.2.2.2.2.1, s'.2.2.2.2.2.2.2.2.1, s'.2.2.2.2.2.2.2.2.2.1, s'.2.2.2.2.2.2.2.2.2.2.1, s'.2.2.2.2.2.2.2.2.2.2.2.1, s'.2.2.2.2.2.2.2.2.2.2.2.2.1, s'.2.2.2.2.2.2.2.2.2.2.2.2.2.1, s'.2.2.2.2.2.2.2.2.2.2.2.2.2.2.1, s'.2.2.2.2.2.2.2.2.2.2.2.2.2.2.2.1, s'.2.2.2.2.2.2.2.2.2.2.2.2.2.2.2.2.1, s'.2.2.2.2.2.2.2.2.2.2.2.2.2.2.2.2.2.1, s'.2.2.2.2.2.2.2.2.2.2.2.2.2.2.2.2.2.2.1, ij', s'.2.2.2.2.2.2.2.2.2.2.2.2.2.2.2.2.2.2.2.1, s'.2.2.2.2.2.2.2.2.2.2.2.2.2.2.2.2.2.2.2.2) ∧ MKO G s' ∧ SpJ G p a n ∧ TmO G (told o n) hj' ij' := by
  have hn := hW.1
  have h60 := hW.2.1
  have hall := allN_lt hW
  have hnod := hC.1
  unfold f_X12_join
  rw [hnod, mall_eq hW]
  by_cases c : p &&& (nI (allN G) ^^^ (-1)) = 0
  · rw [if_pos c]
    obtain ⟨T, T1, rfl⟩ := mask_of hW c
    obtain ⟨s', q1, q2, q3⟩ := know_st hF hW hC s h
    have hK : MKO G s' := Or.inr ⟨q2, q3⟩
    rw [hnod] at q1
    rw [q1, b21K, rd_nI (by omega) (by decide), rd_nI (by omega) (by decide)]
    simp only [jn]
    rcases q3.2.2.2.2.2 T T1 with ⟨x1, x2⟩ | ⟨v, v1, v2, v3, v4⟩
    · rw [x1, if_neg (show ¬ nI 1000000000 < (1000000000 : Int32) by decide)]
      exact ⟨_, s', hj, ij, none, rfl, hK, Or.inr ⟨T, T1, rfl, Or.inl ⟨x2, rfl, rfl⟩⟩, ho⟩
    · obtain ⟨X, hX, hXv⟩ := isJ_exists v3 v4
      have hX60 := hX.1.1.1
      have et : tailX X 0 = X := by
        unfold tailX
        exact Nat.mod_eq_of_lt hX60
      rw [v2, if_pos (show nI v < (1000000000 : Int32) from (nI_ltI (b := 1000000000) (by omega) (by decide)).mpr (by omega)), z32]
      obtain ⟨ij1, e1, e2⟩ := join52_L hW hC q3.2.2.2.2.2 hX (kk := fun v4_29 m_inJoin_30 => some (v4_29, s'.1, s'.2.1, s'.2.2.1, s'.2.2.2.1, s'.2.2.2.2.1, s'.2.2.2.2.2.1, 1, s'.2.2.2.2.2.2.1, s'.2.2.2.2.2.2.2.1, s'.2.2.2.2.2.2.2.2.1, s'.2.2.2.2.2.2.2.2.2.1, s'.2.2.2.2.2.2.2.2.2.2.1, s'.2.2.2.2.2.2.2.2.2.2.2.1, s'.2.2.2.2.2.2.2.2.2.2.2.2.1, s'.2.2.2.2.2.2.2.2.2.2.2.2.2.1, s'.2.2.2.2.2.2.2.2.2.2.2.2.2.2.1, s'.2.2.2.2.2.2.2.2.2.2.2.2.2.2.2.1, s'.2.2.2.2.2.2.2.2.2.2.2.2.2.2.2.2.1, s'.2.2.2.2.2.2.2.2.2.2.2.2.2.2.2.2.2.1, s'.2.2.2.2.2.2.2.2.2.2.2.2.2.2.2.2.2.2.1, m_inJoin_30, s'.2.2.2.2.2.2.2.2.2.2.2.2.2.2.2.2.2.2.2.1, s'.2.2.2.2.2.2.2.2.2.2.2.2.2.2.2.2.2.2.2.2)) (md G) F 0 ij (by omega) (by omega) (fun j hj => by omega)
      rw [et, hX.1.2, hXv] at e1
      exact ⟨_, s', 1, ij1, some X, e1, hK, Or.inr ⟨T, T1, rfl, Or.inr ⟨X, hX, rfl, rfl⟩⟩, rfl, hX.1.1, e2⟩
  · rw [if_neg c]
    exact ⟨-2, s, hj, ij, none, rfl, h, Or.inl ⟨c, rfl, rfl⟩, ho⟩
/-- what joinArc answers -/
def aJ2 (G : Gr) (o : Option Nat) (p : Int32) : Int32 := match o with
  | none => -3
  | some X => plF X p (md G) 0 0
theorem mjoinArc_eq {F : Nat} (hF : 100000 ≤ F) {G : Gr} (hW : Wf G) {made : Int32} (hm : made = nI (md G)) (p : Int32) {o : Option Nat} {hj : Int32} {ij : Nat → Int32} (ho : TmO G o hj ij) : f_X12_joinArc F p made ij hj = some (aJ2 G o p) := by
  have h60 := hW.2.1
  unfold f_X12_joinArc
  cases o with
  | none => rw [show hj = 0 from ho, if_pos rfl]; rfl
  | some X =>
    obtain ⟨h1, -, h2⟩ := ho
    rw [h1, if_neg (by decide)]
    simp only [jn]
    rw [hm, z32, joinArc_L hW h2 (md G) F 0 0 (by omega) (by omega)]
    rfl
/-- the class's told join -/
def TcO (G : Gr) (o : Option Nat) (age jage isTold : Int32) (tl : Int64) : Prop := match o with
  | none => jage = age → isTold = 0
  | some X => jage = age ∧ isTold = 1 ∧ tl = lN X ∧ Lv G X
/-- the class's joins -/
def JcO (G : Gr) (age jage : Int32) (sl so se gain : Nat → Int32) (mark : Nat → Int64) (reached : Nat → Int32) (pk : Int32) : Prop := (∃ e a b, RI sl so se 0 e a b) ∧ (jage = age → pk = 0 ∨ (pk = 1 ∧ PathsOK G gain mark reached))
theorem jref_eq {G : Gr} {o : Option Nat} {age jage isTold pk : Int32} {tl : Int64} {sl so se gain : Nat → Int32} {mark : Nat → Int64} {reached : Nat → Int32} (h : TcO G o age jage isTold tl) (hJ : JcO G age jage sl so se gain mark reached pk) : ∃ it pk', f_X4_refresh age isTold pk jage = some (it, pk', age) ∧ TcO G o age age it tl ∧ (pk' = 0 ∨ (pk' = 1 ∧ PathsOK G gain mark reached)) := by
  unfold f_X4_refresh
  by_cases c : jage = age
  · rw [if_pos c, c]
    refine ⟨isTold, pk, rfl, ?_, hJ.2 c⟩
    cases o with
    | none => exact fun _ => h c
    | some X => exact ⟨rfl, h.2⟩
  · rw [if_neg c]
    refine ⟨0, 0, rfl, ?_, Or.inl rfl⟩
    cases o with
    | none => exact fun _ => rfl
    | some X => exact absurd h.1 c
theorem joinArcS_eq {F : Nat} (hF : 100000 ≤ F) {G : Gr} (hW : Wf G) {o : Option Nat} {age jage isTold pk : Int32} {tl : Int64} {sl so se gain : Nat → Int32} {mark : Nat → Int64} {reached : Nat → Int32} (h : TcO G o age jage isTold tl) (hJ : JcO G age jage sl so se gain mark reached pk) (p : Int32) : ∃ it pk', f_X11_joinArcS F p age tl isTold pk jage = some (aJ2 G o p, it, pk', age) ∧ TcO G o age age it tl ∧ (pk' = 0 ∨ (pk' = 1 ∧ PathsOK G gain mark reached)) := by
  obtain ⟨it, pk', q1, q2, q3⟩ := jref_eq h hJ
  unfold f_X11_joinArcS
  rw [q1, b3S]
  cases o with
  | none =>
    have e : it = 0 := q2 rfl
    rw [if_pos e]
    exact ⟨it, pk', rfl, q2, q3⟩
  | some X =>
    obtain ⟨x0, x1, x2, x3⟩ := q2
    rw [x1, if_neg (by decide), x2, arcInPlace_eq hF hW x3.1 (fun i hi hx => (x3.2 i hi hx).1) p, bS]
    exact ⟨1, pk', rfl, ⟨rfl, rfl, rfl, x3⟩, q3⟩
theorem b16K {α1 α2 α3 α4 α5 α6 α7 α8 α9 α10 α11 α12 α13 α14 α15 α16 β : Type} (x1 : α1) (x2 : α2) (x3 : α3) (x4 : α4) (x5 : α5) (x6 : α6) (x7 : α7) (x8 : α8) (x9 : α9) (x10 : α10) (x11 : α11) (x12 : α12) (x13 : α13) (x14 : α14) (x15 : α15) (x16 : α16) (k : α1 → α2 → α3 → α4 → α5 → α6 → α7 → α8 → α9 → α10 → α11 → α12 → α13 → α14 → α15 → α16 → Option β) : bd16 (some (x1, x2, x3, x4, x5, x6, x7, x8, x9, x10, x11, x12, x13, x14, x15, x16)) k = k x1 x2 x3 x4 x5 x6 x7 x8 x9 x10 x11 x12 x13 x14 x15 x16 := rfl
theorem joinS_eq {F : Nat} (hF : 100000 ≤ F) {G : Gr} (hW : Wf G) {nodes made : Int32} {one oth wts alv joined : Nat → Int32} (hC : CG G nodes made one oth wts alv joined) {o : Option Nat} {age jage isTold pk : Int32} {tl : Int64} {sl so se : Nat → Int32} (later laters : Nat → Int32) (ml am : Int32) {gain : Nat → Int32} {mark : Nat → Int64} (bg : Nat → Int32) (bm : Nat → Int64) {reached : Nat → Int32} (h : TcO G o age jage isTold tl) (hJ : JcO G age jage sl so se gain mark reached pk) (p : Int32) :
    ∃ a n tl' it' pk' jage' ml' am' sl' so' se' later' laters' gain' mark' bg' bm' reached', f_X11_joinS F p nodes made age one oth wts alv sl so se later laters ml am gain mark bg bm reached tl isTold pk jage = some (a, tl', it', pk', jage', ml', am', sl', so', se', later', laters', gain', mark', bg', bm', reached') ∧ SpJ G p a n ∧ TcO G (told o n) age jage' it' tl' ∧ JcO G age jage' sl' so' se' gain' mark' reached' pk' := by
  have hall := allN_lt hW
  have hnod := hC.1
  unfold f_X11_joinS
  by_cases c : p &&& (nI (allN G) ^^^ (-1)) = 0
  · rw [if_pos (show p &&& (f_X2_allNodes nodes ^^^ (-1)) = 0 by rw [hnod, allNodes_eq hW]; exact c)]
    obtain ⟨T, T1, rfl⟩ := mask_of hW c
    obtain ⟨it, pk1, q1, q2, q3⟩ := jref_eq h hJ
    obtain ⟨e0, a, b, hR⟩ := hJ.1
    obtain ⟨fnd, tl', it', n, sl', so', se', la', ls', g', m', bg', bm', r', t1, t2, ⟨e1, a1, b1, t3⟩, t4⟩ := tell_eq hF hW hC (T := T) (by omega) hR later laters gain mark bg bm reached tl it q3
    unfold f_X11_currentJoinsS
    rw [q1, b3S, b3S, t1, b16K]
    have hJ2 : JcO G age age sl' so' se' g' m' r' 1 := ⟨⟨e1, a1, b1, RI.zero t3⟩, fun _ => Or.inr ⟨rfl, t2⟩⟩
    rcases t4 with ⟨x1, x2, X, x3, x4⟩ | ⟨x1, x2, x3, x4⟩
    · have hX := x4.1.1.1
      rw [x1, if_neg (by decide), x3, weightOf_eq hF hW hC.2.1 (fun i hi => (hC.2.2.1 i hi).2.2.1) (X := X) (by omega), bS]
      exact ⟨_, some X, _, _, _, _, _, _, _, _, _, _, _, _, _, _, _, _, rfl, Or.inr ⟨T, T1, rfl, Or.inr ⟨X, x4, rfl, rfl⟩⟩, ⟨rfl, x2, rfl, x4.1.1⟩, hJ2⟩
    · rw [x1, if_pos rfl]
      refine ⟨_, none, _, _, _, _, _, _, _, _, _, _, _, _, _, _, _, _, rfl, Or.inr ⟨T, T1, rfl, Or.inl ⟨x4, rfl, rfl⟩⟩, ?_, hJ2⟩
      rw [x2, x3]
      exact q2
  · rw [if_neg (show ¬ p &&& (f_X2_allNodes nodes ^^^ (-1)) = 0 by rw [hnod, allNodes_eq hW]; exact c)]
    exact ⟨_, none, _, _, _, _, _, _, _, _, _, _, _, _, _, _, _, _, rfl, Or.inl ⟨c, rfl, rfl⟩, h, hJ⟩
