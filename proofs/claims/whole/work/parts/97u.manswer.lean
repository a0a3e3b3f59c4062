/-! ===== the reference's answers ===== -/
abbrev MKn : Type := K21
def KNs (G : Gr) (s : MKn) : Prop := KnO G s.2.1 s.2.2.1 s.2.2.2.1 s.2.2.2.2.1 s.2.2.2.2.2.1 s.2.2.2.2.2.2.2.1 s.2.2.2.2.2.2.2.2.2.2.2.1 s.2.2.2.2.2.2.2.2.2.2.2.2.1 s.2.2.2.2.2.2.2.2.2.2.2.2.2.1 s.2.2.2.2.2.2.2.2.2.2.2.2.2.2.1 s.2.2.2.2.2.2.2.2.2.2.2.2.2.2.2.1 s.2.2.2.2.2.2.2.2.2.2.2.2.2.2.2.2.1 s.2.2.2.2.2.2.2.2.2.2.2.2.2.2.2.2.2.1 s.2.2.2.2.2.2.2.2.2.2.2.2.2.2.2.2.2.2.1
def MKO (G : Gr) (s : MKn) : Prop := s.1 = 0 ∨ (s.1 = 1 ∧ KNs G s)
theorem know_st {F : Nat} (hF : 100000 ≤ F) {G : Gr} (hW : Wf G) {nodes made : Int32} {fm tm wm am : Nat → Int32} (hC : MG G nodes made fm tm wm am) (s : MKn) (h : MKO G s) : ∃ s' : MKn, f_X12_know F nodes made fm tm wm am s.1 s.2.2.2.2.2.2.1 s.2.2.2.2.2.2.2.1 s.2.2.2.2.2.2.2.2.1 s.2.2.2.2.2.2.2.2.2.1 s.2.2.2.2.2.2.2.2.2.2.1 s.2.2.2.2.2.2.2.2.2.2.2.1 s.2.2.2.2.2.2.2.2.2.2.2.2.1 s.2.2.2.2.2.2.2.2.2.2.2.2.2.1 s.2.2.2.2.2.2.2.2.2.2.2.2.2.2.1 s.2.2.2.2.2.2.2.2.2.2.2.2.2.2.2.1 s.2.2.2.2.2.2.2.2.2.2.2.2.2.2.2.2.1 s.2.1 s.2.2.1 s.2.2.2.1 s.2.2.2.2.2.2.2.2.2.2.2.2.2.2.2.2.2.1 s.2.2.2.2.1 s.2.2.2.2.2.1 s.2.2.2.2.2.2.2.2.2.2.2.2.2.2.2.2.2.2.1 s.2.2.2.2.2.2.2.2.2.2.2.2.2.2.2.2.2.2.2.1 s.2.2.2.2.2.2.2.2.2.2.2.2.2.2.2.2.2.2.2.2 = some s' ∧ s'.1 = 1 ∧ KNs G s' := by
  obtain ⟨a1, a2, a3, a4, a5, b1, b2, b3, b4, b5, b6, b7, b8, b9, b10, b11, b12, b13, b14, b15, q1, q2⟩ := know_eq hF hW hC s.2.2.2.2.2.2.1 s.2.2.2.2.2.2.2.1 s.2.2.2.2.2.2.2.2.1 s.2.2.2.2.2.2.2.2.2.1 s.2.2.2.2.2.2.2.2.2.2.1 s.2.2.2.2.2.2.2.2.2.2.2.1 s.2.2.2.2.2.2.2.2.2.2.2.2.1 s.2.2.2.2.2.2.2.2.2.2.2.2.2.1 s.2.2.2.2.2.2.2.2.2.2.2.2.2.2.1 s.2.2.2.2.2.2.2.2.2.2.2.2.2.2.2.1 s.2.2.2.2.2.2.2.2.2.2.2.2.2.2.2.2.1 s.2.1 s.2.2.1 s.2.2.2.1 s.2.2.2.2.2.2.2.2.2.2.2.2.2.2.2.2.2.1 s.2.2.2.2.1 s.2.2.2.2.2.1 s.2.2.2.2.2.2.2.2.2.2.2.2.2.2.2.2.2.2.1 s.2.2.2.2.2.2.2.2.2.2.2.2.2.2.2.2.2.2.2.1 s.2.2.2.2.2.2.2.2.2.2.2.2.2.2.2.2.2.2.2.2 h
  exact ⟨(1, a1, a2, a3, a4, a5, b1, b2, b3, b4, b5, b6, b7, b8, b9, b10, b11, b12, b13, b14, b15), q1, rfl, q2⟩
theorem b21K {α1 α2 α3 α4 α5 α6 α7 α8 α9 α10 α11 α12 α13 α14 α15 α16 α17 α18 α19 α20 α21 β : Type} (x : α1 × α2 × α3 × α4 × α5 × α6 × α7 × α8 × α9 × α10 × α11 × α12 × α13 × α14 × α15 × α16 × α17 × α18 × α19 × α20 × α21) (k : α1 → α2 → α3 → α4 → α5 → α6 → α7 → α8 → α9 → α10 → α11 → α12 → α13 → α14 → α15 → α16 → α17 → α18 → α19 → α20 → α21 → Option β) : bd21 (some x) k = k x.1 x.2.1 x.2.2.1 x.2.2.2.1 x.2.2.2.2.1 x.2.2.2.2.2.1 x.2.2.2.2.2.2.1 x.2.2.2.2.2.2.2.1 x.2.2.2.2.2.2.2.2.1 x.2.2.2.2.2.2.2.2.2.1 x.2.2.2.2.2.2.2.2.2.2.1 x.2.2.2.2.2.2.2.2.2.2.2.1 x.2.2.2.2.2.2.2.2.2.2.2.2.1 x.2.2.2.2.2.2.2.2.2.2.2.2.2.1 x.2.2.2.2.2.2.2.2.2.2.2.2.2.2.1 x.2.2.2.2.2.2.2.2.2.2.2.2.2.2.2.1 x.2.2.2.2.2.2.2.2.2.2.2.2.2.2.2.2.1 x.2.2.2.2.2.2.2.2.2.2.2.2.2.2.2.2.2.1 x.2.2.2.2.2.2.2.2.2.2.2.2.2.2.2.2.2.2.1 x.2.2.2.2.2.2.2.2.2.2.2.2.2.2.2.2.2.2.2.1 x.2.2.2.2.2.2.2.2.2.2.2.2.2.2.2.2.2.2.2.2 := rfl
def Ap (G : Gr) (p : Int32) (val : Nat → Int32) (a : Int32) : Prop := (f_X11_isWay p = 0 ∧ a = -1) ∨ ∃ way, way < 4 ∧ p = nI way ∧ SpW G way val a
theorem isWay_v {way : Nat} (h : way < 4) : ¬ f_X11_isWay (nI way) = 0 := (by decide : ∀ w, w < 4 → ¬ f_X11_isWay (nI w) = 0) way h
theorem Ap_one {G : Gr} {p : Int32} {val : Nat → Int32} {a b : Int32} (h : Ap G p val a) (h' : Ap G p val b) : a = b := by
  rcases h with ⟨h1, h2⟩ | ⟨w, w1, w2, w3⟩
  · rcases h' with ⟨k1, k2⟩ | ⟨x, x1, x2, x3⟩
    · rw [h2, k2]
    · rw [x2] at h1; exact absurd h1 (isWay_v x1)
  · rcases h' with ⟨k1, k2⟩ | ⟨x, x1, x2, x3⟩
    · rw [w2] at k1; exact absurd k1 (isWay_v w1)
    · have e : w = x := (nI_eq (by omega) (by omega)).mp (w2.symm.trans x2)
      subst e
      exact SpW_one w3 x3
def Am (G : Gr) (p q : Int32) (a : Int32) : Prop := (f_X11_isWay p = 0 ∧ a = -1) ∨ (f_X2_isNode q (nI (nd G)) = 0 ∧ a = -1) ∨ ∃ way v, way < 4 ∧ v < nd G ∧ p = nI way ∧ q = nI v ∧ SpW G way (fun X => arcF G X v (md G) 0) a
theorem Am_one {G : Gr} (hW : Wf G) {p q : Int32} {a b : Int32} (h : Am G p q a) (h' : Am G p q b) : a = b := by
  have hn := hW.1
  rcases h with ⟨h1, h2⟩ | ⟨h1, h2⟩ | ⟨w, v, w1, v1, w2, v2, w3⟩
  · rcases h' with ⟨k1, k2⟩ | ⟨k1, k2⟩ | ⟨x, y, x1, y1, x2, y2, x3⟩
    · rw [h2, k2]
    · rw [h2, k2]
    · rw [x2] at h1; exact absurd h1 (isWay_v x1)
  · rcases h' with ⟨k1, k2⟩ | ⟨k1, k2⟩ | ⟨x, y, x1, y1, x2, y2, x3⟩
    · rw [h2, k2]
    · rw [h2, k2]
    · rw [y2] at h1; exact absurd h1 (isNode_v hW y1)
  · rcases h' with ⟨k1, k2⟩ | ⟨k1, k2⟩ | ⟨x, y, x1, y1, x2, y2, x3⟩
    · rw [w2] at k1; exact absurd k1 (isWay_v w1)
    · rw [v2] at k1; exact absurd k1 (isNode_v hW v1)
    · have e : w = x := (nI_eq (by omega) (by omega)).mp (w2.symm.trans x2)
      have e2 : v = y := (nI_eq (by omega) (by omega)).mp (v2.symm.trans y2)
      subst e
      subst e2
      exact SpW_one w3 x3
/-- the answer of a call on a node: -1 for no node -/
def Av (G : Gr) (q : Int32) (A : Nat → Int32 → Prop) (a : Int32) : Prop := (f_X2_isNode q (nI (nd G)) = 0 ∧ a = -1) ∨ ∃ v, v < nd G ∧ q = nI v ∧ A v a
theorem Av_one {G : Gr} (hW : Wf G) {q : Int32} {A : Nat → Int32 → Prop} (hA : ∀ v a b, A v a → A v b → a = b) {a b : Int32} (h : Av G q A a) (h' : Av G q A b) : a = b := by
  have hn := hW.1
  rcases h with ⟨h1, h2⟩ | ⟨v, v1, v2, v3⟩
  · rcases h' with ⟨k1, k2⟩ | ⟨y, y1, y2, y3⟩
    · rw [h2, k2]
    · rw [y2] at h1; exact absurd h1 (isNode_v hW y1)
  · rcases h' with ⟨k1, k2⟩ | ⟨y, y1, y2, y3⟩
    · rw [v2] at k1; exact absurd k1 (isNode_v hW v1)
    · have e2 : v = y := (nI_eq (by omega) (by omega)).mp (v2.symm.trans y2)
      subst e2
      exact hA v a b v3 y3
theorem cX_all {G : Gr} (hW : Wf G) {S X : Nat} (h : Mt G S X) : cX X (md G) = cX X 60 := by
  have h60 := hW.2.1
  have := (cX_md (X := X) h60 (fun i hi hx => (h.2.1 i hi hx).1) (60 - md G) (by omega)).1
  rw [show md G + (60 - md G) = 60 by omega] at this
  exact this.symm
theorem mpairs_eq {F : Nat} (hF : 100000 ≤ F) {G : Gr} (hW : Wf G) {nodes made : Int32} {fm tm wm am : Nat → Int32} (hC : MG G nodes made fm tm wm am) (s : MKn) (h : MKO G s) (p : Int32) : ∃ (a : Int32) (s' : MKn), f_X12_pairs F p nodes made fm tm wm am s.1 s.2.2.2.2.2.2.1 s.2.2.2.2.2.2.2.1 s.2.2.2.2.2.2.2.2.1 s.2.2.2.2.2.2.2.2.2.1 s.2.2.2.2.2.2.2.2.2.2.1 s.2.2.2.2.2.2.2.2.2.2.2.1 s.2.2.2.2.2.2.2.2.2.2.2.2.1 s.2.2.2.2.2.2.2.2.2.2.2.2.2.1 s.2.2.2.2.2.2.2.2.2.2.2.2.2.2.1 s.2.2.2.2.2.2.2.2.2.2.2.2.2.2.2.1 s.2.2.2.2.2.2.2.2.2.2.2.2.2.2.2.2.1 s.2.1 s.2.2.1 s.2.2.2.1 s.2.2.2.2.2.2.2.2.2.2.2.2.2.2.2.2.2.1 s.2.2.2.2.1 s.2.2.2.2.2.1 s.2.2.2.2.2.2.2.2.2.2.2.2.2.2.2.2.2.2.1 s.2.2.2.2.2.2.2.2.2.2.2.2.2.2.2.2.2.2.2.1 s.2.2.2.2.2.2.2.2.2.2.2.2.2.2.2.2.2.2.2.2 = some (a, s') ∧ MKO G s' ∧ Ap G p (fun X => nI (cX X 60)) a := by
  unfold f_X12_pairs
  by_cases c : f_X11_isWay p = 0
  · rw [if_pos (show f_X12_isWay p = 0 from c)]
    exact ⟨-1, s, rfl, h, Or.inl ⟨c, rfl⟩⟩
  · obtain ⟨way, hw, rfl⟩ := way_of c
    obtain ⟨s', q1, q2, q3⟩ := know_st hF hW hC s h
    rw [if_neg (show ¬ f_X12_isWay (nI way) = 0 from c), q1, b21K, rd_nI (by omega) (by decide), rd_nI (by omega) (by decide)]
    rcases q3.1 way hw with ⟨x1, x2⟩ | ⟨x0, X, x1, x2, x4, x5⟩
    · rw [x1, if_pos rfl]
      exact ⟨_, s', rfl, Or.inr ⟨q2, q3⟩, Or.inr ⟨way, hw, rfl, Or.inr ⟨x2, rfl⟩⟩⟩
    · rw [x0, if_neg (by decide)]
      exact ⟨_, s', rfl, Or.inr ⟨q2, q3⟩, Or.inr ⟨way, hw, rfl, Or.inl ⟨X, (isWV hW hw X).mpr x1, by rw [x4, cX_all hW x1.1]⟩⟩⟩
theorem mweight_eq {F : Nat} (hF : 100000 ≤ F) {G : Gr} (hW : Wf G) {nodes made : Int32} {fm tm wm am : Nat → Int32} (hC : MG G nodes made fm tm wm am) (s : MKn) (h : MKO G s) (p : Int32) : ∃ (a : Int32) (s' : MKn), f_X12_weight F p nodes made fm tm wm am s.1 s.2.2.2.2.2.2.1 s.2.2.2.2.2.2.2.1 s.2.2.2.2.2.2.2.2.1 s.2.2.2.2.2.2.2.2.2.1 s.2.2.2.2.2.2.2.2.2.2.1 s.2.2.2.2.2.2.2.2.2.2.2.1 s.2.2.2.2.2.2.2.2.2.2.2.2.1 s.2.2.2.2.2.2.2.2.2.2.2.2.2.1 s.2.2.2.2.2.2.2.2.2.2.2.2.2.2.1 s.2.2.2.2.2.2.2.2.2.2.2.2.2.2.2.1 s.2.2.2.2.2.2.2.2.2.2.2.2.2.2.2.2.1 s.2.1 s.2.2.1 s.2.2.2.1 s.2.2.2.2.2.2.2.2.2.2.2.2.2.2.2.2.2.1 s.2.2.2.2.1 s.2.2.2.2.2.1 s.2.2.2.2.2.2.2.2.2.2.2.2.2.2.2.2.2.2.1 s.2.2.2.2.2.2.2.2.2.2.2.2.2.2.2.2.2.2.2.1 s.2.2.2.2.2.2.2.2.2.2.2.2.2.2.2.2.2.2.2.2 = some (a, s') ∧ MKO G s' ∧ Ap G p (fun X => nI (wX G X (md G))) a := by
  unfold f_X12_weight
  by_cases c : f_X11_isWay p = 0
  · rw [if_pos (show f_X12_isWay p = 0 from c)]
    exact ⟨-1, s, rfl, h, Or.inl ⟨c, rfl⟩⟩
  · obtain ⟨way, hw, rfl⟩ := way_of c
    obtain ⟨s', q1, q2, q3⟩ := know_st hF hW hC s h
    rw [if_neg (show ¬ f_X12_isWay (nI way) = 0 from c), q1, b21K, rd_nI (by omega) (by decide), rd_nI (by omega) (by decide)]
    rcases q3.1 way hw with ⟨x1, x2⟩ | ⟨x0, X, x1, x2, x4, x5⟩
    · rw [x1, if_pos rfl]
      exact ⟨_, s', rfl, Or.inr ⟨q2, q3⟩, Or.inr ⟨way, hw, rfl, Or.inr ⟨x2, rfl⟩⟩⟩
    · rw [x0, if_neg (by decide)]
      exact ⟨_, s', rfl, Or.inr ⟨q2, q3⟩, Or.inr ⟨way, hw, rfl, Or.inl ⟨X, (isWV hW hw X).mpr x1, x5⟩⟩⟩
theorem mmate_eq {F : Nat} (hF : 100000 ≤ F) {G : Gr} (hW : Wf G) {nodes made : Int32} {fm tm wm am : Nat → Int32} (hC : MG G nodes made fm tm wm am) (s : MKn) (h : MKO G s) (p q : Int32) : ∃ (a : Int32) (s' : MKn), f_X12_mate F p q nodes made fm tm wm am s.1 s.2.2.2.2.2.2.1 s.2.2.2.2.2.2.2.1 s.2.2.2.2.2.2.2.2.1 s.2.2.2.2.2.2.2.2.2.1 s.2.2.2.2.2.2.2.2.2.2.1 s.2.2.2.2.2.2.2.2.2.2.2.1 s.2.2.2.2.2.2.2.2.2.2.2.2.1 s.2.2.2.2.2.2.2.2.2.2.2.2.2.1 s.2.2.2.2.2.2.2.2.2.2.2.2.2.2.1 s.2.2.2.2.2.2.2.2.2.2.2.2.2.2.2.1 s.2.2.2.2.2.2.2.2.2.2.2.2.2.2.2.2.1 s.2.1 s.2.2.1 s.2.2.2.1 s.2.2.2.2.2.2.2.2.2.2.2.2.2.2.2.2.2.1 s.2.2.2.2.1 s.2.2.2.2.2.1 s.2.2.2.2.2.2.2.2.2.2.2.2.2.2.2.2.2.2.1 s.2.2.2.2.2.2.2.2.2.2.2.2.2.2.2.2.2.2.2.1 s.2.2.2.2.2.2.2.2.2.2.2.2.2.2.2.2.2.2.2.2 = some (a, s') ∧ MKO G s' ∧ Am G p q a := by
  have hn := hW.1
  have hnod := hC.1
  unfold f_X12_mate
  by_cases c : f_X11_isWay p = 0
  · rw [if_pos (show f_X12_isWay p = 0 from c)]
    exact ⟨-1, s, rfl, h, Or.inl ⟨c, rfl⟩⟩
  · rw [if_neg (show ¬ f_X12_isWay p = 0 from c)]
    by_cases d : f_X2_isNode q (nI (nd G)) = 0
    · rw [if_pos (show f_X12_isNode q nodes = 0 by rw [hnod]; exact d)]
      exact ⟨-1, s, rfl, h, Or.inr (Or.inl ⟨d, rfl⟩)⟩
    · rw [if_neg (show ¬ f_X12_isNode q nodes = 0 by rw [hnod]; exact d)]
      obtain ⟨way, hw, rfl⟩ := way_of c
      obtain ⟨v, hv, rfl⟩ := node_of hn d
      obtain ⟨s', q1, q2, q3⟩ := know_st hF hW hC s h
      rw [q1, b21K, rd_nI (by omega) (by decide), cell2_nI, rd_nI (by omega) (by decide), rd_nI (by omega) (by decide)]
      rcases q3.1 way hw with ⟨x1, x2⟩ | ⟨x0, X, x1, x2, x4, x5⟩
      · rw [x1, if_pos rfl]
        exact ⟨_, s', rfl, Or.inr ⟨q2, q3⟩, Or.inr (Or.inr ⟨way, v, hw, hv, rfl, rfl, Or.inr ⟨x2, rfl⟩⟩)⟩
      · rw [x0, if_neg (by decide)]
        have hm := mate_arc hW x1.1 x2 (v := v) (by omega)
        by_cases e : s'.2.2.2.2.2.2.2.2.2.2.2.1 (way * 16 + v) < 0
        · rw [if_pos e] at hm ⊢
          exact ⟨_, s', rfl, Or.inr ⟨q2, q3⟩, Or.inr (Or.inr ⟨way, v, hw, hv, rfl, rfl, Or.inl ⟨X, (isWV hW hw X).mpr x1, hm⟩⟩)⟩
        · rw [if_neg e] at hm ⊢
          exact ⟨_, s', rfl, Or.inr ⟨q2, q3⟩, Or.inr (Or.inr ⟨way, v, hw, hv, rfl, rfl, Or.inl ⟨X, (isWV hW hw X).mpr x1, hm⟩⟩)⟩
theorem msort_eq {F : Nat} (hF : 100000 ≤ F) {G : Gr} (hW : Wf G) {nodes made : Int32} {fm tm wm am : Nat → Int32} (hC : MG G nodes made fm tm wm am) (s : MKn) (h : MKO G s) (q : Int32) : ∃ (a : Int32) (s' : MKn), f_X12_sort F q nodes made fm tm wm am s.1 s.2.2.2.2.2.2.1 s.2.2.2.2.2.2.2.1 s.2.2.2.2.2.2.2.2.1 s.2.2.2.2.2.2.2.2.2.1 s.2.2.2.2.2.2.2.2.2.2.1 s.2.2.2.2.2.2.2.2.2.2.2.1 s.2.2.2.2.2.2.2.2.2.2.2.2.1 s.2.2.2.2.2.2.2.2.2.2.2.2.2.1 s.2.2.2.2.2.2.2.2.2.2.2.2.2.2.1 s.2.2.2.2.2.2.2.2.2.2.2.2.2.2.2.1 s.2.2.2.2.2.2.2.2.2.2.2.2.2.2.2.2.1 s.2.1 s.2.2.1 s.2.2.2.1 s.2.2.2.2.2.2.2.2.2.2.2.2.2.2.2.2.2.1 s.2.2.2.2.1 s.2.2.2.2.2.1 s.2.2.2.2.2.2.2.2.2.2.2.2.2.2.2.2.2.2.1 s.2.2.2.2.2.2.2.2.2.2.2.2.2.2.2.2.2.2.2.1 s.2.2.2.2.2.2.2.2.2.2.2.2.2.2.2.2.2.2.2.2 = some (a, s') ∧ MKO G s' ∧ Av G q (fun v => SpS G (rS v)) a := by
  have hn := hW.1
  have hnod := hC.1
  unfold f_X12_sort
  by_cases d : f_X2_isNode q (nI (nd G)) = 0
  · rw [if_pos (show f_X12_isNode q nodes = 0 by rw [hnod]; exact d)]
    exact ⟨-1, s, rfl, h, Or.inl ⟨d, rfl⟩⟩
  · rw [if_neg (show ¬ f_X12_isNode q nodes = 0 by rw [hnod]; exact d)]
    obtain ⟨v, hv, rfl⟩ := node_of hn d
    obtain ⟨s', q1, q2, q3⟩ := know_st hF hW hC s h
    rw [q1, b21K, rd_nI (by omega) (by decide)]
    exact ⟨_, s', rfl, Or.inr ⟨q2, q3⟩, Or.inr ⟨v, hv, rfl, (mpiece_sp hW q3.2.2.1 hv).1⟩⟩
theorem mpiece_eq {F : Nat} (hF : 100000 ≤ F) {G : Gr} (hW : Wf G) {nodes made : Int32} {fm tm wm am : Nat → Int32} (hC : MG G nodes made fm tm wm am) (s : MKn) (h : MKO G s) (q : Int32) : ∃ (a : Int32) (s' : MKn), f_X12_piece F q nodes made fm tm wm am s.1 s.2.2.2.2.2.2.1 s.2.2.2.2.2.2.2.1 s.2.2.2.2.2.2.2.2.1 s.2.2.2.2.2.2.2.2.2.1 s.2.2.2.2.2.2.2.2.2.2.1 s.2.2.2.2.2.2.2.2.2.2.2.1 s.2.2.2.2.2.2.2.2.2.2.2.2.1 s.2.2.2.2.2.2.2.2.2.2.2.2.2.1 s.2.2.2.2.2.2.2.2.2.2.2.2.2.2.1 s.2.2.2.2.2.2.2.2.2.2.2.2.2.2.2.1 s.2.2.2.2.2.2.2.2.2.2.2.2.2.2.2.2.1 s.2.1 s.2.2.1 s.2.2.2.1 s.2.2.2.2.2.2.2.2.2.2.2.2.2.2.2.2.2.1 s.2.2.2.2.1 s.2.2.2.2.2.1 s.2.2.2.2.2.2.2.2.2.2.2.2.2.2.2.2.2.2.1 s.2.2.2.2.2.2.2.2.2.2.2.2.2.2.2.2.2.2.2.1 s.2.2.2.2.2.2.2.2.2.2.2.2.2.2.2.2.2.2.2.2 = some (a, s') ∧ MKO G s' ∧ Av G q (fun v => SpS G (rP v)) a := by
  have hn := hW.1
  have hnod := hC.1
  unfold f_X12_piece
  by_cases d : f_X2_isNode q (nI (nd G)) = 0
  · rw [if_pos (show f_X12_isNode q nodes = 0 by rw [hnod]; exact d)]
    exact ⟨-1, s, rfl, h, Or.inl ⟨d, rfl⟩⟩
  · rw [if_neg (show ¬ f_X12_isNode q nodes = 0 by rw [hnod]; exact d)]
    obtain ⟨v, hv, rfl⟩ := node_of hn d
    obtain ⟨s', q1, q2, q3⟩ := know_st hF hW hC s h
    have hp := (mpiece_sp hW q3.2.2.1 hv).2
    rw [q1, b21K, rd_nI (by omega) (by decide), rd_nI (by omega) (by decide)]
    by_cases e : s'.2.2.2.2.2.2.2.2.2.2.2.2.2.2.2.1 v = 1
    · rw [if_pos e] at hp ⊢
      exact ⟨_, s', rfl, Or.inr ⟨q2, q3⟩, Or.inr ⟨v, hv, rfl, hp⟩⟩
    · rw [if_neg e] at hp ⊢
      exact ⟨_, s', rfl, Or.inr ⟨q2, q3⟩, Or.inr ⟨v, hv, rfl, hp⟩⟩
theorem mcov_eq {F : Nat} (hF : 100000 ≤ F) {G : Gr} (hW : Wf G) {nodes made : Int32} {fm tm wm am : Nat → Int32} (hC : MG G nodes made fm tm wm am) (s : MKn) (h : MKO G s) : ∃ (a : Int32) (s' : MKn), f_X12_cover F nodes made fm tm wm am s.1 s.2.2.2.2.2.2.1 s.2.2.2.2.2.2.2.1 s.2.2.2.2.2.2.2.2.1 s.2.2.2.2.2.2.2.2.2.1 s.2.2.2.2.2.2.2.2.2.2.1 s.2.2.2.2.2.2.2.2.2.2.2.1 s.2.2.2.2.2.2.2.2.2.2.2.2.1 s.2.2.2.2.2.2.2.2.2.2.2.2.2.1 s.2.2.2.2.2.2.2.2.2.2.2.2.2.2.1 s.2.2.2.2.2.2.2.2.2.2.2.2.2.2.2.1 s.2.2.2.2.2.2.2.2.2.2.2.2.2.2.2.2.1 s.2.1 s.2.2.1 s.2.2.2.1 s.2.2.2.2.2.2.2.2.2.2.2.2.2.2.2.2.2.1 s.2.2.2.2.1 s.2.2.2.2.2.1 s.2.2.2.2.2.2.2.2.2.2.2.2.2.2.2.2.2.2.1 s.2.2.2.2.2.2.2.2.2.2.2.2.2.2.2.2.2.2.2.1 s.2.2.2.2.2.2.2.2.2.2.2.2.2.2.2.2.2.2.2.2 = some (a, s') ∧ MKO G s' ∧ SpC G (fun X => nI (cX X 60)) a := by
  unfold f_X12_cover
  obtain ⟨s', q1, q2, q3⟩ := know_st hF hW hC s h
  rw [q1, b21K]
  refine ⟨_, s', rfl, Or.inr ⟨q2, q3⟩, ?_⟩
  rcases q3.2.2.2.1 with ⟨x1, x2⟩ | ⟨X, x1, x2, -⟩
  · exact Or.inr ⟨x2, x1⟩
  · exact Or.inl ⟨X, x1, x2⟩
theorem mholds_eq {F : Nat} (hF : 100000 ≤ F) {G : Gr} (hW : Wf G) {nodes made : Int32} {fm tm wm am : Nat → Int32} (hC : MG G nodes made fm tm wm am) (s : MKn) (h : MKO G s) : ∃ (a : Int32) (s' : MKn), f_X12_hold F nodes made fm tm wm am s.1 s.2.2.2.2.2.2.1 s.2.2.2.2.2.2.2.1 s.2.2.2.2.2.2.2.2.1 s.2.2.2.2.2.2.2.2.2.1 s.2.2.2.2.2.2.2.2.2.2.1 s.2.2.2.2.2.2.2.2.2.2.2.1 s.2.2.2.2.2.2.2.2.2.2.2.2.1 s.2.2.2.2.2.2.2.2.2.2.2.2.2.1 s.2.2.2.2.2.2.2.2.2.2.2.2.2.2.1 s.2.2.2.2.2.2.2.2.2.2.2.2.2.2.2.1 s.2.2.2.2.2.2.2.2.2.2.2.2.2.2.2.2.1 s.2.1 s.2.2.1 s.2.2.2.1 s.2.2.2.2.2.2.2.2.2.2.2.2.2.2.2.2.2.1 s.2.2.2.2.1 s.2.2.2.2.2.1 s.2.2.2.2.2.2.2.2.2.2.2.2.2.2.2.2.2.2.1 s.2.2.2.2.2.2.2.2.2.2.2.2.2.2.2.2.2.2.2.1 s.2.2.2.2.2.2.2.2.2.2.2.2.2.2.2.2.2.2.2.2 = some (a, s') ∧ MKO G s' ∧ ∃ H, IsH G H ∧ a = nI (pcF 16 H) := by
  unfold f_X12_hold
  obtain ⟨s', q1, q2, q3⟩ := know_st hF hW hC s h
  obtain ⟨H, h1, h2⟩ := q3.2.2.2.2.1
  rw [q1, b21K, h1, mbits_eq hF h2.1, bS, ← h1]
  exact ⟨_, s', rfl, Or.inr ⟨q2, q3⟩, H, h2, rfl⟩
