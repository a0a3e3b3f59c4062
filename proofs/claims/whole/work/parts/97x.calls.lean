/-! ===== counts, holds and stable pairs, asked ===== -/
def Acn (G : Gr) (p : Int32) (a : Int64) : Prop := (¬ 0 ≤ p ∧ a = -2) ∨ (0 ≤ p ∧ ¬ p ≤ 8 ∧ a = 0) ∨ (0 ≤ p ∧ p ≤ 8 ∧ ∃ k, k ≤ 8 ∧ p = nI k ∧ a = ctN G k (allN G))
theorem Acn_one {G : Gr} {p : Int32} {a b : Int64} (h : Acn G p a) (h' : Acn G p b) : a = b := by
  rcases h with ⟨h1, h2⟩ | ⟨h0, h1, h2⟩ | ⟨h0, h1, k, k1, k2, k3⟩
  · rcases h' with ⟨x1, x2⟩ | ⟨x0, x1, x2⟩ | ⟨x0, x1, y, y1, y2, y3⟩
    · rw [h2, x2]
    · exact absurd x0 h1
    · exact absurd x0 h1
  · rcases h' with ⟨x1, x2⟩ | ⟨x0, x1, x2⟩ | ⟨x0, x1, y, y1, y2, y3⟩
    · exact absurd h0 x1
    · rw [h2, x2]
    · exact absurd x1 h1
  · rcases h' with ⟨x1, x2⟩ | ⟨x0, x1, x2⟩ | ⟨x0, x1, y, y1, y2, y3⟩
    · exact absurd h0 x1
    · exact absurd h1 x1
    · have e : k = y := (nI_eq (by omega) (by omega)).mp (k2.symm.trans y2)
      rw [k3, y3, e]
theorem size_of {p : Int32} (h0 : 0 ≤ p) (h8 : p ≤ 8) : ∃ k, k ≤ 8 ∧ p = nI k := nI_of2 (M := 8) (n := 8) (by decide) (fun x => by rw [Int32.lt_iff_toInt_lt] at x; rw [Int32.le_iff_toInt_le] at h0; omega) h8
theorem mcnt_eq {F : Nat} (hF : 100000 ≤ F) {G : Gr} (hW : Wf G) {nodes made : Int32} {fm tm wm am : Nat → Int32} (hC : MG G nodes made fm tm wm am) (p : Int32) (near worth : Nat → Int32) (ct lc : Nat → Int64) : ∃ a near' worth' ct' lc', f_X12_count F p nodes made fm tm wm am near worth ct lc = some (a, near', worth', ct', lc') ∧ Acn G p a := by
  by_cases c : (0 : Int32) ≤ p
  · by_cases d : p ≤ 8
    · obtain ⟨k, k1, rfl⟩ := size_of c d
      obtain ⟨n', w', c', l', q⟩ := mcount_eq hF hW hC k1 near worth ct lc
      exact ⟨_, _, _, _, _, q, Or.inr (Or.inr ⟨c, d, k, k1, rfl, rfl⟩)⟩
    · refine ⟨0, near, worth, ct, lc, ?_, Or.inr (Or.inl ⟨c, d, rfl⟩)⟩
      unfold f_X12_count
      rw [if_pos c, if_neg d]
  · refine ⟨-2, near, worth, ct, lc, ?_, Or.inl ⟨c, rfl⟩⟩
    unfold f_X12_count
    rw [if_neg c]
def NcO (G : Gr) (age nage : Int32) (nu : Nat → Int64) (last : Int32) : Prop := nage = age → NR G nu last
theorem countSS_eq {F : Nat} (hF : 100000 ≤ F) {G : Gr} (hW : Wf G) {nodes made : Int32} {one oth wts alv joined : Nat → Int32} (hC : CG G nodes made one oth wts alv joined) {age : Int32} {sl so se later laters : Nat → Int32} {ml am : Int32} {known found : Nat → Int32} {sets : Nat → Int64} {wage : Int32} (h : WaO G age sl so se later laters am known found sets wage) (sv : Nat → Int32) {nu : Nat → Int64} {last nage : Int32} (hN : NcO G age nage nu last) (p : Int32) :
    ∃ a wage' ml' am' sl' so' se' later' laters' known' last' nage' sv' nu', f_X11_countSS F p nodes made age one oth alv joined sl so se later laters ml am known wage sv nu last nage = some (a, wage', ml', am', sl', so', se', later', laters', known', last', nage', sv', nu') ∧ WaO G age sl' so' se' later' laters' am' known' found sets wage' ∧ NcO G age nage' nu' last' ∧ Acn G p a := by
  unfold f_X11_countSS
  by_cases c : (0 : Int32) ≤ p
  · rw [if_pos c]
    by_cases d : p ≤ 8
    · rw [if_pos d]
      obtain ⟨k, k1, rfl⟩ := size_of c d
      obtain ⟨ml1, n, e, sl1, so1, se1, la1, ls1, kn1, r1, r2, r3⟩ := wref_eq hF hW hC (ml := ml) h
      have hRI : ∃ e a b, RI sl1 so1 se1 0 e a b := by obtain ⟨⟨a, b, hR⟩, -⟩ := r2; exact ⟨e, a, b, RI.zero hR⟩
      have hcur : ∃ last' sv' nu', f_X1_refresh F made age one oth alv sv nu last nage sl1 so1 se1 la1 ls1 (nI n) = some (last', age, sv', nu') ∧ NR G nu' last' := by
        by_cases q : nage = age
        · refine ⟨last, sv, nu, ?_, hN q⟩
          unfold f_X1_refresh
          rw [if_pos q, q]
        · exact counts_eq hF hW hC r2 q sv nu last
      obtain ⟨last', sv', nu', q1, q2⟩ := hcur
      unfold f_X11_currentCountsSS f_X11_currentWaysS
      rw [r1, b9K, b9K, q1, b4S, b13K, ofSize_eq q2 (by omega), bS]
      exact ⟨_, _, _, _, _, _, _, _, _, _, _, _, _, _, rfl, ⟨hRI, fun _ => ⟨n, e, rfl, r2, r3⟩⟩, fun _ => q2, Or.inr (Or.inr ⟨c, d, k, k1, rfl, rfl⟩)⟩
    · rw [if_neg d]
      exact ⟨_, _, _, _, _, _, _, _, _, _, _, _, _, _, rfl, h, hN, Or.inr (Or.inl ⟨c, d, rfl⟩)⟩
  · rw [if_neg c]
    exact ⟨_, _, _, _, _, _, _, _, _, _, _, _, _, _, rfl, h, hN, Or.inl ⟨c, rfl⟩⟩
def HcO (G : Gr) (age hage ch : Int32) : Prop := hage = age → ∃ H, ch = nI H ∧ IsH G H
theorem href_eq {F : Nat} (hF : 100000 ≤ F) {G : Gr} (hW : Wf G) {joined : Nat → Int32} (hj : ∀ v, v < 16 → joined v = nI (adj G v)) {age hage ch : Int32} (h : HcO G age hage ch) (fl : Nat → Int32) : ∃ H fl', f_X11_currentHoldsS F age joined fl ch hage = some (nI H, age, fl') ∧ IsH G H := by
  unfold f_X11_currentHoldsS
  by_cases c : hage = age
  · obtain ⟨H, h1, h2⟩ := h c
    refine ⟨H, fl, ?_, h2⟩
    unfold f_X3_refresh
    rw [if_pos c, b3S, h1, c]
  · obtain ⟨H, fl', q1, q2⟩ := holds_eq hF hW hj c fl ch
    rw [q1, b3S]
    exact ⟨H, fl', rfl, q2⟩
theorem holdS_eq {F : Nat} (hF : 100000 ≤ F) {G : Gr} (hW : Wf G) {joined : Nat → Int32} (hj : ∀ v, v < 16 → joined v = nI (adj G v)) {age hage ch : Int32} (h : HcO G age hage ch) (fl : Nat → Int32) : ∃ a ch' fl', f_X11_holdS F age joined fl ch hage = some (a, ch', age, fl') ∧ HcO G age age ch' ∧ ∃ H, IsH G H ∧ a = nI (pcF 16 H) := by
  obtain ⟨H, fl', q1, q2⟩ := href_eq hF hW hj h fl
  have hl := q2.1
  unfold f_X11_holdS
  rw [q1, b3S]
  exact ⟨_, _, _, rfl, fun _ => ⟨H, rfl, q2⟩, H, q2, by rw [bc_nI (by omega), pcF_32 hl]⟩
theorem holdNodeS_eq {F : Nat} (hF : 100000 ≤ F) {G : Gr} (hW : Wf G) {joined : Nat → Int32} (hj : ∀ v, v < 16 → joined v = nI (adj G v)) {age hage ch : Int32} (h : HcO G age hage ch) (fl : Nat → Int32) (p : Int32) : ∃ a ch' fl', f_X11_holdNodeS F p age joined fl ch hage = some (a, ch', age, fl') ∧ HcO G age age ch' ∧ ∃ H, IsH G H ∧ a = plN H p (nd G) 0 0 := by
  obtain ⟨H, fl', q1, q2⟩ := href_eq hF hW hj h fl
  unfold f_X11_holdNodeS
  rw [q1, b3S, nodeInPlace_eq hF hW q2.1 (isH_in hW q2) p, bS]
  exact ⟨_, _, _, rfl, fun _ => ⟨H, rfl, q2⟩, H, q2, rfl⟩
theorem hold_one {G : Gr} {f : Nat → Int32} {a b : Int32} (h : ∃ H, IsH G H ∧ a = f H) (h' : ∃ H, IsH G H ∧ b = f H) : a = b := by
  obtain ⟨H, h1, h2⟩ := h
  obtain ⟨K, k1, k2⟩ := h'
  rw [h2, k2, isH_one h1 k1]
/-! stable pairs -/
theorem Rn_bd {F : Nat} (hF : 40000000 ≤ F) {G : Gr} (hW : Wf G) (h12 : nd G ≤ 12) {rk : Nat → Nat → Int32} (hv : RkV rk) {ar : Nat → Nat → Nat} (har : ArOK G ar) {J : (Nat → Nat) → Nat → Nat × Nat → Nat × Nat} (hJ : JOK G rk J) : (Rn G (opB G rk) ar J 17 0 (fun v => v) 0 (0, 0)).1 < 2 ^ 30 ∧ (Rn G (opB G rk) ar J 17 0 (fun v => v) 0 (0, 0)).2 < 2 ^ 60 := by
  have hn := hW.1
  obtain ⟨t, f, oa, wt, tr, -, q2, q3, q4⟩ := mstables_eq hF hW h12 (nodes := nI (nd G)) (made := nI (md G)) (fm := fun i => nI (fr G i)) (tm := fun i => nI (tt G i)) (wm := fun i => nI (wt G i)) (am := fun i => if al G i = true then 1 else 0) ⟨rfl, rfl, fun i _ => ⟨rfl, rfl, rfl, rfl⟩⟩ hv (gv := fun x => rk (x / 16) (x % 16)) (fun v u hv hu => by
    show rk ((v * 16 + u) / 16) ((v * 16 + u) % 16) = rk v u
    rw [show (v * 16 + u) / 16 = v by omega, show (v * 16 + u) % 16 = u by omega]) har hJ (fun _ => 0) (fun _ => 0) (fun _ => 0)
  rw [← q2]
  exact ⟨q4, q3⟩
def Ast (G : Gr) (rk : Nat → Nat → Int32) (a : Int32) : Prop := (¬ nd G ≤ 12 ∧ a = -4) ∨ (nd G ≤ 12 ∧ ∀ ar J, ArOK G ar → JOK G rk J → a = nI (Rn G (opB G rk) ar J 17 0 (fun v => v) 0 (0, 0)).1)
theorem Ast_one {G : Gr} (hW : Wf G) {rk : Nat → Nat → Int32} {a b : Int32} (h : Ast G rk a) (h' : Ast G rk b) : a = b := by
  obtain ⟨ar, har⟩ := ar_ex hW
  obtain ⟨J, hJ⟩ := J_ex G rk
  rcases h with ⟨h1, h2⟩ | ⟨h1, h2⟩
  · rcases h' with ⟨k1, k2⟩ | ⟨k1, k2⟩
    · rw [h2, k2]
    · exact absurd k1 h1
  · rcases h' with ⟨k1, k2⟩ | ⟨k1, k2⟩
    · exact absurd h1 k1
    · rw [h2 ar J har hJ, k2 ar J har hJ]
def Asm (G : Gr) (rk : Nat → Nat → Int32) (q : Int32) (a : Int32) : Prop := Av G q (fun v a => (¬ nd G ≤ 12 ∧ a = -4) ∨ (nd G ≤ 12 ∧ ∀ ar J, ArOK G ar → JOK G rk J → a = if (Rn G (opB G rk) ar J 17 0 (fun v => v) 0 (0, 0)).1 = 0 then -3 else arcF G (Rn G (opB G rk) ar J 17 0 (fun v => v) 0 (0, 0)).2 v (md G) 0)) a
theorem Asm_one {G : Gr} (hW : Wf G) {rk : Nat → Nat → Int32} {q a b : Int32} (h : Asm G rk q a) (h' : Asm G rk q b) : a = b := by
  obtain ⟨ar, har⟩ := ar_ex hW
  obtain ⟨J, hJ⟩ := J_ex G rk
  refine Av_one hW (fun v a b x y => ?_) h h'
  rcases x with ⟨h1, h2⟩ | ⟨h1, h2⟩
  · rcases y with ⟨k1, k2⟩ | ⟨k1, k2⟩
    · rw [h2, k2]
    · exact absurd k1 h1
  · rcases y with ⟨k1, k2⟩ | ⟨k1, k2⟩
    · exact absurd h1 k1
    · rw [h2 ar J har hJ, k2 ar J har hJ]
theorem le12 {G : Gr} (hW : Wf G) : nI (nd G) ≤ (12 : Int32) ↔ nd G ≤ 12 := by
  have hn := hW.1
  exact nI_leI (b := 12) (by omega) (by decide)
theorem b5K {α1 α2 α3 α4 α5 β : Type} (a : α1) (b : α2) (c : α3) (d : α4) (e : α5) (k : α1 → α2 → α3 → α4 → α5 → Option β) : bd5 (some (a, b, c, d, e)) k = k a b c d e := rfl
theorem mstable_eq {F : Nat} (hF : 40000000 ≤ F) {G : Gr} (hW : Wf G) {nodes made : Int32} {fm tm wm am : Nat → Int32} (hC : MG G nodes made fm tm wm am) {rk : Nat → Nat → Int32} (hv : RkV rk) {gv : Nat → Int32} (hg : RkO G rk gv) (oa wt tr : Nat → Int32) (st : Int32) (fs : Int64) :
    ∃ a st' fs' oa' wt' tr', f_X12_stable F nodes made fm tm am gv oa wt tr st fs = some (a, st', fs', oa', wt', tr') ∧ Ast G rk a := by
  have hnod := hC.1
  unfold f_X12_stable
  by_cases c : nd G ≤ 12
  · obtain ⟨ar, har⟩ := ar_ex hW
    obtain ⟨J, hJ⟩ := J_ex G rk
    have run : ∀ ar J, ArOK G ar → JOK G rk J → ∃ t f oa' wt' tr', f_X12_findStables F nodes made fm tm am gv oa wt tr = some (nI t, lN (rv f 60), oa', wt', tr') ∧ (t, f) = Rn G (opB G rk) ar J 17 0 (fun v => v) 0 (0, 0) := fun ar J har hJ => by
      obtain ⟨t, f, oa', wt', tr', q1, q2, -⟩ := mstables_eq hF hW c hC hv hg har hJ oa wt tr
      exact ⟨t, f, oa', wt', tr', q1, q2⟩
    obtain ⟨t, f, oa', wt', tr', q1, q2⟩ := run ar J har hJ
    rw [if_pos (show nodes ≤ 12 by rw [hnod]; exact (le12 hW).mpr c), q1, b5K]
    refine ⟨_, _, _, _, _, _, rfl, Or.inr ⟨c, fun ar2 J2 har2 hJ2 => ?_⟩⟩
    obtain ⟨t2, f2, oa2, wt2, tr2, k1, k2⟩ := run ar2 J2 har2 hJ2
    rw [q1] at k1
    rw [← k2]
    exact congrArg Prod.fst (Option.some.inj k1)
  · rw [if_neg (show ¬ nodes ≤ 12 by rw [hnod]; exact fun x => c ((le12 hW).mp x))]
    exact ⟨_, _, _, _, _, _, rfl, Or.inl ⟨c, rfl⟩⟩
theorem lN_inj60 {a b : Nat} (ha : a < 2 ^ 60) (hb : b < 2 ^ 60) (h : lN a = lN b) : a = b := (pk_lEQ (by omega) (by omega)).mp h
theorem mstableMate_eq {F : Nat} (hF : 40000000 ≤ F) {G : Gr} (hW : Wf G) {nodes made : Int32} {fm tm wm am : Nat → Int32} (hC : MG G nodes made fm tm wm am) {rk : Nat → Nat → Int32} (hv : RkV rk) {gv : Nat → Int32} (hg : RkO G rk gv) (q : Int32) (oa wt tr : Nat → Int32) (st : Int32) (fs : Int64) :
    ∃ a st' fs' oa' wt' tr', f_X12_stableMate F q nodes made fm tm am gv oa wt tr st fs = some (a, st', fs', oa', wt', tr') ∧ Asm G rk q a := by
  have hn := hW.1
  have h60 := hW.2.1
  have hnod := hC.1
  unfold f_X12_stableMate
  by_cases d : f_X2_isNode q (nI (nd G)) = 0
  · rw [if_pos (show f_X12_isNode q nodes = 0 by rw [hnod]; exact d)]
    exact ⟨_, _, _, _, _, _, rfl, Or.inl ⟨d, rfl⟩⟩
  · rw [if_neg (show ¬ f_X12_isNode q nodes = 0 by rw [hnod]; exact d)]
    obtain ⟨v, hvn, rfl⟩ := node_of hn d
    by_cases c : nd G ≤ 12
    · rw [if_pos (show nodes ≤ 12 by rw [hnod]; exact (le12 hW).mpr c)]
      obtain ⟨ar, har⟩ := ar_ex hW
      obtain ⟨J, hJ⟩ := J_ex G rk
      obtain ⟨t, f, oa', wt', tr', q1, q2, q3, q4⟩ := mstables_eq hF hW c hC hv hg har hJ oa wt tr
      have same : ∀ ar2 J2, ArOK G ar2 → JOK G rk J2 → (Rn G (opB G rk) ar2 J2 17 0 (fun v => v) 0 (0, 0)) = (t, f) := by
        intro ar2 J2 har2 hJ2
        obtain ⟨t2, f2, oa2, wt2, tr2, k1, k2, k3, k4⟩ := mstables_eq hF hW c hC hv hg har2 hJ2 oa wt tr
        rw [q1] at k1
        have k5 := Option.some.inj k1
        have e1 : t = t2 := (nI_eq (by omega) (by omega)).mp (congrArg Prod.fst k5)
        have e2 : f = f2 := rv60_inj q3 k3 (lN_inj60 (rv_lt f 60) (rv_lt f2 60) (congrArg Prod.fst (congrArg Prod.snd k5)))
        rw [← k2, e1, e2]
      rw [q1, b5K]
      simp only [jn]
      by_cases z : t = 0
      · rw [if_pos (show nI t = 0 by rw [z]; rfl)]
        refine ⟨_, _, _, _, _, _, rfl, Or.inr ⟨v, hvn, rfl, Or.inr ⟨c, fun ar2 J2 har2 hJ2 => ?_⟩⟩⟩
        rw [same ar2 J2 har2 hJ2, if_pos (show ((t, f) : Nat × Nat).1 = 0 from z)]
      · rw [if_neg (nI_ne0 (by omega) (by omega)), z32, mate38_L hW hC q3 (by omega) (md G) F 0 (by omega) (by omega)]
        refine ⟨_, _, _, _, _, _, rfl, Or.inr ⟨v, hvn, rfl, Or.inr ⟨c, fun ar2 J2 har2 hJ2 => ?_⟩⟩⟩
        rw [same ar2 J2 har2 hJ2, if_neg (show ¬ ((t, f) : Nat × Nat).1 = 0 from z)]
    · rw [if_neg (show ¬ nodes ≤ 12 by rw [hnod]; exact fun x => c ((le12 hW).mp x))]
      exact ⟨_, _, _, _, _, _, rfl, Or.inr ⟨v, hvn, rfl, Or.inl ⟨c, rfl⟩⟩⟩
def TsO (G : Gr) (rk : Nat → Nat → Int32) (gage kage tga tka tot : Int32) (fst : Int64) : Prop := tga = gage → tka = kage → TO G rk tot fst
theorem tref_eq {F : Nat} (hF : 100000 ≤ F) {G : Gr} (hW : Wf G) {nodes made : Int32} {one oth wts alv joined : Nat → Int32} (hC : CG G nodes made one oth wts alv joined) {rk : Nat → Nat → Int32} {gv : Nat → Int32} (hg : RkO G rk gv) {gage kage tga tka tot : Int32} {fst : Int64} (h : TsO G rk gage kage tga tka tot fst) (ab : Nat → Int64) (op so wt : Nat → Int32) :
    ∃ t f ab' op' so' wt', f_X11_currentStablesS F nodes made gage one oth alv joined kage gv ab op so wt tot fst tga tka = some (t, f, gage, kage, ab', op', so', wt') ∧ TO G rk t f := by
  unfold f_X11_currentStablesS
  by_cases c : tga = gage ∧ tka = kage
  · refine ⟨tot, fst, ab, op, so, wt, ?_, h c.1 c.2⟩
    unfold f_X9_refresh
    simp only [jn]
    rw [if_pos c.1, if_pos c.2, b8K, c.1, c.2]
  · obtain ⟨t, f, ab', op', so', wt', q1, q2⟩ := stables_eq hF hW hC hg (gage := gage) (kage := kage) (tga := tga) (tka := tka) (by
      by_cases x : tga = gage
      · exact Or.inr (fun y => c ⟨x, y⟩)
      · exact Or.inl x) ab op so wt tot fst
    rw [q1, b8K]
    exact ⟨_, _, _, _, _, _, rfl, q2⟩
theorem stableS_eq {F : Nat} (hF : 100000 ≤ F) {G : Gr} (hW : Wf G) {nodes made : Int32} {one oth wts alv joined : Nat → Int32} (hC : CG G nodes made one oth wts alv joined) {rk : Nat → Nat → Int32} {gv : Nat → Int32} (hg : RkO G rk gv) {gage kage tga tka tot : Int32} {fst : Int64} (h : TsO G rk gage kage tga tka tot fst) (ab : Nat → Int64) (op so wt : Nat → Int32) :
    ∃ a t f tga' tka' ab' op' so' wt', f_X11_stableS F nodes made gage one oth alv joined kage gv ab op so wt tot fst tga tka = some (a, t, f, tga', tka', ab', op', so', wt') ∧ TsO G rk gage kage tga' tka' t f ∧ Ast G rk a := by
  have hnod := hC.1
  unfold f_X11_stableS
  by_cases c : nd G ≤ 12
  · obtain ⟨t, f, ab', op', so', wt', q1, q2⟩ := tref_eq hF hW hC hg h ab op so wt
    rw [if_pos (show nodes ≤ 12 by rw [hnod]; exact (le12 hW).mpr c), q1, b8K]
    refine ⟨_, _, _, _, _, _, _, _, _, rfl, fun _ _ => q2, Or.inr ⟨c, fun ar J har hJ => ?_⟩⟩
    obtain ⟨t', f', x1, -, -, x4⟩ := q2 ar J har hJ
    rw [← x4]; exact x1
  · rw [if_neg (show ¬ nodes ≤ 12 by rw [hnod]; exact fun x => c ((le12 hW).mp x))]
    exact ⟨_, _, _, _, _, _, _, _, _, rfl, h, Or.inl ⟨c, rfl⟩⟩
theorem stableMateS_eq {F : Nat} (hF : 40000000 ≤ F) {G : Gr} (hW : Wf G) {nodes made : Int32} {one oth wts alv joined : Nat → Int32} (hC : CG G nodes made one oth wts alv joined) {rk : Nat → Nat → Int32} (hv : RkV rk) {gv : Nat → Int32} (hg : RkO G rk gv) {gage kage tga tka tot : Int32} {fst : Int64} (h : TsO G rk gage kage tga tka tot fst) (ab : Nat → Int64) (op so wt : Nat → Int32) (q : Int32) :
    ∃ a t f tga' tka' ab' op' so' wt', f_X11_stableMateS F q nodes made gage one oth alv joined kage gv ab op so wt tot fst tga tka = some (a, t, f, tga', tka', ab', op', so', wt') ∧ TsO G rk gage kage tga' tka' t f ∧ Asm G rk q a := by
  have hn := hW.1
  have hnod := hC.1
  have hF1 : 100000 ≤ F := by omega
  unfold f_X11_stableMateS
  by_cases d : f_X2_isNode q (nI (nd G)) = 0
  · rw [if_pos (show f_X2_isNode q nodes = 0 by rw [hnod]; exact d)]
    exact ⟨_, _, _, _, _, _, _, _, _, rfl, h, Or.inl ⟨d, rfl⟩⟩
  · rw [if_neg (show ¬ f_X2_isNode q nodes = 0 by rw [hnod]; exact d)]
    obtain ⟨v, hvn, rfl⟩ := node_of hn d
    by_cases c : nd G ≤ 12
    · obtain ⟨t, f, ab', op', so', wt', q1, q2⟩ := tref_eq hF1 hW hC hg h ab op so wt
      rw [if_pos (show nodes ≤ 12 by rw [hnod]; exact (le12 hW).mpr c), q1, b8K]
      obtain ⟨ar0, har0⟩ := ar_ex hW
      obtain ⟨J0, hJ0⟩ := J_ex G rk
      obtain ⟨t0, f0, x1, x2, x3, x4⟩ := q2 ar0 J0 har0 hJ0
      have hbd := Rn_bd hF hW c hv har0 hJ0
      rw [← x4] at hbd
      have hb1 : t0 < 2 ^ 30 := hbd.1
      have same : ∀ ar2 J2, ArOK G ar2 → JOK G rk J2 → (Rn G (opB G rk) ar2 J2 17 0 (fun v => v) 0 (0, 0)) = (t0, f0) := by
        intro ar2 J2 har2 hJ2
        obtain ⟨t2, f2, y1, y2, y3, y4⟩ := q2 ar2 J2 har2 hJ2
        have hbd2 := Rn_bd hF hW c hv har2 hJ2
        rw [← y4] at hbd2
        have hb2 : t2 < 2 ^ 30 := hbd2.1
        have e1 : t0 = t2 := (nI_eq (by omega) (by omega)).mp (x1.symm.trans y1)
        have e2 : f0 = f2 := lN_inj60 x3 y3 (x2.symm.trans y2)
        rw [← y4, e1, e2]
      by_cases z : t0 = 0
      · rw [if_pos (show t = 0 by rw [x1, z]; rfl)]
        refine ⟨_, _, _, _, _, _, _, _, _, rfl, fun _ _ => q2, Or.inr ⟨v, hvn, rfl, Or.inr ⟨c, fun ar2 J2 har2 hJ2 => ?_⟩⟩⟩
        rw [same ar2 J2 har2 hJ2, if_pos (show ((t0, f0) : Nat × Nat).1 = 0 from z)]
      · rw [if_neg (show ¬ t = 0 by rw [x1]; exact nI_ne0 (by omega) (by omega))]
        have ea := arcAt_eq hF1 hW hC.2.1 (fun i hi => ⟨(hC.2.2.1 i hi).1, (hC.2.2.1 i hi).2.1⟩) (X := f0) (v := v) (by omega) (by omega)
        rw [← x2] at ea
        rw [ea, bS]
        refine ⟨_, _, _, _, _, _, _, _, _, rfl, fun _ _ => q2, Or.inr ⟨v, hvn, rfl, Or.inr ⟨c, fun ar2 J2 har2 hJ2 => ?_⟩⟩⟩
        rw [same ar2 J2 har2 hJ2, if_neg (show ¬ ((t0, f0) : Nat × Nat).1 = 0 from z)]
    · rw [if_neg (show ¬ nodes ≤ 12 by rw [hnod]; exact fun x => c ((le12 hW).mp x))]
      exact ⟨_, _, _, _, _, _, _, _, _, rfl, h, Or.inr ⟨v, hvn, rfl, Or.inl ⟨c, rfl⟩⟩⟩
