/-! ===== Ways.learn: what is known of a way ===== -/
theorem b7S {α1 α2 α3 α4 α5 α6 α7 β : Type} (a : α1) (b : α2) (c : α3) (d : α4) (e : α5) (f : α6) (g : α7) (k : α1 → α2 → α3 → α4 → α5 → α6 → α7 → Option β) : bd7 (some (a, b, c, d, e, f, g)) k = k a b c d e f g := rfl
/-- the two cells of a way: there are such pairs, and which; or there are none -/
def WR (G : Gr) (way : Nat) (fd : Int32) (st : Int64) : Prop := (fd = 1 ∧ ∃ X, st = lN X ∧ IsW G way X) ∨ (fd = 0 ∧ ∀ Y, Mt G (allN G) Y → (1 < way → Pf G (allN G) Y) → False)
theorem Fam_bd {G : Gr} (hW : Wf G) {way : Nat} {gain : Nat → Int32} {mark : Nat → Int64} (hO : OT G (fun i => vw way (wt G i)) (md G) gain mark) {s : Nat} (hs : s < 65536) {g : Int} {m : Nat} (h : Fam (lvW way) (gnT gain) (mkT mark) (adj G) s g m) : Bnd g m := by
  have hl : lvW way < 2 := by unfold lvW; split <;> omega
  obtain ⟨k, h⟩ := h
  obtain ⟨s1, s2, -⟩ := Fam_sound hW (OT_best hW hO) hl k s g m hs h
  have hb := sumX_bd (val := fun i => vw way (wt G i)) (X := m) (B := 16000) (by decide) (fun i hi hx => by
    have := vw_bd (way := way) (hW.2.2 i (s1.2.1 i hi hx).1).2.2.2
    show -16000 ≤ vw way (wt G i) ∧ vw way (wt G i) ≤ 16000
    omega) 60 (Nat.le_refl _)
  have := s1.1
  rw [s2] at hb
  exact ⟨by omega, by omega, by omega⟩
theorem learn_eq {F : Nat} (hF : 100000 ≤ F) {G : Gr} (hW : Wf G) {nodes made : Int32} {one oth wts alv joined : Nat → Int32} (hC : CG G nodes made one oth wts alv joined) {n : Nat} {e : Nat → Nat} {sl so se later laters : Nat → Int32} (hT : Tab (allN G) 1 (adj G) n e sl so se later laters) {way : Nat} (hw : way < 4) (gain : Nat → Int32) (mark : Nat → Int64) (bg : Nat → Int32) (bm : Nat → Int64) (known found : Nat → Int32) (sets : Nat → Int64) (hk : known way = 0 ∨ (known way = 1 ∧ WR G way (found way) (sets way))) :
    ∃ gain' mark' bg' bm' known' found' sets', f_X10_learn F (nI way) made one oth wts alv sl so se later laters (nI n) gain mark bg bm known found sets = some (gain', mark', bg', bm', known', found', sets') ∧ known' way = 1 ∧ WR G way (found' way) (sets' way) ∧ ∀ w, w ≠ way → known' w = known w ∧ found' w = found w ∧ sets' w = sets w := by
  unfold f_X10_learn
  rw [rd_nI (by omega) (by decide)]
  rcases hk with hk | ⟨hk, hr⟩
  · rw [hk, if_pos rfl, wr_nI (by omega) (by decide)]
    obtain ⟨g1, m1, o1, o2⟩ := offers_eq hF hW hC (way := way) (by omega) gain mark
    have hl3 : lvW way < 3 := by unfold lvW; split <;> omega
    obtain ⟨bg1, bm1, o, c1, c2, c3, c4, c5⟩ := choose_eq hF hT (Fb := Fam (lvW way) (gnT g1) (mkT m1) (adj G)) (gn := gnT g1) (mk := mkT m1) (gain := g1) (mark := m1) (fun v u _ _ _ => rfl) (fun v u hv hu => OT_tab o2 hv hu) hl3 (fun _ => rfl) (fun g m => Fam_0 _ _ _ _ g m) (fun s _ h0 g m => Fam_s _ _ _ _ h0 g m) (fun s hs g m h => Fam_bd hW o2 hs.1 h) bg bm
    obtain ⟨q1, q2⟩ := isW_of hW o2 c2
    rw [o1, b2S, leaving_eq hw, c1, b2S, c4, bS, wr_nI (by omega) (by decide), c5, bS, wr_nI (by omega) (by decide)]
    refine ⟨_, _, _, _, _, _, _, rfl, up_s _ _ _, ?_, fun w hne => ⟨up_n hne, up_n hne, up_n hne⟩⟩
    rw [up_s, up_s]
    cases o with
    | none =>
      right
      rw [if_pos rfl]
      exact ⟨by decide, q1 rfl⟩
    | some x =>
      left
      rw [if_neg (fun h => by cases h)]
      obtain ⟨x1, x2⟩ := x
      exact ⟨by decide, x2, c3.2.2.2.1, (q2 x1 x2 rfl).1⟩
  · rw [hk, if_neg (by decide)]
    exact ⟨_, _, _, _, _, _, _, rfl, hk, hr, fun w _ => ⟨rfl, rfl, rfl⟩⟩
theorem exists_eq {F : Nat} (hF : 100000 ≤ F) {G : Gr} (hW : Wf G) {nodes made : Int32} {one oth wts alv joined : Nat → Int32} (hC : CG G nodes made one oth wts alv joined) {n : Nat} {e : Nat → Nat} {sl so se later laters : Nat → Int32} (hT : Tab (allN G) 1 (adj G) n e sl so se later laters) {way : Nat} (hw : way < 4) (gain : Nat → Int32) (mark : Nat → Int64) (bg : Nat → Int32) (bm : Nat → Int64) (known found : Nat → Int32) (sets : Nat → Int64) (hk : known way = 0 ∨ (known way = 1 ∧ WR G way (found way) (sets way))) :
    ∃ gain' mark' bg' bm' known' found' sets', f_X10_exists F (nI way) made one oth wts alv sl so se later laters (nI n) gain mark bg bm known found sets = some (found' way, gain', mark', bg', bm', known', found', sets') ∧ known' way = 1 ∧ WR G way (found' way) (sets' way) ∧ ∀ w, w ≠ way → known' w = known w ∧ found' w = found w ∧ sets' w = sets w := by
  obtain ⟨g1, m1, b1, b2, k1, f1, s1, h1, h2, h3, h4⟩ := learn_eq hF hW hC hT hw gain mark bg bm known found sets hk
  refine ⟨g1, m1, b1, b2, k1, f1, s1, ?_, h2, h3, h4⟩
  unfold f_X10_exists gd
  rw [h1, b7S, rd_nI (by omega) (by decide)]
  have : f1 way &&& 1 = f1 way := by
    rcases h3 with ⟨x, -⟩ | ⟨x, -⟩ <;> rw [x] <;> rfl
  rw [if_pos this]
theorem chosen_eq {F : Nat} (hF : 100000 ≤ F) {G : Gr} (hW : Wf G) {nodes made : Int32} {one oth wts alv joined : Nat → Int32} (hC : CG G nodes made one oth wts alv joined) {n : Nat} {e : Nat → Nat} {sl so se later laters : Nat → Int32} (hT : Tab (allN G) 1 (adj G) n e sl so se later laters) {way : Nat} (hw : way < 4) (gain : Nat → Int32) (mark : Nat → Int64) (bg : Nat → Int32) (bm : Nat → Int64) (known found : Nat → Int32) (sets : Nat → Int64) (hk : known way = 0 ∨ (known way = 1 ∧ WR G way (found way) (sets way))) :
    ∃ gain' mark' bg' bm' known' found' sets', f_X10_chosen F (nI way) made one oth wts alv sl so se later laters (nI n) gain mark bg bm known found sets = some (sets' way, gain', mark', bg', bm', known', found', sets') ∧ known' way = 1 ∧ WR G way (found' way) (sets' way) ∧ ∀ w, w ≠ way → known' w = known w ∧ found' w = found w ∧ sets' w = sets w := by
  obtain ⟨g1, m1, b1, b2, k1, f1, s1, h1, h2, h3, h4⟩ := learn_eq hF hW hC hT hw gain mark bg bm known found sets hk
  refine ⟨g1, m1, b1, b2, k1, f1, s1, ?_, h2, h3, h4⟩
  unfold f_X10_chosen
  rw [h1, b7S, rd_nI (by omega) (by decide)]
/-! ===== weight and mate of a set ===== -/
theorem inX_mark {X i : Nat} (hX : X < 2 ^ 62) (hi : i < 60) : (lN X &&& f_X11_markOf (nI i)) = 0 ↔ inX X i = false := by
  have hm : mkA i < 2 ^ 60 := mkA_lt
  rw [markOf_nI hi, wb_and (by omega) (by omega), show (0 : Int64) = lN 0 from rfl, pk_lEQ (Nat.lt_of_le_of_lt Nat.and_le_left (by omega)) (by decide)]
  unfold inX mkA
  constructor
  · intro h
    have := congrArg (fun y => y.testBit (59 - i)) h
    simp only [Nat.testBit_and, Nat.testBit_two_pow_self, Bool.and_true, Nat.zero_testBit] at this
    exact this
  · intro h
    apply Nat.eq_of_testBit_eq
    intro j
    rw [Nat.testBit_and, Nat.testBit_two_pow, Nat.zero_testBit]
    by_cases c : 59 - i = j
    · subst c; simp [h]
    · simp [c]
