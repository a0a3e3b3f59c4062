/-! ===== the offers of all arcs; the best of a way ===== -/
theorem offers_L {G : Gr} (hW : Wf G) {nodes made : Int32} {one oth wts alv joined : Nat → Int32} (hC : CG G nodes made one oth wts alv joined) {way : Nat} (hw : way < 5) {kk : (Nat → Int32) → (Nat → Int64) → Option ((Nat → Int32) × (Nat → Int64))} :
    ∀ (k m i : Nat) (gain : Nat → Int32) (mark : Nat → Int64), i + k = md G → k < m → OT G (fun i => vw way (wt G i)) i gain mark → ∃ gain' mark', f_X10_offerArcs_L9 made one oth wts alv (nI way) kk m (nI i) gain mark = kk gain' mark' ∧ OT G (fun i => vw way (wt G i)) (md G) gain' mark' := by
  obtain ⟨-, hm, hA, -⟩ := hC
  have h60 := hW.2.1
  intro k
  induction k with
  | zero =>
    intro m i gain mark e1 hk hO
    obtain ⟨m, rfl⟩ : ∃ k, m = k + 1 := ⟨m - 1, by omega⟩
    have : i = md G := by omega
    subst this
    refine ⟨gain, mark, ?_, hO⟩
    unfold f_X10_offerArcs_L9
    rw [hm, if_pos ((nI_leI (by omega) (by omega)).mpr (Nat.le_refl _))]
  | succ k ih =>
    intro m i gain mark e1 hk hO
    obtain ⟨m, rfl⟩ : ∃ k, m = k + 1 := ⟨m - 1, by omega⟩
    obtain ⟨a1, a2, a3, a4⟩ := hA i (by omega)
    have hwt := (hW.2.2 i (by omega)).2.2.2
    unfold f_X10_offerArcs_L9
    rw [hm, if_neg (fun h => by rw [nI_leI (by omega) (by omega)] at h; omega), rd_nI (by omega) (by decide), a4, nI_1]
    by_cases c : al G i = true
    · rw [if_pos c, if_neg (by decide), rd_nI (by omega) (by decide), rd_nI (by omega) (by decide), rd_nI (by omega) (by decide), a1, a2, a3, markOf_nI (by omega)]
      obtain ⟨gain1, mark1, t1, t2⟩ := offer_step hW (val := fun i => vw way (wt G i)) (fun i hi => by have := (vw_bd (way := way) (hW.2.2 i hi).2.2.2).1; show -1000000000 < vw way (wt G i); omega) (k := i) (by omega) c hO (gv := f_X0_gainOf (nI way) (nI (wt G i))) (gainOf_eq hwt hw)
      rw [t1, b2S, ← hm]
      exact ih m (i + 1) gain1 mark1 (by omega) (by omega) t2
    · rw [if_neg c, if_pos rfl, ← hm]
      refine ih m (i + 1) gain mark (by omega) (by omega) (fun v u hv hu => ?_)
      rcases hO v u hv hu with ⟨b1, b2, b3⟩ | ⟨j, b1, b2, b3, b4, b5, b6⟩
      · refine Or.inl ⟨fun l hl hal hj => ?_, b2, b3⟩
        by_cases d : l = i
        · exact c (d ▸ hal)
        · exact b1 l (by omega) hal hj
      · refine Or.inr ⟨j, by omega, b2, b3, b4, b5, fun l hl hal hj => ?_⟩
        by_cases d : l = i
        · exact absurd (d ▸ hal) c
        · exact b6 l (by omega) hal hj
theorem offers_eq {F : Nat} (hF : 100000 ≤ F) {G : Gr} (hW : Wf G) {nodes made : Int32} {one oth wts alv joined : Nat → Int32} (hC : CG G nodes made one oth wts alv joined) {way : Nat} (hw : way < 5) (gain : Nat → Int32) (mark : Nat → Int64) : ∃ gain' mark', f_X10_offerArcs F (nI way) made one oth wts alv gain mark = some (gain', mark') ∧ OT G (fun i => vw way (wt G i)) (md G) gain' mark' := by
  have h60 := hW.2.1
  obtain ⟨g1, a1, a2⟩ := fillI (F := F) (-1000000000) (n := 256) (by decide) (by omega) gain
  obtain ⟨m1, b1, b2⟩ := fillJ (F := F) 0 (n := 256) (by decide) (by omega) mark
  obtain ⟨g2, m2, c1, c2⟩ := offers_L hW hC hw (kk := fun x y => some (x, y)) (md G) F 0 g1 m1 (by omega) (by omega) (fun v u hv hu => Or.inl ⟨fun i hi => by omega, a2 _ (by omega), b2 _ (by omega)⟩)
  refine ⟨g2, m2, ?_, c2⟩
  unfold f_X10_offerArcs f_X0_forgetOffers
  rw [a1, bS, b1, bS, b2S]
  simp only [jn]
  rw [z32, c1]
def gnT (gain : Nat → Int32) (v u : Nat) : Int := (gain (v * 16 + u)).toInt
def mkT (mark : Nat → Int64) (v u : Nat) : Nat := (mark (v * 16 + u)).toBitVec.toNat
theorem lN_self (x : Int64) : x = lN x.toBitVec.toNat := by
  apply wb_inj
  rw [wb_tb]
  simp
theorem mkT_of {mark : Nat → Int64} {v u m : Nat} (hm : m < 2 ^ 63) (h : mark (v * 16 + u) = lN m) : mkT mark v u = m := by
  unfold mkT
  rw [h, wb_tn (by omega)]
theorem OT_tab {G : Gr} {val : Nat → Int} {k : Nat} {gain : Nat → Int32} {mark : Nat → Int64} (hO : OT G val k gain mark) {v u : Nat} (hv : v < 16) (hu : u < 16) : mark (v * 16 + u) = lN (mkT mark v u) ∧ mkT mark v u < 2 ^ 62 := by
  refine ⟨lN_self _, ?_⟩
  rcases hO v u hv hu with ⟨-, -, h⟩ | ⟨j, -, -, -, -, h, -⟩
  · rw [mkT_of (by decide) h]; decide
  · have : mkA j < 2 ^ 60 := mkA_lt
    rw [mkT_of (by omega) h]; omega
theorem OT_best {G : Gr} (hW : Wf G) {val : Nat → Int} {gain : Nat → Int32} {mark : Nat → Int64} (hO : OT G val (md G) gain mark) : Best G val (gnT gain) (mkT mark) := by
  intro v u hb
  obtain ⟨i, i1, i2, i3⟩ := (adj_bit hW v u).mp hb
  obtain ⟨n1, n2, -⟩ := adj_in hW hb
  have := hW.1
  rcases hO v u (by omega) (by omega) with ⟨h, -, -⟩ | ⟨j, j1, j2, j3, j4, j5, j6⟩
  · exact absurd i3 (h i i1 i2)
  · have hm : mkA j < 2 ^ 60 := mkA_lt
    exact ⟨j, j1, j2, j3, j4, mkT_of (by omega) j5, j6⟩
theorem sumX_bd {val : Nat → Int} {X : Nat} {B : Int} (hB : 0 ≤ B) (h : ∀ i, i < 60 → inX X i = true → -B ≤ val i ∧ val i ≤ B) : ∀ k, k ≤ 60 → -(B * k) ≤ sumX val X k ∧ sumX val X k ≤ B * k := by
  intro k
  induction k with
  | zero => intro _; show -(B * 0) ≤ 0 ∧ (0 : Int) ≤ B * 0; omega
  | succ k ih =>
    intro hk
    have := ih (by omega)
    have e : B * ((k + 1 : Nat) : Int) = B * k + B := by rw [Int.natCast_add, Int.mul_add]; simp
    rw [e]
    unfold sumX
    by_cases c : inX X k = true
    · rw [if_pos c]; have := h k (by omega) c; omega
    · rw [if_neg c]; omega
/-- X is the set of pairs of a way: no other one surpasses it -/
def IsW (G : Gr) (way X : Nat) : Prop := Mt G (allN G) X ∧ (1 < way → Pf G (allN G) X) ∧ ∀ Y, Mt G (allN G) Y → (1 < way → Pf G (allN G) Y) → sumX (fun i => vw way (wt G i)) Y 60 < sumX (fun i => vw way (wt G i)) X 60 ∨ (sumX (fun i => vw way (wt G i)) Y 60 = sumX (fun i => vw way (wt G i)) X 60 ∧ Y ≤ X)
def lvW (way : Nat) : Nat := if way < 2 then 0 else 1
theorem leaving_eq {way : Nat} (h : way < 4) : f_X10_leavingOf (nI way) = nI (lvW way) := (by decide : ∀ w, w < 4 → f_X10_leavingOf (nI w) = nI (lvW w)) way h
theorem isW_of {G : Gr} (hW : Wf G) {way : Nat} {gain : Nat → Int32} {mark : Nat → Int64} (hO : OT G (fun i => vw way (wt G i)) (md G) gain mark) {o : Option (Int × Nat)} (ho : Opt (Fam (lvW way) (gnT gain) (mkT mark) (adj G) (allN G)) o) : (o = none → ∀ Y, Mt G (allN G) Y → (1 < way → Pf G (allN G) Y) → False) ∧ ∀ g m, o = some (g, m) → IsW G way m ∧ g = sumX (fun i => vw way (wt G i)) m 60 := by
  have hB := OT_best hW hO
  have hl : lvW way < 2 := by unfold lvW; split <;> omega
  have hlw : lvW way = 1 ↔ 1 < way := by unfold lvW; split <;> omega
  refine ⟨fun h Y hY hP => ?_, fun g m h => ?_⟩
  · subst h
    obtain ⟨g, m, f1, -⟩ := Fam_complete hW hB hl (allN G) (allN G) Y (Nat.le_refl _) (allN_lt hW) hY (fun x => hP (hlw.mp x))
    exact ho g m f1
  · subst h
    obtain ⟨⟨k, h1⟩, h2⟩ := ho
    obtain ⟨s1, s2, s3⟩ := Fam_sound hW hB hl k _ _ _ (allN_lt hW) h1
    refine ⟨⟨s1, fun x => s3 (hlw.mpr x), fun Y hY hP => ?_⟩, s2.symm⟩
    obtain ⟨g', m', f1, f2⟩ := Fam_complete hW hB hl (allN G) (allN G) Y (Nat.le_refl _) (allN_lt hW) hY (fun x => hP (hlw.mp x))
    have := h2 g' m' f1
    show _ < sumX _ m 60 ∨ (_ = sumX _ m 60 ∧ Y ≤ m)
    rw [s2]
    have e1 : ((g, m) : Int × Nat).1 = g := rfl
    have e2 : ((g, m) : Int × Nat).2 = m := rfl
    rw [e1, e2] at this
    omega
