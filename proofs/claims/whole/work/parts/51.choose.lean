/-! ===== Chooser.choose: for each set of the table the best of its family ===== -/
/-- the greatest mark of the arcs from a node to nodes outside S, k of them looked at from w on -/
def foF (mr : Nat → Nat) (S : Nat) : Nat → Nat → Nat → Nat
  | 0, _, acc => acc
  | k + 1, w, acc => foF mr S k (w + 1) (if S.testBit w then acc else if mr w < acc then acc else mr w)
theorem foF_L {S v : Nat} (hS : S < 65536) (hv : v < 16) {mark : Nat → Int64} {mr : Nat → Nat} (hm : ∀ w, w < 16 → mark (v * 16 + w) = lN (mr w) ∧ mr w < 2 ^ 62) {kk : Int64 → Option Int64} :
    ∀ (k m w acc : Nat), w + k = 16 → k < m → acc < 2 ^ 62 → f_X0_firstOutOf_L5 mark (nI S) (nI v) kk m (lN acc) (nI w) = kk (lN (foF mr S k w acc)) ∧ foF mr S k w acc < 2 ^ 62 := by
  intro k
  induction k with
  | zero =>
    intro m w acc e1 hk ha
    obtain ⟨m, rfl⟩ : ∃ k, m = k + 1 := ⟨m - 1, by omega⟩
    unfold f_X0_firstOutOf_L5
    rw [if_pos ((le16 (by omega)).mpr (by omega))]
    exact ⟨rfl, ha⟩
  | succ k ih =>
    intro m w acc e1 hk ha
    obtain ⟨m, rfl⟩ : ∃ k, m = k + 1 := ⟨m - 1, by omega⟩
    obtain ⟨h1, h2⟩ := hm w (by omega)
    unfold f_X0_firstOutOf_L5 foF
    rw [if_neg (fun h => by rw [le16 (by omega)] at h; omega), has_nI (by omega) (by omega)]
    by_cases c : S.testBit w = true
    · rw [if_pos c, if_neg (by decide), if_pos c, nI_1]
      exact ih m (w + 1) acc (by omega) (by omega) ha
    · rw [if_neg c, if_pos rfl, if_neg c, cell_nI, rd_nI (by omega) (by decide), h1, nI_1]
      by_cases d : mr w < acc
      · rw [if_pos ((pk_lLT (by omega) (by omega)).mpr d), if_pos d]
        exact ih m (w + 1) acc (by omega) (by omega) ha
      · rw [if_neg (fun h => d ((pk_lLT (by omega) (by omega)).mp h)), if_neg d]
        exact ih m (w + 1) (mr w) (by omega) (by omega) h2
def fo (mr : Nat → Nat) (S : Nat) : Nat := foF mr S 16 0 0
theorem firstOutOf_eq {F : Nat} (hF : 100000 ≤ F) {S v : Nat} (hS : S < 65536) (hv : v < 16) {mark : Nat → Int64} {mr : Nat → Nat} (hm : ∀ w, w < 16 → mark (v * 16 + w) = lN (mr w) ∧ mr w < 2 ^ 62) : f_X0_firstOutOf F (nI S) (nI v) mark = some (lN (fo mr S)) ∧ fo mr S < 2 ^ 62 := by
  obtain ⟨h1, h2⟩ := foF_L hS hv hm (kk := fun x => some x) 16 F 0 0 (by omega) (by omega) (by decide)
  refine ⟨?_, h2⟩
  unfold f_X0_firstOutOf
  simp only [jn]
  rw [z32, show (0 : Int64) = lN 0 from rfl, h1]
  rfl
/-- what comes by a pair of the least node with the later ones from place i on -/
def CL (Fb : Nat → Int → Nat → Prop) (gn : Nat → Nat → Int) (mk : Nat → Nat → Nat) (adj : Nat → Nat) (s i : Nat) : Int → Nat → Prop := fun g m => ∃ j, i ≤ j ∧ j < (nbr (adj (low 16 s)) (low 16 s)).length ∧ (rst s).testBit ((nbr (adj (low 16 s)) (low 16 s)).getD j 0) = true ∧ Fsh (Fb (dif (rst s) (2 ^ ((nbr (adj (low 16 s)) (low 16 s)).getD j 0)))) (gn (low 16 s) ((nbr (adj (low 16 s)) (low 16 s)).getD j 0)) (mk (low 16 s) ((nbr (adj (low 16 s)) (low 16 s)).getD j 0)) g m
def Bnd (g : Int) (m : Nat) : Prop := -900000000 < g ∧ g < 900000000 ∧ m < 2 ^ 63
theorem opt_bd {A : Int → Nat → Prop} {ob : Option (Int × Nat)} {x : Int} {y : Nat} (h : Opt A ob) (hb : ∀ g m, Fsh A x y g m → Bnd g m) : ∀ w, ob = some w → -900000000 < w.1 + x ∧ w.1 + x < 900000000 ∧ w.2 + y < 2 ^ 63 := by
  intro w hw
  subst hw
  exact hb _ _ ⟨w.1, w.2, h.1, rfl, rfl⟩
theorem chooseFor_L {F : Nat} (hF : 100000 ≤ F) {sl so se later laters : Nat → Int32} {n : Nat} {e a b : Nat → Nat} (hR : RI sl so se n e a b) {adj : Nat → Nat} (hrow : ∀ u, u < 16 → rowOK later laters adj u) {Fb : Nat → Int → Nat → Prop} {gn : Nat → Nat → Int} {mk : Nat → Nat → Nat} {gain : Nat → Int32} {mark : Nat → Int64} (hG : ∀ v u, v < 16 → u < 16 → (adj v).testBit u = true → (gain (v * 16 + u)).toInt = gn v u) (hM : ∀ v u, v < 16 → u < 16 → mark (v * 16 + u) = lN (mk v u) ∧ mk v u < 2 ^ 62)
    {p : Nat} (hp : p < n) (h0 : 0 < e p) (hcl : ∀ u, u ∈ nbr (adj (low 16 (e p))) (low 16 (e p)) → (rst (e p)).testBit u = true → ∃ p', p' < p ∧ e p' = dif (rst (e p)) (2 ^ u)) (hbd : ∀ g m, CL Fb gn mk adj (e p) 0 g m → Bnd g m)
    {kk : (Nat → Int32) → (Nat → Int64) → Option ((Nat → Int32) × (Nat → Int64))} :
    ∀ (k m i : Nat) (bg : Nat → Int32) (bm : Nat → Int64) (o : Option (Int × Nat)) (A : Int → Nat → Prop), i + k = (nbr (adj (low 16 (e p))) (low 16 (e p))).length → k < m → (∀ p', p' < p → ∃ ob, enc (bg p') (bm p') ob ∧ Opt (Fb (e p')) ob) → enc (bg p) (bm p) o → Opt A o →
      ∃ bg' bm' o', f_X0_chooseFor_L67 F sl so se later laters (nI n) gain mark (nI p) (nI (e p)) kk m (nI i) bg bm = kk bg' bm' ∧ (∀ q, q ≠ p → bg' q = bg q ∧ bm' q = bm q) ∧ enc (bg' p) (bm' p) o' ∧ Opt (fun g m => A g m ∨ CL Fb gn mk adj (e p) i g m) o' := by
  have hn := hR.1
  have hs16 := (hR.2.2.2.1 p hp).2.1
  have hl16 : low 16 (e p) < 16 := low_lt (k := 16) h0 hs16
  obtain ⟨r1, r2⟩ := hrow _ hl16
  have hlen2 : (nbr (adj (low 16 (e p))) (low 16 (e p))).length ≤ 15 - low 16 (e p) := nbrF_len (adj (low 16 (e p))) (15 - low 16 (e p)) (low 16 (e p) + 1)
  have hrl := rst_lt h0 hs16
  intro k
  induction k with
  | zero =>
    intro m i bg bm o A e1 hm hd ho hA
    obtain ⟨m, rfl⟩ : ∃ k, m = k + 1 := ⟨m - 1, by omega⟩
    refine ⟨bg, bm, o, ?_, fun _ _ => ⟨rfl, rfl⟩, ho, Opt.congr (fun g m => ⟨Or.inl, fun h => h.elim id ?_⟩) hA⟩
    · unfold f_X0_chooseFor_L67
      rw [least_nI h0 hs16, rd_nI hl16 (by decide), r1, if_pos (by rw [nI_leI (by omega) (by omega)]; omega)]
    · rintro ⟨j, j1, j2, -⟩; omega
  | succ k ih =>
    intro m i bg bm o A e1 hm hd ho hA
    obtain ⟨m, rfl⟩ : ∃ k, m = k + 1 := ⟨m - 1, by omega⟩
    have hi : i < (nbr (adj (low 16 (e p))) (low 16 (e p))).length := by omega
    have hmem : (nbr (adj (low 16 (e p))) (low 16 (e p))).getD i 0 ∈ nbr (adj (low 16 (e p))) (low 16 (e p)) := by
      rw [gD hi]; exact List.getElem_mem hi
    have hu := (nbr_mem hl16).mp hmem
    have ru := r2 i hi
    have hsplit : ∀ g m, CL Fb gn mk adj (e p) i g m ↔ ((rst (e p)).testBit ((nbr (adj (low 16 (e p))) (low 16 (e p))).getD i 0) = true ∧ Fsh (Fb (dif (rst (e p)) (2 ^ ((nbr (adj (low 16 (e p))) (low 16 (e p))).getD i 0)))) (gn (low 16 (e p)) ((nbr (adj (low 16 (e p))) (low 16 (e p))).getD i 0)) (mk (low 16 (e p)) ((nbr (adj (low 16 (e p))) (low 16 (e p))).getD i 0)) g m) ∨ CL Fb gn mk adj (e p) (i + 1) g m := by
      intro g m
      constructor
      · rintro ⟨j, j1, j2, j3, j4⟩
        by_cases c : j = i
        · subst c; exact Or.inl ⟨j3, j4⟩
        · exact Or.inr ⟨j, by omega, j2, j3, j4⟩
      · rintro (⟨j3, j4⟩ | ⟨j, j1, j2, j3, j4⟩)
        · exact ⟨i, Nat.le_refl _, hi, j3, j4⟩
        · exact ⟨j, by omega, j2, j3, j4⟩
    have hone : ∀ g m, ((rst (e p)).testBit ((nbr (adj (low 16 (e p))) (low 16 (e p))).getD i 0) = true ∧ Fsh (Fb (dif (rst (e p)) (2 ^ ((nbr (adj (low 16 (e p))) (low 16 (e p))).getD i 0)))) (gn (low 16 (e p)) ((nbr (adj (low 16 (e p))) (low 16 (e p))).getD i 0)) (mk (low 16 (e p)) ((nbr (adj (low 16 (e p))) (low 16 (e p))).getD i 0)) g m) → Bnd g m := fun g m h => hbd g m ⟨i, Nat.zero_le _, hi, h.1, h.2⟩
    generalize hug : (nbr (adj (low 16 (e p))) (low 16 (e p))).getD i 0 = u at hmem hu ru hsplit hone
    unfold f_X0_chooseFor_L67
    rw [least_nI h0 hs16, rd_nI hl16 (by decide), r1, if_neg (fun h => by rw [nI_leI (by omega) (by omega)] at h; omega), cell_nI, rd_nI (by omega) (by decide), ru, rst_nI h0 hs16, has_nI (by omega) (by omega)]
    by_cases c : (rst (e p)).testBit u = true
    · rw [if_pos c, if_neg (by decide), without_nI _ (by omega), cell_nI, rd_nI (by omega) (by decide), rd_nI (by omega) (by decide), nI_1]
      obtain ⟨p', q1, q2⟩ := hcl u hmem c
      obtain ⟨ob, w1, w2⟩ := hd p' q1
      rw [q2] at w2
      have hbu : ∀ g m, Fsh (Fb (dif (rst (e p)) (2 ^ u))) (gn (low 16 (e p)) u) (mk (low 16 (e p)) u) g m → Bnd g m := fun g m h => hone g m ⟨c, h⟩
      obtain ⟨bg1, bm1, t1, t2, t3⟩ := take_eq hF hR hp (p' := p') (by omega) (hG _ u hl16 hu.2.1 hu.2.2) (hM _ u hl16 hu.2.1).1 w1 ho (opt_bd w2 hbu)
      rw [q2] at t1
      obtain ⟨bg2, bm2, o2, x1, x2, x3, x4⟩ := ih m (i + 1) bg1 bm1 _ (fun g m => A g m ∨ Fsh (Fb (dif (rst (e p)) (2 ^ u))) (gn (low 16 (e p)) u) (mk (low 16 (e p)) u) g m) (by omega) (by omega) (fun p'' hp'' => by
        obtain ⟨y1, y2⟩ := t3 p'' (by omega)
        rw [y1, y2]; exact hd p'' hp'') t2 (hA.union (w2.shift _ _))
      refine ⟨bg2, bm2, o2, ?_, fun q hq => ?_, x3, Opt.congr (fun g m => ?_) x4⟩
      · rw [t1, b2S]; exact x1
      · obtain ⟨y1, y2⟩ := x2 q hq
        obtain ⟨y3, y4⟩ := t3 q hq
        exact ⟨y1.trans y3, y2.trans y4⟩
      · rw [hsplit g m]
        constructor
        · rintro ((h | h) | h)
          · exact Or.inl h
          · exact Or.inr (Or.inl ⟨c, h⟩)
          · exact Or.inr (Or.inr h)
        · rintro (h | ⟨-, h⟩ | h)
          · exact Or.inl (Or.inl h)
          · exact Or.inl (Or.inr h)
          · exact Or.inr h
    · rw [if_neg c, if_pos rfl, nI_1]
      obtain ⟨bg2, bm2, o2, x1, x2, x3, x4⟩ := ih m (i + 1) bg bm o A (by omega) (by omega) hd ho hA
      refine ⟨bg2, bm2, o2, x1, x2, x3, Opt.congr (fun g m => ?_) x4⟩
      rw [hsplit g m]
      constructor
      · rintro (h | h)
        · exact Or.inl h
        · exact Or.inr (Or.inr h)
      · rintro (h | ⟨h, -⟩ | h)
        · exact Or.inl h
        · exact absurd h c
        · exact Or.inr h
