/-! ===== a visit, and the whole table ===== -/
theorem Vis.refl {Pr : Nat → Prop} {ml : Int32} {adj : Nat → Nat} {n lim : Nat} {e a b : Nat → Nat} {sl so se : Nat → Int32} (hR : RI sl so se n e a b) (hP : ∀ p, p < n → Pr (e p)) (hC : Cl ml adj n e) : Vis Pr ml adj n e lim n e sl so se :=
  ⟨⟨a, b, hR⟩, Nat.le_refl _, fun _ _ => rfl, hP, hC, fun p h1 h2 => by omega⟩
theorem visit_L {later laters : Nat → Int32} {adj : Nat → Nat} (hrow : ∀ u, u < 16 → rowOK later laters adj u) {ml : Int32} {Pr : Nat → Prop} (hlt : ∀ s, Pr s → s < 65536) (hst : ∀ s, Pr s → 0 < s → Pr (rst s) ∧ ∀ u, (rst s).testBit u = true → Pr (dif (rst s) (2 ^ u)))
    {rec : Int32 → Int32 → Int32 → (Nat → Int32) → (Nat → Int32) → (Nat → Int32) → Option (Int32 × (Nat → Int32) × (Nat → Int32) × (Nat → Int32))} {s dp : Nat} (hs : Pr s) (h0 : 0 < s)
    (hrec : ∀ (t n : Nat) (e a b : Nat → Nat) (sl so se : Nat → Int32), t < s → Pr t → pcF 16 t < pcF 16 s → RI sl so se n e a b → (∀ p, p < n → Pr (e p)) → Cl ml adj n e → ∃ (n' : Nat) (e' : Nat → Nat) (sl' so' se' : Nat → Int32), rec (nI t) (nI (dp + 1)) (nI n) sl so se = some (nI n', sl', so', se') ∧ Vis Pr ml adj n e (t + 1) n' e' sl' so' se' ∧ ∃ p, p < n' ∧ e' p = t)
    {kk : Int32 → (Nat → Int32) → (Nat → Int32) → (Nat → Int32) → Option (Int32 × (Nat → Int32) × (Nat → Int32) × (Nat → Int32))} :
    ∀ (k m i n : Nat) (e a b : Nat → Nat) (sl so se : Nat → Int32), i + k = (nbr (adj (low 16 s)) (low 16 s)).length → k < m → RI sl so se n e a b → (∀ p, p < n → Pr (e p)) → Cl ml adj n e →
      ∃ (n' : Nat) (e' : Nat → Nat) (sl' so' se' : Nat → Int32), f_X7_visit_L51 later laters (nI s) (nI dp) rec kk m (nI i) se so sl (nI n) = kk (nI n') sl' so' se' ∧ Vis Pr ml adj n e s n' e' sl' so' se' ∧ ∀ j, i ≤ j → j < (nbr (adj (low 16 s)) (low 16 s)).length → (rst s).testBit ((nbr (adj (low 16 s)) (low 16 s)).getD j 0) = true → ∃ p, p < n' ∧ e' p = dif (rst s) (2 ^ ((nbr (adj (low 16 s)) (low 16 s)).getD j 0)) := by
  have hs16 := hlt s hs
  have hl16 : low 16 s < 16 := low_lt (k := 16) h0 hs16
  obtain ⟨r1, r2⟩ := hrow _ hl16
  have hlen := nbrF_len (adj (low 16 s)) (15 - low 16 s) (low 16 s + 1)
  have hlen2 : (nbr (adj (low 16 s)) (low 16 s)).length ≤ 15 - low 16 s := hlen
  intro k
  induction k with
  | zero =>
    intro m i n e a b sl so se e1 hm hR hP hC
    obtain ⟨m, rfl⟩ : ∃ k, m = k + 1 := ⟨m - 1, by omega⟩
    refine ⟨n, e, sl, so, se, ?_, Vis.refl hR hP hC, fun j h1 h2 => by omega⟩
    unfold f_X7_visit_L51
    rw [least_nI h0 hs16, rd_nI hl16 (by decide), r1, if_pos (by rw [nI_leI (by omega) (by omega)]; omega)]
  | succ k ih =>
    intro m i n e a b sl so se e1 hm hR hP hC
    obtain ⟨m, rfl⟩ : ∃ k, m = k + 1 := ⟨m - 1, by omega⟩
    have hi : i < (nbr (adj (low 16 s)) (low 16 s)).length := by omega
    have hmem : (nbr (adj (low 16 s)) (low 16 s)).getD i 0 ∈ nbr (adj (low 16 s)) (low 16 s) := by
      rw [gD hi]; exact List.getElem_mem hi
    have hu := (nbr_mem hl16).mp hmem
    have ru := r2 i hi
    generalize hug : (nbr (adj (low 16 s)) (low 16 s)).getD i 0 = u at hmem hu ru
    have hrl := rst_lt h0 hs16
    unfold f_X7_visit_L51
    rw [least_nI h0 hs16, rd_nI hl16 (by decide), r1, if_neg (fun h => by rw [nI_leI (by omega) (by omega)] at h; omega), cell_nI, rd_nI (by omega) (by decide), ru, rst_nI h0 hs16, has_nI (by omega) (by omega)]
    by_cases c : (rst s).testBit u = true
    · rw [if_pos c, if_neg (by decide), without_nI _ (by omega), nI_1, nI_1]
      have p1 := pcF_dif 16 s (low 16 s) hl16 (low_bit (k := 16) h0 hs16)
      have p2 := pcF_dif 16 (rst s) u hu.2.1 c
      have hle := dif_le (rst s) (2 ^ u)
      have p1' : pcF 16 (rst s) + 1 = pcF 16 s := p1
      obtain ⟨n1, e1', sl1, so1, se1, q1, q2, p, q3, q4⟩ := hrec (dif (rst s) (2 ^ u)) n e a b sl so se (by omega) ((hst s hs h0).2 u c) (by omega) hR hP hC
      obtain ⟨⟨a1, b1, hR1⟩, v2, v3, v4, v5, v6⟩ := id q2
      obtain ⟨n2, e2, sl2, so2, se2, w1, w2, w3⟩ := ih m (i + 1) n1 e1' a1 b1 sl1 so1 se1 (by omega) (by omega) hR1 v4 v5
      refine ⟨n2, e2, sl2, so2, se2, ?_, Vis.trans q2 w2 (by omega) (Nat.le_refl _), fun j h1 h2 h3 => ?_⟩
      · rw [q1, b4S]
        exact w1
      · by_cases d : j = i
        · subst d
          rw [hug] at h3 ⊢
          exact ⟨p, Nat.lt_of_lt_of_le q3 w2.2.1, by rw [w2.2.2.1 p q3]; exact q4⟩
        · exact w3 j (by omega) h2 h3
    · rw [if_neg c, if_pos rfl, nI_1]
      obtain ⟨n2, e2, sl2, so2, se2, w1, w2, w3⟩ := ih m (i + 1) n e a b sl so se (by omega) (by omega) hR hP hC
      refine ⟨n2, e2, sl2, so2, se2, w1, w2, fun j h1 h2 h3 => ?_⟩
      by_cases d : j = i
      · subst d
        rw [hug] at h3
        exact absurd h3 c
      · exact w3 j (by omega) h2 h3
theorem visit_spec {F : Nat} (hF : 100000 ≤ F) {later laters : Nat → Int32} {adj : Nat → Nat} (hrow : ∀ u, u < 16 → rowOK later laters adj u) {ml : Int32} (hml : ml = 0 ∨ ml = 1) {Pr : Nat → Prop} (hlt : ∀ s, Pr s → s < 65536) (hst : ∀ s, Pr s → 0 < s → Pr (rst s) ∧ ∀ u, (rst s).testBit u = true → Pr (dif (rst s) (2 ^ u))) (hcap : ∀ (n : Nat) (e : Nat → Nat), (∀ p, p < n → Pr (e p)) → (∀ p q, p < n → q < n → e p = e q → p = q) → n ≤ 2584) :
    ∀ (d s dp n : Nat) (e a b : Nat → Nat) (sl so se : Nat → Int32), Pr s → pcF 16 s < d → pcF 16 s + dp ≤ 16 → RI sl so se n e a b → (∀ p, p < n → Pr (e p)) → Cl ml adj n e →
      ∃ (n' : Nat) (e' : Nat → Nat) (sl' so' se' : Nat → Int32), f_X7_visit F later laters ml d (nI s) (nI dp) (nI n) sl so se = some (nI n', sl', so', se') ∧ Vis Pr ml adj n e (s + 1) n' e' sl' so' se' ∧ (∃ p, p < n' ∧ e' p = s) ∧ (n < n' → e' (n' - 1) = s) := by
  intro d
  induction d with
  | zero => intro s dp n e a b sl so se _ h; omega
  | succ d ih =>
    intro s dp n e a b sl so se hs hd hdp hR hP hC
    have hs16 := hlt s hs
    -- the end: s itself comes
    have fin : ∀ (n1 : Nat) (e1 : Nat → Nat) (sl1 so1 se1 : Nat → Int32), (∀ p, p < n → e p ≠ s) → Vis Pr ml adj n e s n1 e1 sl1 so1 se1 → (0 < s → (ml = 1 → ∃ p', p' < n1 ∧ e1 p' = rst s) ∧ ∀ u, u ∈ nbr (adj (low 16 s)) (low 16 s) → (rst s).testBit u = true → ∃ p', p' < n1 ∧ e1 p' = dif (rst s) (2 ^ u)) →
        ∃ (n' : Nat) (e' : Nat → Nat) (sl' so' se' : Nat → Int32), (bd4 (f_X7_append F (nI s) sl1 so1 se1 (nI n1)) (fun x1 x2 x3 x4 => some (x1, x2, x3, x4))) = some (nI n', sl', so', se') ∧ Vis Pr ml adj n e (s + 1) n' e' sl' so' se' ∧ (∃ p, p < n' ∧ e' p = s) ∧ (n < n' → e' (n' - 1) = s) := by
      intro n1 e1 sl1 so1 se1 hno hv hcl
      obtain ⟨⟨a1, b1, hR1⟩, v2, v3, v4, v5, v6⟩ := hv
      have hno1 : ∀ p, p < n1 → e1 p ≠ s := by
        intro p hp
        by_cases c : p < n
        · rw [v3 p c]; exact hno p c
        · have := v6 p (by omega) hp; omega
      have hP1 : ∀ p, p < n1 + 1 → Pr (va_up e1 n1 s p) := by
        intro p hp
        by_cases c : p = n1
        · rw [c, up_s]; exact hs
        · rw [up_n c]; exact v4 p (by omega)
      have hinj : ∀ p q, p < n1 + 1 → q < n1 + 1 → va_up e1 n1 s p = va_up e1 n1 s q → p = q := by
        intro p q hp hq h
        by_cases c : p = n1
        · by_cases c2 : q = n1
          · omega
          · rw [c, up_s, up_n c2] at h; exact absurd h.symm (hno1 q (by omega))
        · by_cases c2 : q = n1
          · rw [c2, up_s, up_n c] at h; exact absurd h (hno1 p (by omega))
          · rw [up_n c, up_n c2] at h; exact hR1.2.2.2.2 p q (by omega) (by omega) h
      have hn1 := hcap (n1 + 1) _ hP1 hinj
      obtain ⟨sl2, so2, se2, a2, b2, x1, x2⟩ := append_eq hF hR1 (by omega) hs16 hno1
      refine ⟨n1 + 1, va_up e1 n1 s, sl2, so2, se2, ?_, ⟨⟨a2, b2, x2⟩, by omega, fun p hp => by rw [up_n (by omega)]; exact v3 p hp, hP1, v5.snoc hcl, fun p h1 h2 => ?_⟩, ⟨n1, by omega, up_s _ _ _⟩, fun _ => by rw [Nat.add_sub_cancel, up_s]⟩
      · rw [x1, b4S]
      · by_cases c : p = n1
        · rw [c, up_s]; omega
        · rw [up_n c]; have := v6 p h1 (by omega); omega
    unfold f_X7_visit
    rw [if_neg (fun h => by rw [show (16 : Int32) = nI 16 from rfl, nI_ltI (by decide) (by omega)] at h; omega)]
    by_cases hin : ∃ p, p < n ∧ e p = s
    · obtain ⟨p, hp, he⟩ := hin
      have hpl := placeOf_in hF hR hp
      rw [he] at hpl
      rw [hpl]
      have hn := hR.1
      refine ⟨n, e, sl, so, se, ?_, Vis.refl hR hP hC, ⟨p, hp, he⟩, fun h => absurd h (Nat.lt_irrefl _)⟩
      rw [bS, if_neg (nI_ne_m1 (by omega))]
    · have ho : ∀ p, p < n → e p ≠ s := fun p hp h => hin ⟨p, hp, h⟩
      rw [placeOf_out hF hR hs16 ho, bS, if_pos rfl]
      simp only [jn]
      by_cases h0 : s = 0
      · subst h0
        rw [z32, if_pos rfl]
        exact fin n e sl so se ho (Vis.refl hR hP hC) (fun h => absurd h (by omega))
      · have hpos : 0 < s := by omega
        rw [if_neg (nI_ne0 hpos (by omega))]
        have p1 : pcF 16 (rst s) + 1 = pcF 16 s := pcF_dif 16 s (low 16 s) (low_lt (k := 16) hpos hs16) (low_bit (k := 16) hpos hs16)
        have hrl := rst_lt hpos hs16
        -- the loop, from any state behind the leaving
        have lp : ∀ (n1 : Nat) (e1 : Nat → Nat) (sl1 so1 se1 : Nat → Int32), Vis Pr ml adj n e s n1 e1 sl1 so1 se1 → (ml = 1 → ∃ p', p' < n1 ∧ e1 p' = rst s) →
            ∃ (n' : Nat) (e' : Nat → Nat) (sl' so' se' : Nat → Int32), (f_X7_visit_L51 later laters (nI s) (nI dp) (f_X7_visit F later laters ml d) (fun x1 x2 x3 x4 => bd4 (f_X7_append F (nI s) x2 x3 x4 x1) (fun y1 y2 y3 y4 => some (y1, y2, y3, y4))) F 0 se1 so1 sl1 (nI n1)) = some (nI n', sl', so', se') ∧ Vis Pr ml adj n e (s + 1) n' e' sl' so' se' ∧ (∃ p, p < n' ∧ e' p = s) ∧ (n < n' → e' (n' - 1) = s) := by
          intro n1 e1 sl1 so1 se1 hv hml1
          obtain ⟨⟨a1, b1, hR1⟩, v2, v3, v4, v5, v6⟩ := id hv
          have hlen := nbrF_len (adj (low 16 s)) (15 - low 16 s) (low 16 s + 1)
          have hlen2 : (nbr (adj (low 16 s)) (low 16 s)).length ≤ 15 - low 16 s := hlen
          obtain ⟨n2, e2, sl2, so2, se2, w1, w2, w3⟩ := visit_L hrow hlt hst hs hpos (dp := dp) (rec := f_X7_visit F later laters ml d) (fun t n e a b sl so se ht hpt hpc hR hP hC => by
            obtain ⟨n', e', sl', so', se', z1, z2, z3, -⟩ := ih t (dp + 1) n e a b sl so se hpt (by omega) (by omega) hR hP hC
            exact ⟨n', e', sl', so', se', z1, z2, z3⟩) (kk := fun x1 x2 x3 x4 => bd4 (f_X7_append F (nI s) x2 x3 x4 x1) (fun y1 y2 y3 y4 => some (y1, y2, y3, y4))) (nbr (adj (low 16 s)) (low 16 s)).length F 0 n1 e1 a1 b1 sl1 so1 se1 (by omega) (by omega) hR1 v4 v5
          rw [show (0 : Int32) = nI 0 from rfl, w1]
          refine fin n2 e2 sl2 so2 se2 ho (Vis.trans hv w2 (Nat.le_refl _) (Nat.le_refl _)) (fun _ => ⟨fun x => ?_, fun u hu hb => ?_⟩)
          · obtain ⟨p', y1, y2⟩ := hml1 x
            exact ⟨p', Nat.lt_of_lt_of_le y1 w2.2.1, by rw [w2.2.2.1 p' y1]; exact y2⟩
          · obtain ⟨j, hj, hju⟩ := List.getElem_of_mem hu
            have := w3 j (Nat.zero_le _) hj (by rw [gD hj, hju]; exact hb)
            rw [gD hj, hju] at this
            exact this
        rcases hml with hm | hm
        · rw [if_pos hm]
          exact lp n e sl so se (Vis.refl hR hP hC) (fun x => by rw [hm] at x; exact absurd x (by decide))
        · rw [if_neg (by rw [hm]; decide), rst_nI hpos hs16, nI_1]
          obtain ⟨n1, e1, sl1, so1, se1, z1, z2, z3, -⟩ := ih (rst s) (dp + 1) n e a b sl so se ((hst s hs hpos).1) (by omega) (by omega) hR hP hC
          rw [z1, b4S]
          have z2' : Vis Pr ml adj n e s n1 e1 sl1 so1 se1 := by
            obtain ⟨y1, y2, y3, y4, y5, y6⟩ := z2
            exact ⟨y1, y2, y3, y4, y5, fun p h1 h2 => by have := y6 p h1 h2; omega⟩
          exact lp n1 e1 sl1 so1 se1 z2' (fun _ => z3)
