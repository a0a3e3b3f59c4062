/-! ===== all that the reference knows of a graph ===== -/
theorem MWay_congr {G : Gr} {way : Nat} {mates sizes sums has mates' sizes' sums' has' : Nat → Int32} (h : MWay G way mates sizes sums has) (h1 : sizes' way = sizes way) (h2 : sums' way = sums way) (h3 : has' way = has way) (h4 : ∀ v, v < 16 → mates' (way * 16 + v) = mates (way * 16 + v)) : MWay G way mates' sizes' sums' has' := by
  rcases h with ⟨a, b⟩ | ⟨a, X, x1, x2, x3, x4⟩
  · exact Or.inl ⟨by rw [h3]; exact a, b⟩
  · refine Or.inr ⟨by rw [h3]; exact a, X, x1, fun v hv => ?_, by rw [h1]; exact x3, by rw [h2]; exact x4⟩
    rw [h4 v hv]
    exact x2 v hv
/-- the sorts, pieces and parts -/
def SoK (G : Gr) (pieceCount parts halves : Int32) (sorts pieces : Nat → Int32) : Prop := ∃ c L B cm cn, c ≤ 8 ∧ L < 65536 ∧ BL G (Mt G (allN G)) (allN G) c L ∧ Bes G L B ∧ CM G (dif (allN G) B) cm ∧ CM G (allN G) cn ∧ pieceCount = nI (spl (dif (allN G) B) cm (nd G)).2.2.1 ∧ parts = nI (spl (allN G) cn (nd G)).2.2.1 ∧ (∀ v, v < nd G → sorts v = srt L B v) ∧ PcI G (dif (allN G) B) cm (nd G) pieces ∧ (Flg G (allN G) cn (nd G) → halves = 1) ∧ (¬ Flg G (allN G) cn (nd G) → halves = 0)
def KnO (G : Gr) (pieceCount parts halves coverSize holdSet : Int32) (most mates sizes sums has sorts pieces inCover pairCost : Nat → Int32) : Prop := (∀ way, way < 4 → MWay G way mates sizes sums has) ∧ (∀ t, t ≤ allN G → Mb G 0 t (most t)) ∧ SoK G pieceCount parts halves sorts pieces ∧ MC G coverSize inCover ∧ (∃ H, holdSet = nI H ∧ IsH G H) ∧ ∀ t, t ≤ allN G → PCm G t (pairCost t)
theorem b8K {α1 α2 α3 α4 α5 α6 α7 α8 β : Type} (a : α1) (b : α2) (c : α3) (d : α4) (e : α5) (f : α6) (g : α7) (h : α8) (k : α1 → α2 → α3 → α4 → α5 → α6 → α7 → α8 → Option β) : bd8 (some (a, b, c, d, e, f, g, h)) k = k a b c d e f g h := rfl
theorem b6K {α1 α2 α3 α4 α5 α6 β : Type} (a : α1) (b : α2) (c : α3) (d : α4) (e : α5) (f : α6) (k : α1 → α2 → α3 → α4 → α5 → α6 → Option β) : bd6 (some (a, b, c, d, e, f)) k = k a b c d e f := rfl
abbrev K21 : Type := Int32 × Int32 × Int32 × Int32 × Int32 × Int32 × (Nat → Int32) × (Nat → Int32) × (Nat → Int32) × (Nat → Int32) × (Nat → Int32) × (Nat → Int32) × (Nat → Int32) × (Nat → Int32) × (Nat → Int32) × (Nat → Int32) × (Nat → Int32) × (Nat → Int32) × (Nat → Int32) × (Nat → Int32) × (Nat → Int32)
theorem know_L {F : Nat} (hF : 100000 ≤ F) {G : Gr} (hW : Wf G) {nodes made : Int32} {fm tm wm am : Nat → Int32} (hC : MG G nodes made fm tm wm am) {kk : (Nat → Int32) → (Nat → Int32) → (Nat → Int32) → (Nat → Int32) → (Nat → Int32) → (Nat → Int32) → (Nat → Int32) → (Nat → Int32) → Option K21} :
    ∀ (k m w : Nat) (best has mates most near sizes sums worth : Nat → Int32), w + k = 4 → k < m → (∀ way, way < w → MWay G way mates sizes sums has) → (0 < w → ∀ t, t ≤ allN G → Mb G 0 t (most t)) → (0 < w → ∀ v u, v < 16 → u < 16 → near (v * 16 + u) = nI (cnt G (md G) v u)) →
      ∃ best' most' near' worth' mates' sizes' sums' has', f_X12_know_L15 F nodes made fm tm wm am kk m (nI w) best has mates most near sizes sums worth = kk best' most' near' worth' mates' sizes' sums' has' ∧ (∀ way, way < 4 → MWay G way mates' sizes' sums' has') ∧ (∀ t, t ≤ allN G → Mb G 0 t (most' t)) ∧ ∀ v u, v < 16 → u < 16 → near' (v * 16 + u) = nI (cnt G (md G) v u) := by
  intro k
  induction k with
  | zero =>
    intro m w best has mates most near sizes sums worth e1 hm h1 h2 h3
    obtain ⟨m, rfl⟩ : ∃ k, m = k + 1 := ⟨m - 1, by omega⟩
    refine ⟨best, most, near, worth, mates, sizes, sums, has, ?_, fun way hw => h1 way (by omega), h2 (by omega), h3 (by omega)⟩
    unfold f_X12_know_L15
    rw [if_pos (show (4 : Int32) ≤ nI w from (nI_leI (a := 4) (by decide) (by omega)).mpr (by omega))]
  | succ k ih =>
    intro m w best has mates most near sizes sums worth e1 hm h1 h2 h3
    obtain ⟨m, rfl⟩ : ∃ k, m = k + 1 := ⟨m - 1, by omega⟩
    obtain ⟨b1, mo1, n1, w1, ma1, si1, su1, ha1, q1, q2, q3, q4, q5, q6, q7⟩ := mway_eq hF hW hC (way := w) (by omega) best most near worth mates sizes sums has
    unfold f_X12_know_L15
    rw [if_neg (show ¬ (4 : Int32) ≤ nI w from fun h => by rw [show (4 : Int32) = nI 4 from rfl, nI_leI (by decide) (by omega)] at h; omega), q1, b8K, nI_1]
    refine ih m (w + 1) b1 ha1 ma1 mo1 n1 si1 su1 w1 (by omega) (by omega) (fun way hway => ?_) (fun _ => ?_) (fun _ v u hv hu => (q3 v u hv hu).1)
    · by_cases c : way = w
      · subst c; exact q6
      · obtain ⟨x1, x2, x3, x4⟩ := q7 way c
        exact MWay_congr (h1 way (by omega)) x1 x2 x3 x4
    · by_cases c : w = 0
      · subst c
        intro t ht
        rw [q4 rfl t ht]
        exact q2 t ht
      · rw [q5 c]
        exact h2 (by omega)
theorem know_eq {F : Nat} (hF : 100000 ≤ F) {G : Gr} (hW : Wf G) {nodes made : Int32} {fm tm wm am : Nat → Int32} (hC : MG G nodes made fm tm wm am) {known : Int32} (best most apart near worth mates sizes sums has sorts pieces : Nat → Int32) (pieceCount parts halves : Int32) (inCover : Nat → Int32) (coverSize holdSet : Int32) (pairCost half way : Nat → Int32) (hk : known = 0 ∨ (known = 1 ∧ KnO G pieceCount parts halves coverSize holdSet most mates sizes sums has sorts pieces inCover pairCost)) :
    ∃ pieceCount' parts' halves' coverSize' holdSet' best' most' apart' near' worth' mates' sizes' sums' has' sorts' pieces' inCover' pairCost' half' way', f_X12_know F nodes made fm tm wm am known best most apart near worth mates sizes sums has sorts pieces pieceCount parts halves inCover coverSize holdSet pairCost half way = some (1, pieceCount', parts', halves', coverSize', holdSet', best', most', apart', near', worth', mates', sizes', sums', has', sorts', pieces', inCover', pairCost', half', way') ∧ KnO G pieceCount' parts' halves' coverSize' holdSet' most' mates' sizes' sums' has' sorts' pieces' inCover' pairCost' := by
  unfold f_X12_know
  rcases hk with rfl | ⟨rfl, hk⟩
  · rw [if_pos rfl]
    simp only [jn]
    obtain ⟨b1, mo1, n1, w1, ma1, si1, su1, ha1, q1, q2, q3, q4⟩ := know_L hF hW hC (kk := fun m_best_2 m_most_3 m_near_4 m_worth_5 m_mates_6 m_sizes_7 m_sums_8 m_has_9 => bd6 (f_X12_findSorts F nodes made fm tm am m_most_3 sorts pieces half) (fun m_pieceCount_10 m_parts_11 m_halves_12 m_sorts_13 m_pieces_14 m_half_15 => bd2 (f_X12_findCover F nodes made fm tm am m_most_3 inCover) (fun m_coverSize_17 m_inCover_18 => bd2 (f_X12_findHold F nodes apart m_near_4) (fun m_holdSet_20 m_apart_21 => bd2 (f_X12_findPairCosts F nodes made fm tm wm am pairCost way) (fun m_pairCost_23 m_way_24 => some (1, m_pieceCount_10, m_parts_11, m_halves_12, m_coverSize_17, m_holdSet_20, m_best_2, m_most_3, m_apart_21, m_near_4, m_worth_5, m_mates_6, m_sizes_7, m_sums_8, m_has_9, m_sorts_13, m_pieces_14, m_inCover_18, m_pairCost_23, m_half_15, m_way_24)))))) 4 F 0 best has mates most near sizes sums worth (by omega) (by omega) (fun way h => by omega) (fun h => absurd h (Nat.lt_irrefl 0)) (fun h => absurd h (Nat.lt_irrefl 0))
    have hC2 := hC
    obtain ⟨hnod, -⟩ := hC2
    -- a table of the class is at hand for the sorts
    have hz : ∀ t, ∃ c, c ≤ 8 ∧ Mx G t c := fun t => by
      obtain ⟨c, hc, hm⟩ := pk_least (fun d => ∃ X, Mt G t X ∧ cX X 60 + d = 8) ⟨8, 0, mt_0 G t, by rw [cX_0]⟩
      obtain ⟨⟨X, x1, x2⟩, hmin⟩ := (⟨hc, hm⟩ : (∃ X, Mt G t X ∧ cX X 60 + c = 8) ∧ ∀ m, m < c → ¬ ∃ X, Mt G t X ∧ cX X 60 + m = 8)
      refine ⟨cX X 60, by omega, ⟨X, x1, rfl⟩, fun Y hY => ?_⟩
      have h8 := mt_c8 hW hY
      rcases Nat.lt_or_ge (cX X 60) (cX Y 60) with q | q
      · exact absurd ⟨Y, hY, by omega⟩ (hmin (8 - cX Y 60) (by omega))
      · exact q
    obtain ⟨c, c8, hcm⟩ := hz (allN G)
    have mask : ∀ (Q : Nat → Prop), (∀ v, Q v → v < 16) → ∃ M : Nat, M < 65536 ∧ ∀ v, M.testBit v = true ↔ Q v := by
      intro Q hQ
      have : ∀ k : Nat, ∃ M : Nat, ∀ v, M.testBit v = true ↔ v < k ∧ Q v := by
        intro k
        induction k with
        | zero => exact ⟨0, fun v => by rw [Nat.zero_testBit]; exact ⟨fun h => (by cases h), fun h => (by omega)⟩⟩
        | succ k ihk =>
          obtain ⟨M, hM⟩ := ihk
          by_cases d : Q k
          · refine ⟨M ||| 2 ^ k, fun v => ?_⟩
            rw [or1_bit, hM]
            constructor
            · rintro (⟨y, z⟩ | y)
              · exact ⟨by omega, z⟩
              · subst y; exact ⟨by omega, d⟩
            · rintro ⟨y, z⟩
              by_cases e : k = v
              · exact Or.inr e
              · exact Or.inl ⟨by omega, z⟩
          · refine ⟨M, fun v => ?_⟩
            rw [hM]
            constructor
            · rintro ⟨y, z⟩; exact ⟨by omega, z⟩
            · rintro ⟨y, z⟩
              by_cases e : v = k
              · subst e; exact absurd z d
              · exact ⟨by omega, z⟩
      obtain ⟨M, hM⟩ := this 16
      exact ⟨M, lt_of_bits (n := 16) (fun v hv => ((hM v).mp hv).1), fun v => (hM v).trans ⟨fun h => h.2, fun h => ⟨hQ v h, h⟩⟩⟩
    have hn := hW.1
    obtain ⟨L, hL, hLb⟩ := mask (fun v => (allN G).testBit v = true ∧ ∃ X, Mt G (allN G) X ∧ cX X 60 = c ∧ ¬ Cov G X v) (fun v hv => lt16_bit (allN_lt hW) hv.1)
    obtain ⟨B, hB16, hBb⟩ := mask (fun v => v < nd G ∧ L.testBit v = false ∧ ∃ u, (adj G v).testBit u = true ∧ L.testBit u = true) (fun v hv => by have := hv.1; omega)
    have hBL : BL G (Mt G (allN G)) (allN G) c L := ⟨hcm.1, hcm.2, hLb⟩
    have hWa : ∀ v, (allN G).testBit v = true → v < nd G := fun v h => by rw [allN_bit] at h; exact of_decide_eq_true h
    obtain ⟨cm, hcm2⟩ := CM_ex hF hW (W := dif (allN G) B) (fun v h => hWa v (by rw [dif_bit, Bool.and_eq_true] at h; exact h.1))
    obtain ⟨cn, hcn⟩ := CM_ex hF hW (W := allN G) hWa
    obtain ⟨f, so', ps', half', s1, s2, s3, s4, s5⟩ := mfindSorts_eq hF hW hC q3 hBL hBb hcm2 hcn sorts pieces half
    obtain ⟨cs, ic, t1, t2⟩ := mcover_eq hF hW hC q3 inCover
    obtain ⟨H, ap, u1, u2⟩ := mhold_eq hF hW q4 apart
    obtain ⟨pc, wy, v1, v2⟩ := mpair_eq hF hW hC pairCost way
    refine ⟨nI (spl (dif (allN G) B) cm (nd G)).2.2.1, nI (spl (allN G) cn (nd G)).2.2.1, f, cs, nI H, b1, mo1, ap, n1, w1, ma1, si1, su1, ha1, so', ps', ic, pc, half', wy, Eq.trans q1 ?_, q2, q3, ⟨c, L, B, cm, cn, c8, hL, hBL, hBb, hcm2, hcn, rfl, rfl, s2, s3, s4, s5⟩, t2, ⟨H, rfl, u2⟩, v2⟩
    rw [hnod] at s1 t1 v1 ⊢
    rw [s1, b6K, t1, b2S, u1, b2S, v1, b2S]
  · rw [if_neg (by decide)]
    exact ⟨_, _, _, _, _, _, _, _, _, _, _, _, _, _, _, _, _, _, _, _, rfl, hk⟩
