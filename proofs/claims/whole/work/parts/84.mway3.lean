theorem mates0_L {way : Nat} (hw : way < 4) {kk : (Nat → Int32) → Option ((Nat → Int32) × (Nat → Int32) × (Nat → Int32) × (Nat → Int32) × (Nat → Int32) × (Nat → Int32) × (Nat → Int32) × (Nat → Int32))} : ∀ (k m v : Nat) (mates : Nat → Int32), v + k = 16 → k < m → (∀ u, u < v → mates (way * 16 + u) = -1) →
    ∃ mates', f_X12_findWay_L40 (nI way) kk m (nI v) mates = kk mates' ∧ (∀ u, u < 16 → mates' (way * 16 + u) = -1) ∧ ∀ w, w ≠ way → ∀ u, u < 16 → mates' (w * 16 + u) = mates (w * 16 + u) := by
  intro k
  induction k with
  | zero =>
    intro m v mates e1 hm h
    obtain ⟨m, rfl⟩ : ∃ k, m = k + 1 := ⟨m - 1, by omega⟩
    refine ⟨mates, ?_, fun u hu => h u (by omega), fun _ _ _ _ => rfl⟩
    unfold f_X12_findWay_L40
    rw [if_pos ((le16 (by omega)).mpr (by omega))]
  | succ k ih =>
    intro m v mates e1 hm h
    obtain ⟨m, rfl⟩ : ∃ k, m = k + 1 := ⟨m - 1, by omega⟩
    have h' : ∀ u, u < v + 1 → va_up mates (way * 16 + v) (-1) (way * 16 + u) = -1 := by
      intro u hu
      by_cases c : u = v
      · rw [c, up_s]
      · rw [up_n (by omega)]; exact h u (by omega)
    obtain ⟨mates', x1, x2, x3⟩ := ih m (v + 1) (va_up mates (way * 16 + v) (-1)) (by omega) (by omega) h'
    refine ⟨mates', ?_, x2, fun w hne u hu => by rw [x3 w hne u hu, up_n (by omega)]⟩
    unfold f_X12_findWay_L40
    rw [if_neg (fun x => by rw [le16 (by omega)] at x; omega), cell2_nI, wr_nI (by omega) (by decide), nI_1]
    exact x1
theorem byte_nI : ∀ c, c < 128 → ((nI c).toInt8.toInt32 : Int32).toInt8.toInt32 = nI c := by decide +kernel
theorem most_L {G : Gr} (hW : Wf G) {best : Nat → Int32} (hb : ∀ t, t ≤ allN G → ∃ c, c < 128 ∧ best t = nI c) : ∀ (k m s : Nat) (most : Nat → Int32), s + k = allN G + 1 → k < m → (∀ t, t < s → most t = best t) →
    ∃ most', (∀ kk : (Nat → Int32) → Option ((Nat → Int32) × (Nat → Int32) × (Nat → Int32) × (Nat → Int32) × (Nat → Int32) × (Nat → Int32) × (Nat → Int32) × (Nat → Int32)), f_X12_findWay_L7 (nI (nd G)) (nI 0) best kk m (nI s) most = kk most') ∧ ∀ t, t ≤ allN G → most' t = best t := by
  have hall := allN_lt hW
  intro k
  induction k with
  | zero =>
    intro m s most e1 hm h
    obtain ⟨m, rfl⟩ : ∃ k, m = k + 1 := ⟨m - 1, by omega⟩
    refine ⟨most, fun kk => ?_, fun t ht => h t (by omega)⟩
    unfold f_X12_findWay_L7
    rw [mall_eq hW, if_pos ((nI_ltI (by omega) (by omega)).mpr (by omega))]
  | succ k ih =>
    intro m s most e1 hm h
    obtain ⟨m, rfl⟩ : ∃ k, m = k + 1 := ⟨m - 1, by omega⟩
    obtain ⟨c, c1, c2⟩ := hb s (by omega)
    have h' : ∀ t, t < s + 1 → va_up most s (nI c) t = best t := by
      intro t ht
      by_cases d : t = s
      · rw [d, up_s, c2]
      · rw [up_n d]; exact h t (by omega)
    obtain ⟨most', x1, x2⟩ := ih m (s + 1) (va_up most s (nI c)) (by omega) (by omega) h'
    refine ⟨most', fun kk => ?_, x2⟩
    unfold f_X12_findWay_L7
    rw [mall_eq hW, if_neg (fun x => by rw [nI_ltI (by omega) (by omega)] at x; omega), if_pos (show nI 0 = (0 : Int32) from rfl), rd_nI (by omega) (by decide), c2, byte_nI c c1, wr_nI (by omega) (by decide), nI_1]
    exact x1 kk
