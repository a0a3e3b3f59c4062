/-! ===== how many bits: Integer.bitCount and Long.bitCount ===== -/
def pcF : Nat → Nat → Nat
  | 0, _ => 0
  | k + 1, x => x % 2 + pcF k (x / 2)
def rep (d : Nat) : Nat → Nat
  | 0 => 0
  | k + 1 => 256 * rep d k + d
def st1 (x k : Nat) : Nat := x - (x / 2 &&& rep 85 k)
def st2 (y k : Nat) : Nat := (y &&& rep 51 k) + (y / 4 &&& rep 51 k)
def st3 (z k : Nat) : Nat := (z + z / 16) &&& rep 15 k
def zb (r : Nat) : Nat := st2 (st1 r 1) 1
def bys (g : Nat → Nat) : Nat → Nat → Nat
  | 0, _ => 0
  | k + 1, x => 256 * bys g k (x / 256) + g (x % 256)
theorem land_split (a b c d : Nat) (hb : b < 256) (hd : d < 256) : (256 * a + b) &&& (256 * c + d) = 256 * (a &&& c) + (b &&& d) := by
  apply Nat.eq_of_testBit_eq
  intro i
  have e1 := Nat.testBit_two_pow_mul_add a (b := b) (i := 8) hb i
  have e2 := Nat.testBit_two_pow_mul_add c (b := d) (i := 8) hd i
  have e3 := Nat.testBit_two_pow_mul_add (a &&& c) (b := b &&& d) (i := 8) (Nat.and_lt_two_pow b (n := 8) hd) i
  have p : (2 : Nat) ^ 8 = 256 := rfl
  rw [p] at e1 e2 e3
  rw [Nat.testBit_and, e1, e2, e3]
  by_cases h : i < 8
  · rw [if_pos h, if_pos h, if_pos h, Nat.testBit_and]
  · rw [if_neg h, if_neg h, if_neg h, Nat.testBit_and]
theorem m85 : ∀ t, t < 128 → ∀ b, b < 2 → (128 * b + t) &&& 85 = t &&& 85 := by decide +kernel
theorem m51 : ∀ t, t < 64 → ∀ b, b < 4 → (64 * b + t) &&& 51 = t &&& 51 := by decide +kernel
theorem st1_step (q r k : Nat) (hr : r < 256) : st1 (256 * q + r) (k + 1) = 256 * st1 q k + st1 r 1 ∧ st1 r 1 < 256 := by
  have h1 : st1 r 1 = r - (r / 2 &&& 85) := rfl
  have e : (256 * q + r) / 2 = 256 * (q / 2) + (128 * (q % 2) + r / 2) := by omega
  have hA : (q / 2 &&& rep 85 k) ≤ q / 2 := Nat.and_le_left
  have hB : (r / 2 &&& 85) ≤ r / 2 := Nat.and_le_left
  have e2 : st1 (256 * q + r) (k + 1) = (256 * q + r) - (256 * (q / 2 &&& rep 85 k) + (r / 2 &&& 85)) := by
    show (256 * q + r) - ((256 * q + r) / 2 &&& (256 * rep 85 k + 85)) = _
    rw [e, land_split _ _ _ _ (by omega) (by decide), m85 (r / 2) (by omega) (q % 2) (by omega)]
  refine ⟨?_, by omega⟩
  rw [e2, h1]
  show _ = 256 * (q - (q / 2 &&& rep 85 k)) + _
  omega
theorem st2_step (q r k : Nat) (hr : r < 256) : st2 (256 * q + r) (k + 1) = 256 * st2 q k + st2 r 1 := by
  have e : (256 * q + r) / 4 = 256 * (q / 4) + (64 * (q % 4) + r / 4) := by omega
  show ((256 * q + r) &&& (256 * rep 51 k + 51)) + ((256 * q + r) / 4 &&& (256 * rep 51 k + 51)) = 256 * ((q &&& rep 51 k) + (q / 4 &&& rep 51 k)) + ((r &&& 51) + (r / 4 &&& 51))
  rw [e, land_split _ _ _ _ hr (by decide), land_split _ _ _ _ (by omega) (by decide), m51 (r / 4) (by omega) (q % 4) (by omega)]
  omega
theorem m15 : ∀ t, t < 16 → ∀ u, u < 256 → (16 * t + u < 256 → (16 * t + u) &&& 15 = u &&& 15) := by decide +kernel
theorem st3_step (q r k : Nat) (hr : r + r / 16 + 16 * (q % 16) < 256) : st3 (256 * q + r) (k + 1) = 256 * st3 q k + st3 r 1 := by
  have e : (256 * q + r) + (256 * q + r) / 16 = 256 * (q + q / 16) + (16 * (q % 16) + (r + r / 16)) := by omega
  show ((256 * q + r) + (256 * q + r) / 16 &&& (256 * rep 15 k + 15)) = 256 * (q + q / 16 &&& rep 15 k) + (r + r / 16 &&& 15)
  rw [e, land_split _ _ _ _ (by omega) (by decide), m15 (q % 16) (by omega) (r + r / 16) (by omega) (by omega)]
theorem zb_ok : ∀ r, r < 256 → zb r % 16 ≤ 4 ∧ zb r < 256 ∧ zb r + zb r / 16 + 64 < 256 ∧ st3 (zb r) 1 = pcF 8 r := by decide +kernel
theorem zk : ∀ (k x : Nat), st2 (st1 x (k + 1)) (k + 1) = 256 * st2 (st1 (x / 256) k) k + zb (x % 256) := by
  intro k x
  have hx : x = 256 * (x / 256) + x % 256 := by omega
  have h1 := st1_step (x / 256) (x % 256) k (by omega)
  rw [← hx] at h1
  rw [h1.1, st2_step _ _ _ h1.2]
  rfl
theorem zk_low : ∀ (k x : Nat), st2 (st1 x k) k % 16 ≤ 4 := by
  intro k x
  cases k with
  | zero => show ((_ &&& 0) + (_ &&& 0)) % 16 ≤ 4; rw [Nat.and_zero, Nat.and_zero]; decide
  | succ k =>
    rw [zk]
    have := (zb_ok (x % 256) (by omega)).1
    omega
theorem st3_all : ∀ (k x : Nat), st3 (st2 (st1 x k) k) k = bys (pcF 8) k x := by
  intro k
  induction k with
  | zero => intro x; show (_ &&& 0) = 0; exact Nat.and_zero _
  | succ k ih =>
    intro x
    have hz := zb_ok (x % 256) (by omega)
    have hl := zk_low k (x / 256)
    rw [zk, st3_step _ _ _ (by omega), ih, hz.2.2.2]
    rfl
theorem pcF_add : ∀ (a b x : Nat), pcF (a + b) x = pcF a x + pcF b (x / 2 ^ a) := by
  intro a
  induction a with
  | zero => intro b x; rw [Nat.zero_add, Nat.pow_zero, Nat.div_one]; show _ = 0 + _; omega
  | succ a ih =>
    intro b x
    rw [Nat.succ_add]
    show x % 2 + pcF (a + b) (x / 2) = (x % 2 + pcF a (x / 2)) + _
    rw [ih, Nat.div_div_eq_div_mul, Nat.pow_succ, Nat.mul_comm 2]
    omega
theorem pcF_mod : ∀ (k x : Nat), pcF k (x % 2 ^ k) = pcF k x := by
  intro k
  induction k with
  | zero => intro x; rfl
  | succ k ih =>
    intro x
    show x % 2 ^ (k + 1) % 2 + pcF k (x % 2 ^ (k + 1) / 2) = x % 2 + pcF k (x / 2)
    rw [Nat.pow_succ, Nat.mul_comm, Nat.mod_mul_right_mod, Nat.mod_mul_right_div_self, ih]
theorem bys_pc : ∀ (k x : Nat), (∃ s, s = pcF (8 * k) x) := fun k x => ⟨_, rfl⟩
theorem pcF_le : ∀ (k x : Nat), pcF k x ≤ k := by
  intro k
  induction k with
  | zero => intro x; exact Nat.le_refl 0
  | succ k ih => intro x; show x % 2 + pcF k (x / 2) ≤ k + 1; have := ih (x / 2); omega
theorem pc8 (x : Nat) : pcF 8 (x % 256) = pcF 8 x := pcF_mod 8 x
theorem bys4 (x : Nat) : bys (pcF 8) 4 x = pcF 8 x + 256 * (pcF 8 (x / 256) + 256 * (pcF 8 (x / 65536) + 256 * pcF 8 (x / 16777216))) := by
  show 256 * (256 * (256 * (256 * 0 + pcF 8 (x / 256 / 256 / 256 % 256)) + pcF 8 (x / 256 / 256 % 256)) + pcF 8 (x / 256 % 256)) + pcF 8 (x % 256) = _
  have d2 : x / 256 / 256 = x / 65536 := by omega
  have d3 : x / 65536 / 256 = x / 16777216 := by omega
  rw [pc8, pc8, pc8, pc8, d2, d3]
  omega
theorem pc32 (x : Nat) : pcF 32 x = pcF 8 x + (pcF 8 (x / 256) + (pcF 8 (x / 65536) + pcF 8 (x / 16777216))) := by
  rw [show (32 : Nat) = 8 + (8 + (8 + 8)) from rfl, pcF_add, pcF_add, pcF_add]
  have d2 : x / 2 ^ 8 / 2 ^ 8 = x / 65536 := by omega
  have d3 : x / 65536 / 2 ^ 8 = x / 16777216 := by omega
  rw [d2, d3]
theorem bc_nI {x : Nat} (hx : x < 2 ^ 31) : f_J6_bitCount_0f7a4 (nI x) = nI (pcF 32 x) := by
  have c1 : (1431655765 : Int32) = nI (rep 85 4) := by decide
  have c2 : (858993459 : Int32) = nI (rep 51 4) := by decide
  have c3 : (252645135 : Int32) = nI (rep 15 4) := by decide
  unfold f_J6_bitCount_0f7a4
  simp only [ltt]
  have s1 : st1 x 4 ≤ x := Nat.sub_le _ _
  have e1 : nI x - (((nI x).toUInt32 >>> ((1 : Int32).toUInt32 &&& Int32.toUInt32 31)).toInt32 &&& 1431655765) = nI (st1 x 4) := by
    rw [pk_ushrN (by omega) 1 1 (by decide), c1, nx_and, pk_sub (Nat.le_trans Nat.and_le_left (Nat.div_le_self _ _))]
    rfl
  have h2 : st2 (st1 x 4) 4 ≤ 2 * 858993459 := Nat.le_trans (Nat.add_le_add Nat.and_le_right Nat.and_le_right) (by decide)
  have e2 : (nI (st1 x 4) &&& 858993459) + (((nI (st1 x 4)).toUInt32 >>> ((2 : Int32).toUInt32 &&& Int32.toUInt32 31)).toInt32 &&& 858993459) = nI (st2 (st1 x 4) 4) := by
    rw [pk_ushrN (by omega) 2 2 (by decide), c2, nx_and, nx_and, nI_add]
    rfl
  have e3 : (nI (st2 (st1 x 4) 4) + ((nI (st2 (st1 x 4) 4)).toUInt32 >>> ((4 : Int32).toUInt32 &&& Int32.toUInt32 31)).toInt32) &&& 252645135 = nI (bys (pcF 8) 4 x) := by
    rw [pk_ushrN (by omega) 4 4 (by decide), c3, nI_add, nx_and, ← st3_all]
    rfl
  rw [e1, e2, e3, bys4]
  have b0 := pcF_le 8 x
  have b1 := pcF_le 8 (x / 256)
  have b2 := pcF_le 8 (x / 65536)
  have b3 := pcF_le 8 (x / 16777216)
  rw [pc32]
  generalize pcF 8 x = a0 at *
  generalize pcF 8 (x / 256) = a1 at *
  generalize pcF 8 (x / 65536) = a2 at *
  generalize pcF 8 (x / 16777216) = a3 at *
  have t1 : (a0 + 256 * (a1 + 256 * (a2 + 256 * a3))) / 2 ^ 8 = a1 + 256 * (a2 + 256 * a3) := by omega
  have t2 : (a0 + 256 * (a1 + 256 * (a2 + 256 * a3)) + (a1 + 256 * (a2 + 256 * a3))) / 2 ^ 16 = a2 + a3 + 256 * a3 := by omega
  rw [pk_ushrN (by omega) 8 8 (by decide), nI_add, t1, pk_ushrN (by omega) 16 16 (by decide), nI_add, t2, pk_andN (by omega) 6 (by decide)]
  congr 1
  omega
theorem dv {r q m : Nat} (h : r < m) : (r + m * q) / m = q := by
  rw [Nat.add_mul_div_left r q (by omega), Nat.div_eq_of_lt h, Nat.zero_add]
theorem ar1 {a0 a1 a2 a3 a4 a5 a6 a7 : Nat} (b0 : a0 ≤ 8) (b1 : a1 ≤ 8) (b2 : a2 ≤ 8) (b3 : a3 ≤ 8) (b4 : a4 ≤ 8) (b5 : a5 ≤ 8) (b6 : a6 ≤ 8) (b7 : a7 ≤ 8) : (a0 + 256 * (a1 + 256 * (a2 + 256 * (a3 + 256 * (a4 + 256 * (a5 + 256 * (a6 + 256 * a7))))))) / 2 ^ 8 = a1 + 256 * (a2 + 256 * (a3 + 256 * (a4 + 256 * (a5 + 256 * (a6 + 256 * a7))))) := dv (by omega)
theorem ar2 {a0 a1 a2 a3 a4 a5 a6 a7 : Nat} (b0 : a0 ≤ 8) (b1 : a1 ≤ 8) (b2 : a2 ≤ 8) (b3 : a3 ≤ 8) (b4 : a4 ≤ 8) (b5 : a5 ≤ 8) (b6 : a6 ≤ 8) (b7 : a7 ≤ 8) : (a0 + 256 * (a1 + 256 * (a2 + 256 * (a3 + 256 * (a4 + 256 * (a5 + 256 * (a6 + 256 * a7)))))) + (a1 + 256 * (a2 + 256 * (a3 + 256 * (a4 + 256 * (a5 + 256 * (a6 + 256 * a7))))))) / 2 ^ 16 = (a2 + a3) + 256 * ((a3 + a4) + 256 * ((a4 + a5) + 256 * ((a5 + a6) + 256 * ((a6 + a7) + 256 * a7)))) := by
  have e : a0 + 256 * (a1 + 256 * (a2 + 256 * (a3 + 256 * (a4 + 256 * (a5 + 256 * (a6 + 256 * a7)))))) + (a1 + 256 * (a2 + 256 * (a3 + 256 * (a4 + 256 * (a5 + 256 * (a6 + 256 * a7)))))) = ((a0 + a1) + 256 * (a1 + a2)) + 65536 * ((a2 + a3) + 256 * ((a3 + a4) + 256 * ((a4 + a5) + 256 * ((a5 + a6) + 256 * ((a6 + a7) + 256 * a7))))) := by omega
  rw [e]
  exact dv (by omega)
theorem ar3 {a0 a1 a2 a3 a4 a5 a6 a7 : Nat} (b0 : a0 ≤ 8) (b1 : a1 ≤ 8) (b2 : a2 ≤ 8) (b3 : a3 ≤ 8) (b4 : a4 ≤ 8) (b5 : a5 ≤ 8) (b6 : a6 ≤ 8) (b7 : a7 ≤ 8) : (a0 + 256 * (a1 + 256 * (a2 + 256 * (a3 + 256 * (a4 + 256 * (a5 + 256 * (a6 + 256 * a7)))))) + (a1 + 256 * (a2 + 256 * (a3 + 256 * (a4 + 256 * (a5 + 256 * (a6 + 256 * a7)))))) + ((a2 + a3) + 256 * ((a3 + a4) + 256 * ((a4 + a5) + 256 * ((a5 + a6) + 256 * ((a6 + a7) + 256 * a7)))))) / 2 ^ 32 = (a4 + a5 + a6 + a7) + 256 * ((a5 + a6 + a7) + 256 * ((a6 + a7) + 256 * a7)) := by
  have e : a0 + 256 * (a1 + 256 * (a2 + 256 * (a3 + 256 * (a4 + 256 * (a5 + 256 * (a6 + 256 * a7)))))) + (a1 + 256 * (a2 + 256 * (a3 + 256 * (a4 + 256 * (a5 + 256 * (a6 + 256 * a7)))))) + ((a2 + a3) + 256 * ((a3 + a4) + 256 * ((a4 + a5) + 256 * ((a5 + a6) + 256 * ((a6 + a7) + 256 * a7))))) = ((a0 + a1 + a2 + a3) + 256 * (a1 + a2 + a3 + a4) + 65536 * (a2 + a3 + a4 + a5) + 16777216 * (a3 + a4 + a5 + a6)) + 4294967296 * ((a4 + a5 + a6 + a7) + 256 * ((a5 + a6 + a7) + 256 * ((a6 + a7) + 256 * a7))) := by omega
  rw [e]
  exact dv (by omega)
theorem ar4 {a0 a1 a2 a3 a4 a5 a6 a7 : Nat} (b0 : a0 ≤ 8) (b1 : a1 ≤ 8) (b2 : a2 ≤ 8) (b3 : a3 ≤ 8) (b4 : a4 ≤ 8) (b5 : a5 ≤ 8) (b6 : a6 ≤ 8) (b7 : a7 ≤ 8) : (a0 + 256 * (a1 + 256 * (a2 + 256 * (a3 + 256 * (a4 + 256 * (a5 + 256 * (a6 + 256 * a7)))))) + (a1 + 256 * (a2 + 256 * (a3 + 256 * (a4 + 256 * (a5 + 256 * (a6 + 256 * a7)))))) + ((a2 + a3) + 256 * ((a3 + a4) + 256 * ((a4 + a5) + 256 * ((a5 + a6) + 256 * ((a6 + a7) + 256 * a7))))) + ((a4 + a5 + a6 + a7) + 256 * ((a5 + a6 + a7) + 256 * ((a6 + a7) + 256 * a7)))) % 128 = a0 + (a1 + (a2 + (a3 + (a4 + (a5 + (a6 + a7)))))) ∧ a0 + 256 * (a1 + 256 * (a2 + 256 * (a3 + 256 * (a4 + 256 * (a5 + 256 * (a6 + 256 * a7)))))) + (a1 + 256 * (a2 + 256 * (a3 + 256 * (a4 + 256 * (a5 + 256 * (a6 + 256 * a7)))))) + ((a2 + a3) + 256 * ((a3 + a4) + 256 * ((a4 + a5) + 256 * ((a5 + a6) + 256 * ((a6 + a7) + 256 * a7))))) + ((a4 + a5 + a6 + a7) + 256 * ((a5 + a6 + a7) + 256 * ((a6 + a7) + 256 * a7))) < 2 ^ 63 := by
  have e : a0 + 256 * (a1 + 256 * (a2 + 256 * (a3 + 256 * (a4 + 256 * (a5 + 256 * (a6 + 256 * a7)))))) + (a1 + 256 * (a2 + 256 * (a3 + 256 * (a4 + 256 * (a5 + 256 * (a6 + 256 * a7)))))) + ((a2 + a3) + 256 * ((a3 + a4) + 256 * ((a4 + a5) + 256 * ((a5 + a6) + 256 * ((a6 + a7) + 256 * a7))))) + ((a4 + a5 + a6 + a7) + 256 * ((a5 + a6 + a7) + 256 * ((a6 + a7) + 256 * a7))) = (a0 + (a1 + (a2 + (a3 + (a4 + (a5 + (a6 + a7))))))) + 128 * (2 * ((a1 + a2 + a3 + a4 + a5 + a6 + a7) + 256 * (a2 + a3 + a4 + a5 + a6 + a7) + 65536 * (a3 + a4 + a5 + a6 + a7) + 16777216 * (a4 + a5 + a6 + a7) + 4294967296 * (a5 + a6 + a7) + 1099511627776 * (a6 + a7) + 281474976710656 * a7)) := by omega
  refine ⟨?_, by omega⟩
  rw [e, Nat.add_mul_mod_self_left]
  exact Nat.mod_eq_of_lt (by omega)
theorem lN_lt63 {a b : Nat} (ha : a < 2 ^ 63) (hb : b < 2 ^ 63) : lN a = lN b ↔ a = b := pk_lEQ ha hb
theorem bys8 (x : Nat) : bys (pcF 8) 8 x = pcF 8 x + 256 * (pcF 8 (x / 256) + 256 * (pcF 8 (x / 65536) + 256 * (pcF 8 (x / 16777216) + 256 * (pcF 8 (x / 4294967296) + 256 * (pcF 8 (x / 1099511627776) + 256 * (pcF 8 (x / 281474976710656) + 256 * pcF 8 (x / 72057594037927936))))))) := by
  show 256 * (256 * (256 * (256 * (256 * (256 * (256 * (256 * 0 + pcF 8 (x / 256 / 256 / 256 / 256 / 256 / 256 / 256 % 256)) + pcF 8 (x / 256 / 256 / 256 / 256 / 256 / 256 % 256)) + pcF 8 (x / 256 / 256 / 256 / 256 / 256 % 256)) + pcF 8 (x / 256 / 256 / 256 / 256 % 256)) + pcF 8 (x / 256 / 256 / 256 % 256)) + pcF 8 (x / 256 / 256 % 256)) + pcF 8 (x / 256 % 256)) + pcF 8 (x % 256) = _
  have d2 : x / 256 / 256 = x / 65536 := by omega
  have d3 : x / 65536 / 256 = x / 16777216 := by omega
  have d4 : x / 16777216 / 256 = x / 4294967296 := by omega
  have d5 : x / 4294967296 / 256 = x / 1099511627776 := by omega
  have d6 : x / 1099511627776 / 256 = x / 281474976710656 := by omega
  have d7 : x / 281474976710656 / 256 = x / 72057594037927936 := by omega
  rw [pc8, pc8, pc8, pc8, pc8, pc8, pc8, pc8, d2, d3, d4, d5, d6, d7]
  omega
theorem pc64 (x : Nat) : pcF 64 x = pcF 8 x + (pcF 8 (x / 256) + (pcF 8 (x / 65536) + (pcF 8 (x / 16777216) + (pcF 8 (x / 4294967296) + (pcF 8 (x / 1099511627776) + (pcF 8 (x / 281474976710656) + pcF 8 (x / 72057594037927936))))))) := by
  rw [show (64 : Nat) = 8 + (8 + (8 + (8 + (8 + (8 + (8 + 8)))))) from rfl, pcF_add, pcF_add, pcF_add, pcF_add, pcF_add, pcF_add, pcF_add]
  have d2 : x / 2 ^ 8 / 2 ^ 8 = x / 65536 := by omega
  have d3 : x / 65536 / 2 ^ 8 = x / 16777216 := by omega
  have d4 : x / 16777216 / 2 ^ 8 = x / 4294967296 := by omega
  have d5 : x / 4294967296 / 2 ^ 8 = x / 1099511627776 := by omega
  have d6 : x / 1099511627776 / 2 ^ 8 = x / 281474976710656 := by omega
  have d7 : x / 281474976710656 / 2 ^ 8 = x / 72057594037927936 := by omega
  rw [d2, d3, d4, d5, d6, d7]
theorem ushrL {n : Nat} (hn : n < 2 ^ 64) (k : Nat) (hk : k < 64) {s : Int32} (hs : s = nI k) : ((lN n).toUInt64 >>> (s.toInt64.toUInt64 &&& Int64.toUInt64 63)).toInt64 = lN (n / 2 ^ k) := by
  rw [hs]; exact wb_shr hn hk
theorem bc_lN {x : Nat} (hx : x < 2 ^ 63) : f_J13_bitCount_95d88 (lN x) = nI (pcF 64 x) := by
  have c1 : (6148914691236517205 : Int64) = lN (rep 85 8) := by decide
  have c2 : (3689348814741910323 : Int64) = lN (rep 51 8) := by decide
  have c3 : (1085102592571150095 : Int64) = lN (rep 15 8) := by decide
  unfold f_J13_bitCount_95d88
  simp only [ltt]
  have s1 : st1 x 8 ≤ x := Nat.sub_le _ _
  have e1 : lN x - (((lN x).toUInt64 >>> ((1 : Int32).toInt64.toUInt64 &&& Int64.toUInt64 63)).toInt64 &&& 6148914691236517205) = lN (st1 x 8) := by
    rw [ushrL (by omega) 1 (by decide) (s := 1) rfl, c1, wb_and (by omega) (by decide), lN_sub (Nat.le_trans Nat.and_le_left (Nat.div_le_self _ _))]
    rfl
  have h2 : st2 (st1 x 8) 8 ≤ 2 * 3689348814741910323 := Nat.le_trans (Nat.add_le_add Nat.and_le_right Nat.and_le_right) (by decide)
  have e2 : (lN (st1 x 8) &&& 3689348814741910323) + (((lN (st1 x 8)).toUInt64 >>> ((2 : Int32).toInt64.toUInt64 &&& Int64.toUInt64 63)).toInt64 &&& 3689348814741910323) = lN (st2 (st1 x 8) 8) := by
    rw [ushrL (by omega) 2 (by decide) (s := 2) rfl, c2, wb_and (by omega) (by decide), wb_and (by omega) (by decide), lN_add]
    rfl
  have e3 : (lN (st2 (st1 x 8) 8) + ((lN (st2 (st1 x 8) 8)).toUInt64 >>> ((4 : Int32).toInt64.toUInt64 &&& Int64.toUInt64 63)).toInt64) &&& 1085102592571150095 = lN (bys (pcF 8) 8 x) := by
    rw [ushrL (by omega) 4 (by decide) (s := 4) rfl, c3, lN_add, wb_and (by omega) (by decide), ← st3_all]
    rfl
  rw [e1, e2, e3, bys8]
  have b0 := pcF_le 8 x
  have b1 := pcF_le 8 (x / 256)
  have b2 := pcF_le 8 (x / 65536)
  have b3 := pcF_le 8 (x / 16777216)
  have b4 := pcF_le 8 (x / 4294967296)
  have b5 := pcF_le 8 (x / 1099511627776)
  have b6 := pcF_le 8 (x / 281474976710656)
  have b7 := pcF_le 8 (x / 72057594037927936)
  rw [pc64]
  clear e1 e2 e3 h2 s1 c1 c2 c3
  generalize pcF 8 x = a0 at b0 ⊢
  generalize pcF 8 (x / 256) = a1 at b1 ⊢
  generalize pcF 8 (x / 65536) = a2 at b2 ⊢
  generalize pcF 8 (x / 16777216) = a3 at b3 ⊢
  generalize pcF 8 (x / 4294967296) = a4 at b4 ⊢
  generalize pcF 8 (x / 1099511627776) = a5 at b5 ⊢
  generalize pcF 8 (x / 281474976710656) = a6 at b6 ⊢
  generalize pcF 8 (x / 72057594037927936) = a7 at b7 ⊢
  clear hx
  obtain ⟨r1, r2⟩ := ar4 b0 b1 b2 b3 b4 b5 b6 b7
  rw [ushrL (Nat.lt_of_le_of_lt (by omega) (Nat.lt_trans r2 (by decide))) 8 (by decide) (s := 8) rfl, lN_add, ar1 b0 b1 b2 b3 b4 b5 b6 b7, ushrL (Nat.lt_of_le_of_lt (by omega) (Nat.lt_trans r2 (by decide))) 16 (by decide) (s := 16) rfl, lN_add, ar2 b0 b1 b2 b3 b4 b5 b6 b7, ushrL (Nat.lt_of_le_of_lt (by omega) (Nat.lt_trans r2 (by decide))) 32 (by decide) (s := 32) rfl, lN_add, ar3 b0 b1 b2 b3 b4 b5 b6 b7, lN_i, show (127 : Int32) = nI 127 from rfl, nx_and, show (127 : Nat) = 2 ^ 7 - 1 from rfl, Nat.and_two_pow_sub_one_eq_mod, show (2 : Nat) ^ 7 = 128 from rfl, r1]
