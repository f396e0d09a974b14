/-! How many bits: the class's count. Own text. -/
theorem sh_u : ∀ k : Nat, k < 32 → (((Int32.ofInt (k : Int)).toUInt32 &&& Int32.toUInt32 31).toBitVec % 32).toNat = k := by decide +kernel
theorem jushr_nn {a k : Nat} (ha : a < 2147483648) (hk : k < 32) : jushr (a : Int) (k : Int) = ((a / 2 ^ k : Nat) : Int) := by
  unfold jushr
  have e0 : (Int32.ofInt (a : Int)).toUInt32.toBitVec.toNat = a := by
    rw [Int32.toBitVec_toUInt32, i32_bv, i32_tn (by omega)]
  have e : ((Int32.ofInt (a : Int)).toUInt32 >>> ((Int32.ofInt (k : Int)).toUInt32 &&& Int32.toUInt32 31)).toBitVec.toNat = a / 2 ^ k := by
    rw [UInt32.toBitVec_shiftRight, BitVec.ushiftRight_eq', BitVec.toNat_ushiftRight, sh_u k hk, e0, Nat.shiftRight_eq_div_pow]
  have l : a / 2 ^ k ≤ a := Nat.div_le_self _ _
  have e2 : ((Int32.ofInt (a : Int)).toUInt32 >>> ((Int32.ofInt (k : Int)).toUInt32 &&& Int32.toUInt32 31)).toInt32.toInt = (((Int32.ofInt (a : Int)).toUInt32 >>> ((Int32.ofInt (k : Int)).toUInt32 &&& Int32.toUInt32 31)).toBitVec.toNat : Int) := by
    rw [← Int32.toInt_toBitVec]
    exact i32_nn (by rw [UInt32.toBitVec_toInt32, e]; omega)
  rw [e2, e]
theorem and_by {a b : Nat} (x y : Nat) (ha : a < 256) (hb : b < 256) : (256 * x + a) &&& (256 * y + b) = 256 * (x &&& y) + (a &&& b) := by
  have hab : a &&& b < 2 ^ 8 := Nat.lt_of_le_of_lt Nat.and_le_left ha
  apply Nat.eq_of_testBit_eq
  intro j
  rw [Nat.testBit_and, show 256 = 2 ^ 8 from rfl, Nat.testBit_two_pow_mul_add _ ha, Nat.testBit_two_pow_mul_add _ hb, Nat.testBit_two_pow_mul_add _ hab]
  split <;> rw [Nat.testBit_and]
def mk1 (b : Nat) : Nat → Nat
  | 0 => 0
  | k + 1 => 256 * mk1 b k + b
def T1 (k x : Nat) : Nat := x - ((x / 2) &&& mk1 85 k)
def T2 (k v : Nat) : Nat := (v &&& mk1 51 k) + ((v / 4) &&& mk1 51 k)
def T3 (k v : Nat) : Nat := (v + v / 16) &&& mk1 15 k
def t1 (a : Nat) : Nat := a - ((a / 2) &&& 85)
def t2 (b : Nat) : Nat := (b &&& 51) + ((b / 4) &&& 51)
theorem t1_m : ∀ a : Nat, a < 256 → ∀ e : Nat, e < 2 → (128 * e + a / 2) &&& 85 = (a / 2) &&& 85 := by decide +kernel
theorem t2_m : ∀ b : Nat, b < 256 → ∀ e : Nat, e < 4 → (64 * e + b / 4) &&& 51 = (b / 4) &&& 51 := by decide +kernel
theorem t_f : ∀ a : Nat, a < 256 → t1 a < 256 ∧ t2 (t1 a) ≤ 68 ∧ t2 (t1 a) % 16 ≤ 4 ∧ (t2 (t1 a) + t2 (t1 a) / 16) % 16 = pcn 8 a ∧ pcn 8 a ≤ 8 := by decide +kernel
theorem T1_s (k y a : Nat) (ha : a < 256) : T1 (k + 1) (256 * y + a) = 256 * T1 k y + t1 a := by
  unfold T1 t1
  rw [show (256 * y + a) / 2 = 256 * (y / 2) + (128 * (y % 2) + a / 2) by omega, mk1, and_by _ _ (by omega) (by decide), t1_m a ha (y % 2) (by omega)]
  have h1 : (y / 2) &&& mk1 85 k ≤ y / 2 := Nat.and_le_left
  have h2 : (a / 2) &&& 85 ≤ a / 2 := Nat.and_le_left
  omega
theorem T2_s (k w b : Nat) (hb : b < 256) : T2 (k + 1) (256 * w + b) = 256 * T2 k w + t2 b := by
  unfold T2 t2
  rw [show (256 * w + b) / 4 = 256 * (w / 4) + (64 * (w % 4) + b / 4) by omega, mk1, and_by _ _ hb (by decide), and_by _ _ (by omega) (by decide), t2_m b hb (w % 4) (by omega)]
  omega
theorem T3_s (k w c : Nat) (hc : c ≤ 68) (hw : w % 16 ≤ 4) : T3 (k + 1) (256 * w + c) = 256 * T3 k w + (c + c / 16) % 16 := by
  unfold T3
  rw [show 256 * w + c + (256 * w + c) / 16 = 256 * (w + w / 16) + (c + c / 16 + 16 * (w % 16)) by omega, mk1, and_by _ _ (by omega) (by decide), show (15 : Nat) = 2 ^ 4 - 1 from rfl, Nat.and_two_pow_sub_one_eq_mod]
  omega
theorem T_nib : ∀ k y, y < 256 ^ k → T2 k (T1 k y) % 16 ≤ 4 := by
  intro k y h
  cases k with
  | zero =>
    have : y = 0 := by simpa using h
    subst this
    decide
  | succ k =>
    have e : y = 256 * (y / 256) + y % 256 := by omega
    obtain ⟨f1, f2, f3, -⟩ := t_f (y % 256) (by omega)
    rw [e, T1_s _ _ _ (by omega), T2_s _ _ _ f1]
    omega
theorem T_all : ∀ k y a, y < 256 ^ k → a < 256 → T3 (k + 1) (T2 (k + 1) (T1 (k + 1) (256 * y + a))) = 256 * T3 k (T2 k (T1 k y)) + pcn 8 a := by
  intro k y a hy ha
  obtain ⟨f1, f2, f3, f4, -⟩ := t_f a ha
  rw [T1_s _ _ _ ha, T2_s _ _ _ f1, T3_s _ _ _ f2 (T_nib k y hy), f4]
theorem pcn_8 (k y a : Nat) (ha : a < 256) : pcn (k + 8) (256 * y + a) = pcn k y + pcn 8 a := by
  have z : ∀ b, pcn 0 b = 0 := fun b => rfl
  rw [show k + 8 = k + 7 + 1 from rfl, pcn_half, show k + 7 = k + 6 + 1 from rfl, pcn_half, show k + 6 = k + 5 + 1 from rfl, pcn_half, show k + 5 = k + 4 + 1 from rfl, pcn_half, show k + 4 = k + 3 + 1 from rfl, pcn_half, show k + 3 = k + 2 + 1 from rfl, pcn_half, show k + 2 = k + 1 + 1 from rfl, pcn_half, pcn_half, show (8 : Nat) = 7 + 1 from rfl, pcn_half 7, show (7 : Nat) = 6 + 1 from rfl, pcn_half 6, show (6 : Nat) = 5 + 1 from rfl, pcn_half 5, show (5 : Nat) = 4 + 1 from rfl, pcn_half 4, show (4 : Nat) = 3 + 1 from rfl, pcn_half 3, show (3 : Nat) = 2 + 1 from rfl, pcn_half 2, show (2 : Nat) = 1 + 1 from rfl, pcn_half 1, show (1 : Nat) = 0 + 1 from rfl, pcn_half 0, z]
  simp only [Nat.zero_add, Nat.reduceAdd]
  rw [show (256 * y + a) / 2 / 2 / 2 / 2 / 2 / 2 / 2 / 2 = y by omega]
  omega
theorem and_le_r (a b : Nat) : a &&& b ≤ b := Nat.and_le_right
theorem bc_ok {x : Nat} (hx : x < 1073741824) : Ji_bitCount (x : Int) = (pc30 x : Int) := by
  have M1 : mk1 85 4 = 1431655765 := rfl
  have M2 : mk1 51 4 = 858993459 := rfl
  have M3 : mk1 15 4 = 252645135 := rfl
  -- the bytes
  have d0 : x = 256 * (x / 256) + x % 256 := by omega
  have d1 : x / 256 = 256 * (x / 65536) + x / 256 % 256 := by omega
  have d2 : x / 65536 = 256 * (x / 16777216) + x / 65536 % 256 := by omega
  have d3 : x / 16777216 = 256 * 0 + x / 16777216 := by omega
  have l3 : x / 16777216 < 256 := by omega
  have A : T3 4 (T2 4 (T1 4 x)) = 256 * (256 * (256 * pcn 8 (x / 16777216) + pcn 8 (x / 65536 % 256)) + pcn 8 (x / 256 % 256)) + pcn 8 (x % 256) := by
    have e3 : T3 1 (T2 1 (T1 1 (x / 16777216))) = pcn 8 (x / 16777216) := by
      have := T_all 0 0 (x / 16777216) (by decide) l3
      rw [← d3] at this
      rw [this]
      have : T3 0 (T2 0 (T1 0 0)) = 0 := by decide
      omega
    have e2 := T_all 1 (x / 16777216) (x / 65536 % 256) (by omega) (by omega)
    rw [← d2, e3] at e2
    have e1 := T_all 2 (x / 65536) (x / 256 % 256) (by omega) (by omega)
    rw [← d1, e2] at e1
    have e0 := T_all 3 (x / 256) (x % 256) (by omega) (by omega)
    rw [← d0, e1] at e0
    exact e0
  have B : pcn 32 x = pcn 8 (x / 16777216) + pcn 8 (x / 65536 % 256) + pcn 8 (x / 256 % 256) + pcn 8 (x % 256) := by
    have e0 := pcn_8 24 (x / 256) (x % 256) (by omega)
    rw [← d0] at e0
    have e1 := pcn_8 16 (x / 65536) (x / 256 % 256) (by omega)
    rw [← d1] at e1
    have e2 := pcn_8 8 (x / 16777216) (x / 65536 % 256) (by omega)
    rw [← d2] at e2
    rw [e0, e1, e2]
  have C : pc30 x = pcn 32 x := by
    have c1 : x.testBit 30 = false := Nat.testBit_lt_two_pow hx
    have c2 : x.testBit 31 = false := Nat.testBit_lt_two_pow (Nat.lt_trans hx (by decide))
    rw [pcn_succ 31, pcn_succ 30, c1, c2]
    rfl
  have p0 := (t_f (x % 256) (by omega)).2.2.2.2
  have p1 := (t_f (x / 256 % 256) (by omega)).2.2.2.2
  have p2 := (t_f (x / 65536 % 256) (by omega)).2.2.2.2
  have p3 := (t_f (x / 16777216) (by omega)).2.2.2.2
  have hv1 : T1 4 x ≤ x := Nat.sub_le _ _
  have hv2 : T2 4 (T1 4 x) ≤ 1717986918 := by
    unfold T2
    rw [M2]
    have a1 := and_le_r (T1 4 x) 858993459
    have a2 := and_le_r (T1 4 x / 4) 858993459
    omega
  have s1 : wr ((x : Int) - (jand (jushr (x : Int) 1) 1431655765)) = (T1 4 x : Int) := by
    rw [show (1 : Int) = ((1 : Nat) : Int) from rfl, jushr_nn (by omega) (by decide), show (1431655765 : Int) = ((1431655765 : Nat) : Int) from rfl, jand_nn (by omega) (by decide)]
    have a1 : (x / 2 ^ 1) &&& 1431655765 ≤ x / 2 ^ 1 := Nat.and_le_left
    rw [wr_id (by omega) (by omega)]
    unfold T1
    rw [M1, show x / 2 ^ 1 = x / 2 from rfl] at *
    omega
  have s2 : wr ((jand (T1 4 x : Int) 858993459) + (jand (jushr (T1 4 x : Int) 2) 858993459)) = (T2 4 (T1 4 x) : Int) := by
    rw [show (2 : Int) = ((2 : Nat) : Int) from rfl, jushr_nn (by omega) (by decide), show (858993459 : Int) = ((858993459 : Nat) : Int) from rfl, jand_nn (by omega) (by decide), jand_nn (Nat.lt_of_le_of_lt (Nat.div_le_self _ _) (by omega)) (by decide)]
    have e : T2 4 (T1 4 x) = (T1 4 x &&& 858993459) + (T1 4 x / 2 ^ 2 &&& 858993459) := by unfold T2; rw [M2]
    rw [wr_id (by omega) (by omega)]
    omega
  have s3 : jand (wr ((T2 4 (T1 4 x) : Int) + (jushr (T2 4 (T1 4 x) : Int) 4))) 252645135 = (T3 4 (T2 4 (T1 4 x)) : Int) := by
    rw [show (4 : Int) = ((4 : Nat) : Int) from rfl, jushr_nn (by omega) (by decide), wr_id (by omega) (by omega), show (T2 4 (T1 4 x) : Int) + ((T2 4 (T1 4 x) / 2 ^ 4 : Nat) : Int) = ((T2 4 (T1 4 x) + T2 4 (T1 4 x) / 16 : Nat) : Int) by omega, show (252645135 : Int) = ((252645135 : Nat) : Int) from rfl, jand_nn (by omega) (by decide)]
    unfold T3
    rw [M3]
  unfold Ji_bitCount
  rw [s1, s2, s3, A]
  rw [show (8 : Int) = ((8 : Nat) : Int) from rfl, jushr_nn (by omega) (by decide), show (16 : Int) = ((16 : Nat) : Int) from rfl, C, B]
  generalize pcn 8 (x % 256) = q0 at *
  generalize pcn 8 (x / 256 % 256) = q1 at *
  generalize pcn 8 (x / 65536 % 256) = q2 at *
  generalize pcn 8 (x / 16777216) = q3 at *
  have w1 : (256 * (256 * (256 * q3 + q2) + q1) + q0) / 2 ^ 8 = 256 * (256 * q3 + q2) + q1 := by omega
  rw [w1, wr_id (x := ((256 * (256 * (256 * q3 + q2) + q1) + q0 : Nat) : Int) + ((256 * (256 * q3 + q2) + q1 : Nat) : Int)) (by omega) (by omega), show ((256 * (256 * (256 * q3 + q2) + q1) + q0 : Nat) : Int) + ((256 * (256 * q3 + q2) + q1 : Nat) : Int) = ((256 * (256 * (256 * q3 + q2) + q1) + q0 + (256 * (256 * q3 + q2) + q1) : Nat) : Int) by omega, jushr_nn (by omega) (by decide), wr_id (by omega) (by omega), show ((256 * (256 * (256 * q3 + q2) + q1) + q0 + (256 * (256 * q3 + q2) + q1) : Nat) : Int) + (((256 * (256 * (256 * q3 + q2) + q1) + q0 + (256 * (256 * q3 + q2) + q1)) / 2 ^ 16 : Nat) : Int) = ((256 * (256 * (256 * q3 + q2) + q1) + q0 + (256 * (256 * q3 + q2) + q1) + (256 * (256 * (256 * q3 + q2) + q1) + q0 + (256 * (256 * q3 + q2) + q1)) / 65536 : Nat) : Int) by omega, show (63 : Int) = ((2 ^ 6 - 1 : Nat) : Int) from rfl, jand_nn (by omega) (by decide), Nat.and_two_pow_sub_one_eq_mod]
  have w2 : (256 * (256 * (256 * q3 + q2) + q1) + q0 + (256 * (256 * q3 + q2) + q1)) / 65536 = 256 * q3 + q3 + q2 := by omega
  rw [w2]
  have w3 : (256 * (256 * (256 * q3 + q2) + q1) + q0 + (256 * (256 * q3 + q2) + q1) + (256 * q3 + q3 + q2)) % 2 ^ 6 = q3 + q2 + q1 + q0 := by
    rw [show (2 : Nat) ^ 6 = 64 from rfl]
    omega
  rw [w3]
