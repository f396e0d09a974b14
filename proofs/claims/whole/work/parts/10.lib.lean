/-! Plain facts: reads over writes, numbers that stay in their bounds, bits. Own text. -/
theorem gh {g : Gx} {c i j : Nat} {v : Int} (h : j = i) : gset g c i v c j = v := by simp [gset, h]
theorem gi {g : Gx} {c i j : Nat} {v : Int} (h : j ≠ i) : gset g c i v c j = g c j := by simp [gset, h]
theorem gc {g : Gx} {b c i j : Nat} {v : Int} (h : b ≠ c) : gset g c i v b j = g b j := by simp [gset, h]
theorem rsi {g : Gx} {c n : Nat} {i v : Int} (h0 : 0 ≤ i) (h1 : i < (n : Int)) : rset g c n i v = gset g c i.toNat v := rset_in ⟨h0, h1⟩
theorem rai {g : Gx} {c n : Nat} {i v : Int} (h0 : 0 ≤ i) (h1 : i < (n : Int)) : radd g c n i v = gset g c i.toNat (wr (g c i.toNat + v)) := radd_in ⟨h0, h1⟩
theorem rat_in {g : Gx} {c n : Nat} {i : Int} (h0 : 0 ≤ i) (h1 : i < (n : Int)) : rat g c n i = g c i.toNat := if_pos ⟨h0, h1⟩
theorem rs_ne {g : Gx} {c n b : Nat} {i v : Int} (h : b ≠ c) : rset g c n i v b = g b := by
  funext j; simp [rset, h]
theorem gs_same {g : Gx} {c i : Nat} {v : Int} : gset g c i v c i = v := by simp [gset]
theorem gs_at {g : Gx} {c i j : Nat} {v : Int} (h : j ≠ i) : gset g c i v c j = g c j := by simp [gset, h]
theorem mcmp_lt {x y : Int} : mcmp x y < 0 ↔ x < y := by
  unfold mcmp
  split
  · simp; omega
  · split
    · simp; omega
    · simp; omega
theorem mcmp_gt {x y : Int} : 0 < mcmp x y ↔ y < x := by
  unfold mcmp
  split
  · simp; assumption
  · split
    · simp; omega
    · simp; omega
theorem in_iff {a lo hi : Int} : (Md_in a lo hi = 0) ↔ ¬ (lo ≤ a ∧ a ≤ hi) := by
  unfold Md_in
  by_cases h1 : a < lo
  · rw [if_pos (mcmp_lt.mpr h1)]; simp only [true_iff]; omega
  · rw [if_neg (fun h9 => h1 (mcmp_lt.mp h9))]
    by_cases h2 : hi < a
    · rw [if_pos (mcmp_gt.mpr h2)]; simp only [true_iff]; omega
    · rw [if_neg (fun h9 => h2 (mcmp_gt.mp h9))]
      constructor
      · intro h; omega
      · intro h; omega
theorem in_eq (a lo hi : Int) : Md_in a lo hi = if lo ≤ a ∧ a ≤ hi then 1 else 0 := by
  by_cases h : lo ≤ a ∧ a ≤ hi
  · rw [if_pos h]
    rcases bo_Md_in a lo hi with h1 | h1
    · exact absurd h (in_iff.mp h1)
    · exact h1
  · rw [if_neg h]; exact in_iff.mpr h
theorem isSheet_iff {a : Int} : (Op_isSheet a = 0) ↔ ¬ (0 ≤ a ∧ a ≤ 3) := by
  unfold Op_isSheet
  split
  · simp only [true_iff]; omega
  · split
    · simp only [true_iff]; omega
    · refine ⟨fun h => by omega, fun h => by omega⟩
theorem isForm_iff {a : Int} : (Op_isForm a = 0) ↔ ¬ (0 ≤ a ∧ a ≤ 2) := by
  unfold Op_isForm
  split
  · simp only [true_iff]; omega
  · split
    · simp only [true_iff]; omega
    · refine ⟨fun h => by omega, fun h => by omega⟩
theorem isTalker_iff {a : Int} : (Op_isTalker a = 0) ↔ ¬ (0 ≤ a ∧ a ≤ 5) := by
  unfold Op_isTalker
  split
  · simp only [true_iff]; omega
  · split
    · simp only [true_iff]; omega
    · refine ⟨fun h => by omega, fun h => by omega⟩
theorem isHistory_iff {a : Int} : (Op_isHistory a = 0) ↔ ¬ (0 ≤ a ∧ a ≤ 29) := by
  unfold Op_isHistory
  split
  · simp only [true_iff]; omega
  · split
    · simp only [true_iff]; omega
    · refine ⟨fun h => by omega, fun h => by omega⟩
theorem mdSheet_iff {a : Int} : (Md_isSheet a = 0) ↔ ¬ (0 ≤ a ∧ a ≤ 3) := by
  unfold Md_isSheet; exact in_iff
theorem mdHistory_iff {a : Int} : (Md_isHistory a = 0) ↔ ¬ (0 ≤ a ∧ a ≤ 29) := by
  unfold Md_isHistory; exact in_iff
theorem mdOne_iff {a : Int} : (Md_isOne a = 0) ↔ ¬ (0 ≤ a ∧ a ≤ 5) := by
  unfold Md_isOne; exact in_iff
theorem tl_eq (b : Int) : Op_isTalkerLetter b = if 65 ≤ b ∧ b ≤ 70 then 1 else 0 := by
  unfold Op_isTalkerLetter
  split
  · rw [if_neg (by omega)]
  · split
    · rw [if_neg (by omega)]
    · rw [if_pos (by omega)]
theorem wl_eq (b : Int) : Op_isWordLetter b = if 97 ≤ b ∧ b ≤ 122 then 1 else 0 := by
  unfold Op_isWordLetter
  split
  · rw [if_neg (by omega)]
  · split
    · rw [if_neg (by omega)]
    · rw [if_pos (by omega)]
theorem fu_big (d : Nat) (h : d < 1000000) : d < fu := h
theorem wl_id {x : Int} (h1 : -9223372036854775808 ≤ x) (h2 : x < 9223372036854775808) : wl x = x := Int64.toInt_ofInt_of_le h1 h2
theorem mcmp_eq {x y : Int} : mcmp x y = 0 ↔ x = y := by
  unfold mcmp
  split
  · simp; omega
  · split
    · simp; assumption
    · simp; assumption
theorem i32_nn {b : BitVec 32} (h : b.toNat < 2147483648) : b.toInt = (b.toNat : Int) := BitVec.toInt_eq_toNat_of_lt (by omega)
theorem i32_bv (a : Nat) : (Int32.ofInt (a : Int)).toBitVec = BitVec.ofNat 32 a := by
  rw [Int32.toBitVec_ofInt, BitVec.ofInt_natCast]
theorem i32_tn {a : Nat} (h : a < 4294967296) : (BitVec.ofNat 32 a).toNat = a := by
  rw [BitVec.toNat_ofNat]; exact Nat.mod_eq_of_lt h
theorem jand_nn {a b : Nat} (ha : a < 2147483648) (hb : b < 2147483648) : jand (a : Int) (b : Int) = ((a &&& b : Nat) : Int) := by
  unfold jand
  have e : (Int32.ofInt (a : Int) &&& Int32.ofInt (b : Int)).toBitVec.toNat = a &&& b := by
    rw [Int32.toBitVec_and, i32_bv, i32_bv, BitVec.toNat_and, i32_tn (by omega), i32_tn (by omega)]
  have l : a &&& b ≤ a := Nat.and_le_left
  rw [← Int32.toInt_toBitVec, i32_nn (by omega), e]
theorem jor_nn {a b : Nat} (ha : a < 2147483648) (hb : b < 2147483648) : jor (a : Int) (b : Int) = ((a ||| b : Nat) : Int) := by
  unfold jor
  have e : (Int32.ofInt (a : Int) ||| Int32.ofInt (b : Int)).toBitVec.toNat = a ||| b := by
    rw [Int32.toBitVec_or, i32_bv, i32_bv, BitVec.toNat_or, i32_tn (by omega), i32_tn (by omega)]
  have l : a ||| b < 2 ^ 31 := Nat.or_lt_two_pow ha hb
  rw [← Int32.toInt_toBitVec, i32_nn (by omega), e]
theorem sh_l : ∀ k : Nat, k < 32 → ((Int32.ofInt (k : Int) &&& 31).toBitVec.smod 32).toNat = k := by decide +kernel
theorem jshl_one : ∀ k : Nat, k < 31 → jshl 1 (k : Int) = ((2 ^ k : Nat) : Int) := by decide +kernel
theorem jshr_any {x : Int} (hx : okI x) {k : Nat} (hk : k < 32) : jshr x (k : Int) = x >>> k := by
  unfold jshr
  rw [← Int32.toInt_toBitVec, Int32.toBitVec_shiftRight, BitVec.toInt_sshiftRight', sh_l k hk, Int32.toInt_toBitVec, i32_id hx]
theorem jshr_nn {a k : Nat} (ha : a < 2147483648) (hk : k < 32) : jshr (a : Int) (k : Int) = ((a >>> k : Nat) : Int) := by
  rw [jshr_any ⟨by omega, by omega⟩ hk]; rfl
theorem shr1 (a k : Nat) : (a >>> k) &&& 1 = if a.testBit k then 1 else 0 := by
  rw [Nat.and_one_is_mod, Nat.testBit, Nat.one_and_eq_mod_two]
  rcases Nat.mod_two_eq_zero_or_one (a >>> k) with h | h <;> simp [h]
theorem bit_nn {a k : Nat} (ha : a < 2147483648) (hk : k < 32) : jand (jshr (a : Int) (k : Int)) 1 = if a.testBit k then 1 else 0 := by
  have l : a >>> k ≤ a := by rw [Nat.shiftRight_eq_div_pow]; exact Nat.div_le_self _ _
  rw [jshr_nn ha hk, show (1 : Int) = ((1 : Nat) : Int) from rfl, jand_nn (by omega) (by omega), shr1]
  split <;> rfl
theorem has_nn {a k : Nat} (ha : a < 2147483648) (hk : k < 32) : Op_has (a : Int) (k : Int) = if a.testBit k then 1 else 0 := by
  unfold Op_has
  rw [bit_nn ha hk]
  split <;> simp
theorem jdiv_nn {x y : Int} (h0 : 0 ≤ x) (h1 : x < 2147483648) (h2 : 0 < y) (h3 : y < 2147483648) : jdiv x y = x / y := by
  unfold jdiv
  rw [Int32.toInt_div, i32_id ⟨by omega, h1⟩, i32_id ⟨by omega, h3⟩, Int.tdiv_eq_ediv_of_nonneg h0]
  have l : x / y ≤ x := Int.ediv_le_self _ h0
  have l0 : 0 ≤ x / y := Int.ediv_nonneg h0 (by omega)
  exact Int.bmod_eq_of_le (by omega) (by omega)
theorem jrem_eq {x y : Int} (h0 : okI x) (h1 : okI y) : jrem x y = wr (x - wr (jdiv x y * y)) := by
  unfold jrem wr jdiv
  rw [Int32.ofInt_sub, Int32.ofInt_mul]
  congr 1
  rw [Int32.ofInt_toInt]
  congr 1
  rw [Int32.ofInt_toInt]
theorem jrem_nn {x y : Int} (h0 : 0 ≤ x) (h1 : x < 2147483648) (h2 : 0 < y) (h3 : y < 2147483648) : jrem x y = x % y := by
  have l : x / y * y ≤ x := Int.ediv_mul_le _ (by omega)
  have l0 : 0 ≤ x / y := Int.ediv_nonneg h0 (by omega)
  have l1 : 0 ≤ x / y * y := Int.mul_nonneg l0 (by omega)
  rw [jrem_eq ⟨by omega, h1⟩ ⟨by omega, h3⟩, jdiv_nn h0 h1 h2 h3, wr_id (x := x / y * y) (by omega) (by omega), wr_id (by omega) (by omega)]
  rw [Int.emod_def, Int.mul_comm y]
theorem lett_eq {α β : Type} (x : α) (F : α → β) : lett x F = F x := rfl
theorem ob_eq {α β : Type} (x : α) (F : α → Option β) : Option.bind (some x) F = F x := rfl
