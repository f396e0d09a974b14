/-! what may be told: the mask. Own text. -/
theorem tb_or (x k i : Nat) : (x ||| 2 ^ k).testBit i = true ↔ x.testBit i = true ∨ i = k := by
  rw [Nat.testBit_or, Nat.testBit_two_pow, Bool.or_eq_true, decide_eq_true_eq]
  constructor
  · rintro (h | h)
    · exact Or.inl h
    · exact Or.inr h.symm
  · rintro (h | h)
    · exact Or.inl h
    · exact Or.inr h.symm
theorem may_in {g : Gx} {us a c w : Nat} (hu : g 92 18 = (us : Int)) (hu2 : us < 64) (ha : a < 170) (h1 : g 99 a = 1) (h2 : g 102 a = (c : Int)) (hc : c < 5) (h3 : g 100 a = (w : Int)) (K : Int → Gx → Option (Int × Gx)) : ∀ (k v n x : Nat), v + k = 6 → k < n → x < 1073741824 → ∃ x' : Nat, x' < 1073741824 ∧ Md_mended_l36 (a : Int) K n (x : Int) (v : Int) g = K (x' : Int) g ∧ ∀ i, x'.testBit i = true ↔ x.testBit i = true ∨ ∃ j, v ≤ j ∧ j < 6 ∧ j ≠ w ∧ us.testBit j = true ∧ i = 6 * c + j := by
  intro k
  induction k with
  | zero =>
    intro v n x hv hn hx
    obtain ⟨n, rfl⟩ : ∃ q, n = q + 1 := ⟨n - 1, by omega⟩
    refine ⟨x, hx, by rw [Md_mended_l36, if_pos (by omega)], fun i => ⟨Or.inl, ?_⟩⟩
    rintro (h | ⟨j, j1, j2, -⟩)
    · exact h
    · omega
  | succ k ih =>
    intro v n x hv hn hx
    obtain ⟨n, rfl⟩ : ∃ q, n = q + 1 := ⟨n - 1, by omega⟩
    have ra : (0 : Int) ≤ (a : Int) ∧ (a : Int) < 170 := by omega
    have hd : Md_mended_l36 (a : Int) K (n + 1) (x : Int) (v : Int) g = if (v : Int) = (w : Int) then Md_mended_l36 (a : Int) K n (x : Int) ((v + 1 : Nat) : Int) g else if ¬ (if us.testBit v then (1 : Int) else 0) = 1 then Md_mended_l36 (a : Int) K n (x : Int) ((v + 1 : Nat) : Int) g else Md_mended_l36 (a : Int) K n ((x ||| 2 ^ (6 * c + v) : Nat) : Int) ((v + 1 : Nat) : Int) g := by
      rw [Md_mended_l36, if_neg (by omega), if_pos ra, Int.toNat_natCast, if_neg (fun h9 => h9 h1), if_pos ra, h2, if_neg (by omega), if_pos ra, h3, if_pos ra, hu, bit_nn (by omega) (by omega), wr_id (show -2147483648 ≤ (v : Int) + 1 by omega) (by omega), wr_id (show -2147483648 ≤ 6 * (c : Int) by omega) (by omega), wr_id (show -2147483648 ≤ 6 * (c : Int) + (v : Int) by omega) (by omega), show 6 * (c : Int) + (v : Int) = ((6 * c + v : Nat) : Int) by omega, jshl_one _ (by omega), show (v : Int) + 1 = ((v + 1 : Nat) : Int) by omega]
      have hpw : 2 ^ (6 * c + v) < 2 ^ 30 := Nat.pow_lt_pow_right (by decide) (by omega)
      rw [jor_nn (show x < 2147483648 by omega) (by omega), show (0 : Int) = ((0 : Nat) : Int) from rfl, jor_nn (show x < 2147483648 by omega) (show 0 < 2147483648 by decide), Nat.or_zero]
    have skip : (v = w ∨ ¬ us.testBit v = true) → Md_mended_l36 (a : Int) K (n + 1) (x : Int) (v : Int) g = Md_mended_l36 (a : Int) K n (x : Int) ((v + 1 : Nat) : Int) g := fun h9 => by
      rw [hd]
      by_cases q1 : (v : Int) = (w : Int)
      · rw [if_pos q1]
      · rw [if_neg q1, if_neg (show ¬ us.testBit v = true by rcases h9 with h9 | h9; omega; exact h9), if_pos (by decide)]
    by_cases c1 : v = w ∨ ¬ us.testBit v = true
    · obtain ⟨x', p1, p2, p3⟩ := ih (v + 1) n x (by omega) (by omega) hx
      refine ⟨x', p1, (skip c1).trans p2, fun i => (p3 i).trans ⟨?_, ?_⟩⟩
      · rintro (h | ⟨j, j1, j2, j3⟩)
        · exact Or.inl h
        · exact Or.inr ⟨j, by omega, j2, j3⟩
      · rintro (h | ⟨j, j1, j2, j3, j4, j5⟩)
        · exact Or.inl h
        · by_cases e : j = v
          · subst e
            rcases c1 with c1 | c1
            · exact absurd c1 j3
            · exact absurd j4 c1
          · exact Or.inr ⟨j, by omega, j2, j3, j4, j5⟩
    · have n1 : ¬ v = w := fun h9 => c1 (Or.inl h9)
      have n2 : us.testBit v = true := by
        by_cases h9 : us.testBit v = true
        · exact h9
        · exact absurd (Or.inr h9) c1
      have hpw : 2 ^ (6 * c + v) < 2 ^ 30 := Nat.pow_lt_pow_right (by decide) (by omega)
      have hb : x ||| 2 ^ (6 * c + v) < 2 ^ 30 := Nat.or_lt_two_pow (by omega) hpw
      obtain ⟨x', p1, p2, p3⟩ := ih (v + 1) n (x ||| 2 ^ (6 * c + v)) (by omega) (by omega) (by omega)
      refine ⟨x', p1, ?_, fun i => (p3 i).trans ⟨?_, ?_⟩⟩
      · rw [hd, if_neg (by omega), if_pos n2, if_neg (by decide)]
        exact p2
      · rintro (h | ⟨j, j1, j2, j3⟩)
        · rcases (tb_or _ _ _).mp h with h | h
          · exact Or.inl h
          · exact Or.inr ⟨v, by omega, by omega, n1, n2, h⟩
        · exact Or.inr ⟨j, by omega, j2, j3⟩
      · rintro (h | ⟨j, j1, j2, j3, j4, j5⟩)
        · exact Or.inl ((tb_or _ _ _).mpr (Or.inl h))
        · by_cases e : j = v
          · subst e; exact Or.inl ((tb_or _ _ _).mpr (Or.inr j5))
          · exact Or.inr ⟨j, by omega, j2, j3, j4, j5⟩
