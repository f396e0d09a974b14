/-! sub-masks by their place. Own text. -/
theorem cz_pc : ∀ (k M s : Nat), sbm s M → s < 2 ^ k → pcn k (cz k M s) = pcn k s
  | 0, M, s, _, _ => rfl
  | k + 1, M, s, hs, hl => by
    have hp : 2 ^ (k + 1) = 2 * 2 ^ k := by rw [Nat.pow_succ]; omega
    obtain ⟨s1, s2⟩ := sbm_half.mp hs
    have ih := cz_pc k (M / 2) (s / 2) s2 (by omega)
    have lt : cz k (M / 2) (s / 2) < 2 ^ k := Nat.lt_of_lt_of_le (cz_lt k _ _) (Nat.pow_le_pow_right (by decide) (by
      have := List.length_filter_le (fun i => (M / 2).testBit i) (List.range k)
      rw [List.length_range] at this
      exact this))
    rw [cz, pcn_half k s]
    by_cases q : M % 2 = 1
    · rw [if_pos q, pcn_half, show (2 * cz k (M / 2) (s / 2) + s % 2) / 2 = cz k (M / 2) (s / 2) by omega, ih]
      omega
    · have e : s % 2 = 0 := by
        rcases Nat.mod_two_eq_zero_or_one s with h9 | h9
        · exact h9
        · exact absurd (s1 h9) q
      rw [if_neg q, pcn_succ, ih, e, Nat.testBit_lt_two_pow lt]
      simp
theorem msk_half (k M : Nat) : (List.range (k + 1)).filter (fun i => M.testBit i) = (if M % 2 = 1 then [0] else []) ++ ((List.range k).filter (fun i => (M / 2).testBit i)).map (· + 1) := by
  rw [List.range_succ_eq_map, List.filter_cons, List.filter_map]
  have e : (fun i => M.testBit i) ∘ Nat.succ = fun i => (M / 2).testBit i := by
    funext i
    exact tbs M i
  rw [e]
  by_cases q : M % 2 = 1
  · simp [tb0, q]
  · simp [tb0, q]
theorem cz_bit : ∀ (k M s j : Nat), (cz k M s).testBit j = true ↔ ∃ i, ((List.range k).filter (fun i => M.testBit i))[j]? = some i ∧ s.testBit i = true
  | 0, M, s, j => by simp [cz]
  | k + 1, M, s, j => by
    have ih := cz_bit k (M / 2) (s / 2)
    rw [msk_half, cz]
    by_cases q : M % 2 = 1
    · rw [if_pos q, if_pos q]
      cases j with
      | zero =>
        rw [tb0, show (2 * cz k (M / 2) (s / 2) + s % 2) % 2 = s % 2 by omega]
        simp [tb0]
      | succ j =>
        rw [tbs, show (2 * cz k (M / 2) (s / 2) + s % 2) / 2 = cz k (M / 2) (s / 2) by omega, ih j]
        simp
        constructor
        · rintro ⟨i, a, b⟩
          exact ⟨i + 1, ⟨i, a, rfl⟩, by rw [tbs]; exact b⟩
        · rintro ⟨i, ⟨a, b, rfl⟩, c⟩
          rw [tbs] at c
          exact ⟨a, b, c⟩
    · rw [if_neg q, if_neg q, ih j]
      simp
      constructor
      · rintro ⟨i, a, b⟩
        exact ⟨i + 1, ⟨i, a, rfl⟩, by rw [tbs]; exact b⟩
      · rintro ⟨i, ⟨a, b, rfl⟩, c⟩
        rw [tbs] at c
        exact ⟨a, b, c⟩
