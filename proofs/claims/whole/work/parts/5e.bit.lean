/-! mended: the bits of a number of candidates. Own text. -/
theorem cdk_lt {t : List Int} {j i : Nat} (h : (cdk t 30)[j]? = some i) : i < 30 ∧ mayb t i = true := by
  have := List.mem_of_getElem? h
  unfold cdk at this
  rw [List.mem_filter, List.mem_range] at this
  exact this
theorem bits_ok {t : List Int} {g : Gx} {q : Nat} (hq : q < 64) (hl : ∀ j, q.testBit j = true → j < (cdk t 30).length) (hc : CdP t 30 g) : ∃ x : Nat, x < 1073741824 ∧ Kn_bitsOf (q : Int) g = some ((x : Int), g) ∧ ∀ i, x.testBit i = true ↔ ∃ j, j < 6 ∧ q.testBit j = true ∧ (cdk t 30)[j]? = some i := by
  unfold Kn_bitsOf
  have lp : ∀ (k v n x : Nat), v + k = 6 → k < n → x < 1073741824 → ∃ x' : Nat, x' < 1073741824 ∧ Kn_bitsOf_l4 (q : Int) (fun x1 g2 => some (x1, g2)) n (x : Int) (v : Int) g = some ((x' : Int), g) ∧ ∀ i, x'.testBit i = true ↔ x.testBit i = true ∨ ∃ j, v ≤ j ∧ j < 6 ∧ q.testBit j = true ∧ (cdk t 30)[j]? = some i := by
    intro k
    induction k with
    | zero =>
      intro v n x hv hn hx
      obtain ⟨n, rfl⟩ : ∃ q, n = q + 1 := ⟨n - 1, by omega⟩
      refine ⟨x, hx, by rw [Kn_bitsOf_l4, if_pos (by omega)], fun i => ⟨Or.inl, ?_⟩⟩
      rintro (h | ⟨j, j1, j2, -⟩)
      · exact h
      · omega
    | succ k ih =>
      intro v n x hv hn hx
      obtain ⟨n, rfl⟩ : ∃ q, n = q + 1 := ⟨n - 1, by omega⟩
      rw [Kn_bitsOf_l4, if_neg (by omega), has_nn (by omega) (by omega), wr_id (show -2147483648 ≤ (v : Int) + 1 by omega) (by omega), show (v : Int) + 1 = ((v + 1 : Nat) : Int) by omega]
      by_cases c : q.testBit v = true
      · have hv2 := hl v c
        have ge := List.getElem?_eq_getElem hv2
        obtain ⟨y1, -⟩ := cdk_lt ge
        have gv := hc v _ (by omega) ge
        have hpw : 2 ^ (cdk t 30)[v] < 2 ^ 30 := Nat.pow_lt_pow_right (by decide) y1
        have hor : x ||| 2 ^ (cdk t 30)[v] < 2 ^ 30 := Nat.or_lt_two_pow (by omega) hpw
        rw [if_pos c, if_neg (show ¬ (1 : Int) = 0 by decide), rat_in (by omega) (by omega), Int.toNat_natCast, gv, jshl_one _ (by omega), jor_nn (by omega) (by omega)]
        obtain ⟨x', p1, p2, p3⟩ := ih (v + 1) n _ (by omega) (by omega) hor
        refine ⟨x', p1, p2, fun i => (p3 i).trans ⟨?_, ?_⟩⟩
        · rintro (h | ⟨j, j1, j2, j3⟩)
          · rcases (tb_or _ _ _).mp h with h | h
            · exact Or.inl h
            · exact Or.inr ⟨v, Nat.le_refl _, by omega, c, by rw [h]; exact ge⟩
          · exact Or.inr ⟨j, by omega, j2, j3⟩
        · rintro (h | ⟨j, j1, j2, j3, j4⟩)
          · exact Or.inl ((tb_or _ _ _).mpr (Or.inl h))
          · by_cases e : j = v
            · subst e
              rw [ge] at j4
              exact Or.inl ((tb_or _ _ _).mpr (Or.inr (Option.some.inj j4).symm))
            · exact Or.inr ⟨j, by omega, j2, j3, j4⟩
      · rw [if_neg c, if_pos rfl]
        obtain ⟨x', p1, p2, p3⟩ := ih (v + 1) n x (by omega) (by omega) hx
        refine ⟨x', p1, p2, fun i => (p3 i).trans ⟨?_, ?_⟩⟩
        · rintro (h | ⟨j, j1, j2, j3⟩)
          · exact Or.inl h
          · exact Or.inr ⟨j, by omega, j2, j3⟩
        · rintro (h | ⟨j, j1, j2, j3, j4⟩)
          · exact Or.inl h
          · by_cases e : j = v
            · subst e; exact absurd j3 c
            · exact Or.inr ⟨j, by omega, j2, j3, j4⟩
  obtain ⟨x, p1, p2, p3⟩ := lp 6 0 fu 0 (by omega) (fu_big _ (by decide)) (by decide)
  refine ⟨x, p1, p2, fun i => (p3 i).trans ⟨?_, ?_⟩⟩
  · rintro (h | ⟨j, j1, j2, j3⟩)
    · rw [Nat.zero_testBit] at h; exact absurd h (by decide)
    · exact ⟨j, j2, j3⟩
  · rintro ⟨j, j2, j3⟩
    exact Or.inr ⟨j, by omega, j2, j3⟩
