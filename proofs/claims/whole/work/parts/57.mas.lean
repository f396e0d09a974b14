/-! what may be told: the whole mask of the reference. Own text. -/
theorem may_one {g : Gx} {us z : Nat} {cs : List Nat} (hu : g 92 18 = (us : Int)) (hu2 : us < 64) (hz2 : z ≤ 160) (hA : CA g z cs) {a : Nat} (ha : a < z) (K : Int → Gx → Option (Int × Gx)) {x : Nat} (hx : x < 1073741824) : ∃ x' : Nat, x' < 1073741824 ∧ Md_mended_l36 (a : Int) K fu (x : Int) 0 g = K (x' : Int) g ∧ ∀ i, x'.testBit i = true ↔ x.testBit i = true ∨ ∃ c j : Nat, g 99 a = 1 ∧ g 102 a = (c : Int) ∧ c < 5 ∧ c < cs.length ∧ j < 6 ∧ j ≠ cs.getD c 0 ∧ us.testBit j = true ∧ i = 6 * c + j := by
  have ra : (0 : Int) ≤ (a : Int) ∧ (a : Int) < 170 := by omega
  have fb := fu_big 10 (by decide)
  obtain ⟨n, hn⟩ : ∃ q, fu = q + 1 := ⟨fu - 1, by omega⟩
  by_cases c1 : g 99 a = 1
  · obtain ⟨c, k1, k2, k3⟩ := hA.1 a ha c1
    by_cases c2 : c < 5
    · obtain ⟨x', p1, p2, p3⟩ := may_in hu hu2 (show a < 170 by omega) c1 k2 c2 k3 K 6 0 fu x (by omega) (by omega) hx
      refine ⟨x', p1, p2, fun i => (p3 i).trans ⟨?_, ?_⟩⟩
      · rintro (h | ⟨j, -, j2, j3, j4, j5⟩)
        · exact Or.inl h
        · exact Or.inr ⟨c, j, c1, k2, c2, k1, j2, j3, j4, j5⟩
      · rintro (h | ⟨c', j, q1, q2, q3, q4, q5, q6, q7, q8⟩)
        · exact Or.inl h
        · have e : c' = c := by rw [k2] at q2; omega
          subst e
          exact Or.inr ⟨j, by omega, q5, q6, q7, q8⟩
    · refine ⟨x, hx, ?_, fun i => ⟨Or.inl, ?_⟩⟩
      · rw [hn, Md_mended_l36, if_neg (by decide), if_pos ra, Int.toNat_natCast, if_neg (fun h9 => h9 c1), if_pos ra, k2, if_pos (by omega)]
      · rintro (h | ⟨c', j, q1, q2, q3, -⟩)
        · exact h
        · rw [k2] at q2; omega
  · refine ⟨x, hx, ?_, fun i => ⟨Or.inl, ?_⟩⟩
    · rw [hn, Md_mended_l36, if_neg (by decide), if_pos ra, Int.toNat_natCast, if_pos c1]
    · rintro (h | ⟨c', j, q1, -⟩)
      · exact h
      · exact absurd q1 c1
theorem may_all {g : Gx} {us z : Nat} {cs : List Nat} (hu : g 92 18 = (us : Int)) (hu2 : us < 64) (hz : g 92 9 = (z : Int)) (hz2 : z ≤ 160) (hA : CA g z cs) (K : Int → Gx → Option (Int × Gx)) : ∃ x' : Nat, x' < 1073741824 ∧ Md_mended_l26 K fu 0 0 g = K (x' : Int) g ∧ ∀ i, x'.testBit i = true ↔ (i / 6 < 5 ∧ i / 6 < cs.length ∧ i % 6 ≠ cs.getD (i / 6) 0 ∧ us.testBit (i % 6) = true) := by
  have lp : ∀ (k a n x : Nat), a + k = z → k < n → x < 1073741824 → ∃ x' : Nat, x' < 1073741824 ∧ Md_mended_l26 K n (x : Int) (a : Int) g = K (x' : Int) g ∧ ∀ i, x'.testBit i = true ↔ x.testBit i = true ∨ ∃ a', a ≤ a' ∧ a' < z ∧ ∃ c j : Nat, g 99 a' = 1 ∧ g 102 a' = (c : Int) ∧ c < 5 ∧ c < cs.length ∧ j < 6 ∧ j ≠ cs.getD c 0 ∧ us.testBit j = true ∧ i = 6 * c + j := by
    intro k
    induction k with
    | zero =>
      intro a n x ha hn hx
      obtain ⟨n, rfl⟩ : ∃ q, n = q + 1 := ⟨n - 1, by omega⟩
      refine ⟨x, hx, by rw [Md_mended_l26, hz, if_pos (by omega)], fun i => ⟨Or.inl, ?_⟩⟩
      rintro (h | ⟨a', j1, j2, -⟩)
      · exact h
      · omega
    | succ k ih =>
      intro a n x ha hn hx
      obtain ⟨n, rfl⟩ : ∃ q, n = q + 1 := ⟨n - 1, by omega⟩
      obtain ⟨x1, p1, p2, p3⟩ := may_one hu hu2 hz2 hA (a := a) (by omega) (fun x3 g4 => Md_mended_l26 K n x3 ((a + 1 : Nat) : Int) g4) hx
      obtain ⟨x2, q1, q2, q3⟩ := ih (a + 1) n x1 (by omega) (by omega) p1
      refine ⟨x2, q1, ?_, fun i => (q3 i).trans ⟨?_, ?_⟩⟩
      · rw [Md_mended_l26, hz, if_neg (by omega), wr_id (show -2147483648 ≤ (a : Int) + 1 by omega) (by omega), show (a : Int) + 1 = ((a + 1 : Nat) : Int) by omega, p2]
        exact q2
      · rintro (h | ⟨a', j1, j2, j3⟩)
        · rcases (p3 i).mp h with h | h
          · exact Or.inl h
          · exact Or.inr ⟨a, Nat.le_refl _, by omega, h⟩
        · exact Or.inr ⟨a', by omega, j2, j3⟩
      · rintro (h | ⟨a', j1, j2, j3⟩)
        · exact Or.inl ((p3 i).mpr (Or.inl h))
        · by_cases e : a' = a
          · subst e; exact Or.inl ((p3 i).mpr (Or.inr j3))
          · exact Or.inr ⟨a', by omega, j2, j3⟩
  obtain ⟨x, p1, p2, p3⟩ := lp z 0 fu 0 (by omega) (Nat.lt_of_le_of_lt hz2 (fu_big _ (by decide))) (by decide)
  refine ⟨x, p1, p2, fun i => (p3 i).trans ⟨?_, ?_⟩⟩
  · rintro (h | ⟨a, -, -, c, j, -, -, q3, q4, q5, q6, q7, q8⟩)
    · rw [Nat.zero_testBit] at h; exact absurd h (by decide)
    · have e1 : i / 6 = c := by omega
      have e2 : i % 6 = j := by omega
      rw [e1, e2]
      exact ⟨q3, q4, q6, q7⟩
  · rintro ⟨h1, h2, h3, h4⟩
    obtain ⟨a, a1, a2, a3, a4⟩ := hA.2 (i / 6) h2
    exact Or.inr ⟨a, by omega, a1, i / 6, i % 6, a2, a3, h1, h2, by omega, h3, h4, by omega⟩
theorem mayb_iff {t : List Int} {i : Nat} : mayb t i = true ↔ (i / 6 < 5 ∧ i / 6 < (pcs t).length ∧ i % 6 ≠ (pcs t).getD (i / 6) 0 ∧ (pus t).testBit (i % 6) = true) := by
  unfold mayb
  simp only [Bool.and_eq_true, decide_eq_true_eq, bne_iff_ne, and_assoc]
theorem pus_64 (t : List Int) : pus t < 64 := (prun_ok 400 s0 (ok_s0 t)).2.2.2.2.2.1
theorem pcs_6 (t : List Int) : ∀ x ∈ pcs t, x < 6 := (prun_ok 400 s0 (ok_s0 t)).2.2.2.2.1
