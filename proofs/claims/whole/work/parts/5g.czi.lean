/-! sub-masks by their place: the number of candidates is the place. Own text. -/
theorem cz_inj {k M s x : Nat} (hM : M < 2 ^ k) (hs : sbm s M) (hx : sbm x M) (hs2 : s ≤ M) (hx2 : x ≤ M) (h : cz k M s = cz k M x) : s = x := by
  rcases Nat.lt_trichotomy s x with h1 | h1 | h1
  · have := cz_mono k M s x hM hs hx hx2 h1; omega
  · exact h1
  · have := cz_mono k M x s hM hx hs hs2 h1; omega
theorem cdk_msk {t : List Int} {M : Nat} (hM : ∀ i, M.testBit i = true ↔ mayb t i = true) (k : Nat) : (List.range k).filter (fun i => M.testBit i) = cdk t k := by
  unfold cdk
  congr 1
  funext i
  have := hM i
  cases h1 : M.testBit i <;> cases h2 : mayb t i <;> simp_all
/-- what bits_ok finds for q lies at the place q -/
theorem bits_cz {t : List Int} {M q x : Nat} (hM : ∀ i, M.testBit i = true ↔ mayb t i = true) (hq : q < 64) (hl : ∀ j, q.testBit j = true → j < (cdk t 30).length) (hx : ∀ i, x.testBit i = true ↔ ∃ j, j < 6 ∧ q.testBit j = true ∧ (cdk t 30)[j]? = some i) : sbm x M ∧ cz 30 M x = q := by
  refine ⟨fun i hi => ?_, ?_⟩
  · obtain ⟨j, -, -, j3⟩ := (hx i).mp hi
    exact (hM i).mpr (cdk_lt j3).2
  · have nd : (cdk t 30).Nodup := List.Pairwise.filter _ List.nodup_range
    apply Nat.eq_of_testBit_eq
    intro j
    rw [Bool.eq_iff_iff, cz_bit, cdk_msk hM]
    constructor
    · rintro ⟨i, a, b⟩
      obtain ⟨j', j1, j2, j3⟩ := (hx i).mp b
      have e : j = j' := by
        have l1 := (List.getElem?_eq_some_iff.mp a).1
        exact (List.getElem?_inj l1 nd).mp (a.trans j3.symm)
      rw [e]; exact j2
    · intro h
      have l := hl j h
      have j6 : j < 6 := by
        by_cases h9 : j < 6
        · exact h9
        · have := Nat.testBit_lt_two_pow (show q < 2 ^ j from Nat.lt_of_lt_of_le hq (show 2 ^ 6 ≤ 2 ^ j from Nat.pow_le_pow_right (by decide) (by omega)))
          rw [this] at h; exact absurd h (by decide)
      exact ⟨_, List.getElem?_eq_getElem l, (hx _).mpr ⟨j, j6, h, List.getElem?_eq_getElem l⟩⟩
