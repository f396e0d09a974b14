/-! mended: the candidates. Own text. -/
def cdk (t : List Int) (k : Nat) : List Nat := (List.range k).filter (mayb t)
theorem cdk_succ (t : List Int) (k : Nat) : cdk t (k + 1) = cdk t k ++ if mayb t k = true then [k] else [] := by
  unfold cdk
  rw [List.range_succ, List.filter_append]
  congr 1
  by_cases h : mayb t k = true
  · simp [h]
  · simp [h]
theorem cdk_le (t : List Int) (k : Nat) : (cdk t k).length ≤ k := by
  have := List.length_filter_le (mayb t) (List.range k)
  rw [List.length_range] at this
  exact this
def CdP (t : List Int) (k : Nat) (G : Gx) : Prop := ∀ i x : Nat, i < 6 → (cdk t k)[i]? = some x → G 59 i = (x : Int)
theorem fc_in {t : List Int} {c m : Nat} (hm : m < 64) (hb : ∀ x, x < 6 → m.testBit x = mayb t (6 * c + x)) (hc : c < 5) (c1 c3 : Int) (K : Int → Gx → Option (Int × Gx)) : ∀ (k v n : Nat) (G : Gx), v + k = 6 → k < n → CdP t (6 * c + v) G → ∃ G', Kn_findCandidates_l44 c1 c3 (c : Int) (m : Int) K n ((cdk t (6 * c + v)).length : Int) (v : Int) G = K ((cdk t (6 * c + 6)).length : Int) G' ∧ CdP t (6 * c + 6) G' ∧ FR [59] G G' := by
  intro k
  induction k with
  | zero =>
    intro v n G hv hn h
    obtain ⟨n, rfl⟩ : ∃ q, n = q + 1 := ⟨n - 1, by omega⟩
    obtain rfl : v = 6 := by omega
    exact ⟨G, by rw [Kn_findCandidates_l44, if_pos (by omega)], h, FR.rf _ _⟩
  | succ k ih =>
    intro v n G hv hn h
    obtain ⟨n, rfl⟩ : ∃ q, n = q + 1 := ⟨n - 1, by omega⟩
    have le := cdk_le t (6 * c + v)
    have sc := cdk_succ t (6 * c + v)
    rw [Kn_findCandidates_l44, if_neg (by omega), has_nn (by omega) (by omega), hb v (by omega), wr_id (show -2147483648 ≤ (v : Int) + 1 by omega) (by omega), show (v : Int) + 1 = ((v + 1 : Nat) : Int) by omega]
    by_cases q : mayb t (6 * c + v) = true
    · rw [if_pos q] at sc
      rw [if_pos q, if_neg (show ¬ (1 : Int) = 0 by decide), wr_id (show -2147483648 ≤ ((cdk t (6 * c + v)).length : Int) + 1 by omega) (by omega), wr_id (show -2147483648 ≤ (c : Int) * 6 by omega) (by omega), wr_id (show -2147483648 ≤ (c : Int) * 6 + (v : Int) by omega) (by omega), show (c : Int) * 6 + (v : Int) = ((6 * c + v : Nat) : Int) by omega]
      have e : ((cdk t (6 * c + v)).length : Int) + 1 = ((cdk t (6 * c + (v + 1))).length : Int) := by
        rw [show 6 * c + (v + 1) = 6 * c + v + 1 by omega, sc, List.length_append]; simp
      rw [e]
      have hcd : CdP t (6 * c + (v + 1)) (rset G 59 6 ((cdk t (6 * c + v)).length : Int) ((6 * c + v : Nat) : Int)) := by
        intro i x hi hx
        rw [show 6 * c + (v + 1) = 6 * c + v + 1 by omega, sc] at hx
        unfold rset
        rw [if_pos rfl]
        by_cases q2 : i < (cdk t (6 * c + v)).length
        · rw [List.getElem?_append_left q2] at hx
          rw [if_neg (by omega)]
          exact h i x hi hx
        · rw [List.getElem?_append_right (by omega)] at hx
          have : i = (cdk t (6 * c + v)).length := by
            have := (List.getElem?_eq_some_iff.mp hx).1
            simp at this
            omega
          rw [this, Nat.sub_self] at hx
          simp at hx
          rw [if_pos ⟨by omega, by omega⟩, ← hx]
      obtain ⟨G', p1, p2, p3⟩ := ih (v + 1) n _ (by omega) (by omega) hcd
      refine ⟨G', p1, p2, FR.tr ?_ p3⟩
      by_cases q3 : (cdk t (6 * c + v)).length < 6
      · rw [rset_in (by omega)]
        exact FR.gs (FR.rf _ _) (by decide)
      · rw [rset_no (by omega)]
        exact FR.rf _ _
    · rw [if_neg q, List.append_nil] at sc
      rw [if_neg q, if_pos rfl]
      have := ih (v + 1) n G (by omega) (by omega)
      rw [show 6 * c + (v + 1) = 6 * c + v + 1 by omega, sc] at this
      exact this (by intro i x hi hx; rw [sc] at hx; exact h i x hi hx)
