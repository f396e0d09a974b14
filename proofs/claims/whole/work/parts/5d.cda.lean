/-! mended: all candidates. Own text. -/
theorem ush : ∀ us : Nat, us < 64 → ∀ c : Nat, c < 5 → jshl (us : Int) ((c : Int) * 6) = ((us * 2 ^ (6 * c) : Nat) : Int) ∧ us * 2 ^ (6 * c) < 1073741824 ∧ ∀ x, x < 6 → (us * 2 ^ (6 * c)).testBit (6 * c + x) = us.testBit x := by decide +kernel
theorem cdk_all (t : List Int) : ∀ j k, k = min 5 (pcs t).length → cdk t (6 * k + j) = cdk t (6 * k) := by
  intro j k hk
  induction j with
  | zero => rfl
  | succ j ih =>
    rw [show 6 * k + (j + 1) = 6 * k + j + 1 by omega, cdk_succ, ih, if_neg (fun h9 => ?_), List.append_nil]
    have := mayb_iff.mp h9
    omega
theorem fc_ok {t : List Int} {g : Gx} (h1 : g 7 11 = ((pcs t).length : Int)) (h2 : ∀ i, i < (pcs t).length → g 13 i = (((pcs t).getD i 0 : Nat) : Int)) : ∃ G', Kn_findCandidates (pus t : Int) g = some ((mcnt t : Int), G') ∧ CdP t 30 G' ∧ FR [59] g G' := by
  have u64 := pus_64 t
  obtain ⟨N, hN⟩ : ∃ N, N = min 5 (pcs t).length := ⟨_, rfl⟩
  have hi : imin 5 (St_choices g) = (N : Int) := by
    unfold St_choices
    rw [h1]
    unfold imin
    split <;> omega
  unfold Kn_findCandidates
  rw [hi]
  have lp : ∀ (k c n : Nat) (G : Gx), c + k = N → k < n → FR [59] g G → CdP t (6 * c) G → ∃ G', Kn_findCandidates_l17 (pus t : Int) (N : Int) (fun x3 g4 => some (x3, g4)) n ((cdk t (6 * c)).length : Int) (c : Int) G = some (((cdk t (6 * N)).length : Int), G') ∧ CdP t (6 * N) G' ∧ FR [59] g G' := by
    intro k
    induction k with
    | zero =>
      intro c n G hc hn f h
      obtain ⟨n, rfl⟩ : ∃ q, n = q + 1 := ⟨n - 1, by omega⟩
      obtain rfl : c = N := by omega
      exact ⟨G, by rw [Kn_findCandidates_l17, if_pos (by omega)], h, f⟩
    | succ k ih =>
      intro c n G hc hn f h
      obtain ⟨n, rfl⟩ : ∃ q, n = q + 1 := ⟨n - 1, by omega⟩
      have hcl : c < (pcs t).length := by omega
      obtain ⟨s1, s2, s3⟩ := ush (pus t) u64 c (by omega)
      have h6 : (pcs t).getD c 0 < 6 := by
        rw [List.getD_eq_getElem?_getD, List.getElem?_eq_getElem hcl]
        exact pcs_6 t _ (List.getElem_mem hcl)
      obtain ⟨m, m1, m2, m3⟩ := told_ok (g := G) (c := c) (u := ((pus t * 2 ^ (6 * c) : Nat) : Int)) (by omega) h6 (by rw [f.cell (q := 13) (by decide) (by decide)]; exact h2 c hcl) (by omega)
      have hb : ∀ x, x < 6 → m.testBit x = mayb t (6 * c + x) := fun x hx => by
        rw [m3 x hx]
        unfold isTold mayb
        rw [Int.toNat_natCast, s3 x hx, show (6 * c + x) / 6 = c by omega, show (6 * c + x) % 6 = x by omega]
        simp [hcl]
      obtain ⟨G1, p1, p2, p3⟩ := fc_in m1 hb (show c < 5 by omega) (pus t : Int) (N : Int) (fun x1 g2 => Kn_findCandidates_l17 (pus t : Int) (N : Int) (fun x3 g4 => some (x3, g4)) n x1 ((c + 1 : Nat) : Int) g2) 6 0 fu G (by omega) (fu_big _ (by decide)) h
      rw [Kn_findCandidates_l17, if_neg (by omega), wr_id (show -2147483648 ≤ (c : Int) * 6 by omega) (by omega), wr_id (show -2147483648 ≤ (c : Int) + 1 by omega) (by omega), s1, m2, show (c : Int) + 1 = ((c + 1 : Nat) : Int) by omega]
      rw [show ((0 : Nat) : Int) = 0 from rfl, show 6 * c + 0 = 6 * c from rfl] at p1
      rw [p1]
      exact ih (c + 1) n G1 (by omega) (by omega) (f.tr p3) p2
  obtain ⟨G', p1, p2, p3⟩ := lp N 0 fu g (by omega) (Nat.lt_of_le_of_lt (show N ≤ 5 by omega) (fu_big _ (by decide))) (FR.rf _ _) (fun i x _ hx => by simp [cdk] at hx)
  have e : cdk t 30 = cdk t (6 * N) := by
    have := cdk_all t (30 - 6 * N) N hN
    rw [show 6 * N + (30 - 6 * N) = 30 by omega] at this
    exact this
  refine ⟨G', ?_, by unfold CdP; rw [e]; exact p2, p3⟩
  rw [show (mcnt t : Int) = ((cdk t 30).length : Int) from rfl, e]
  exact p1
