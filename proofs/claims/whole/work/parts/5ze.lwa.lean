/-! The law: one call. Printed by wip/gen/gen_law.py. -/
theorem lw_w {i N : Nat} (hN : N ≤ 3072) (hi : 6 * i + 5 < N) (j : Nat) (hj : j ≤ 6) : wr (((6 * i : Nat) : Int) + (j : Int)) = ((6 * i + j : Nat) : Int) := by
  rw [wr_id (by omega) (by omega)]; omega
theorem lw_c {i N : Nat} {g : Gx} (hg : g 1001 0 = (N : Int)) (hi : 6 * i + 5 < N) (j : Nat) (hj : j ≤ 5) : (1000 : Nat) = 1000 ∧ 0 ≤ ((6 * i + j : Nat) : Int) ∧ ((6 * i + j : Nat) : Int) < g 1001 0 := ⟨rfl, by omega, by omega⟩
theorem lw_type {K : Gx → Option (Int × Gx)} {n i N : Nat} {g g1 g2 : Gx} {r : Int} (hN : N ≤ 3072) (hg : g 1001 0 = (N : Int)) (hi : 6 * i + 5 < N) (hc : jand (g 1000 (6 * i)) 63 = 0) (e1 : Op_type (g 1000 (6 * i + 1)) (g 1000 (6 * i + 2)) g = (r, g1)) (s0 : g1 1000 = g 1000) (s1 : g1 1001 = g 1001) (e2 : Md_type (g 1000 (6 * i + 1)) (g 1000 (6 * i + 2)) g1 = some (r, g2)) : Law_law_l18 K (n + 1) ((6 * i : Nat) : Int) g = Law_law_l18 K n ((6 * (i + 1) : Nat) : Int) g2 := by
  have hg1 : g1 1001 0 = (N : Int) := by rw [s1]; exact hg
  have w6 : wr (((6 * i : Nat) : Int) + 6) = ((6 * (i + 1) : Nat) : Int) := by rw [wr_id (by omega) (by omega)]; omega
  have w1 : wr (((6 * i : Nat) : Int) + 1) = ((6 * i + 1 : Nat) : Int) := lw_w hN hi 1 (by decide)
  have w2 : wr (((6 * i : Nat) : Int) + 2) = ((6 * i + 2 : Nat) : Int) := lw_w hN hi 2 (by decide)
  rw [Law_law_l18, hg, wr_id (x := (N : Int) - 6) (by omega) (by omega), if_neg (show ¬ (N : Int) - 6 < ((6 * i : Nat) : Int) by omega), if_pos (show (1000 : Nat) = 1000 ∧ 0 ≤ ((6 * i : Nat) : Int) ∧ ((6 * i : Nat) : Int) < (N : Int) from ⟨rfl, by omega, by omega⟩), Int.toNat_natCast, hc, if_neg (show ¬ ((0 : Int) < 0 ∨ 32 < (0 : Int)) by decide), if_pos (show (0 : Int) = 0 from rfl)]
  simp only [w6, w1, w2, Int.toNat_natCast]
  rw [if_pos (show True ∧ 0 ≤ ((6 * i + 1 : Nat) : Int) ∧ ((6 * i + 1 : Nat) : Int) < (N : Int) from ⟨trivial, by omega, by omega⟩)]
  rw [if_pos (show True ∧ 0 ≤ ((6 * i + 2 : Nat) : Int) ∧ ((6 * i + 2 : Nat) : Int) < (N : Int) from ⟨trivial, by omega, by omega⟩)]
  rw [lett_eq, e1]
  simp only [s0, hg1]
  rw [if_pos (show True ∧ 0 ≤ ((6 * i + 1 : Nat) : Int) ∧ ((6 * i + 1 : Nat) : Int) < (N : Int) from ⟨trivial, by omega, by omega⟩)]
  rw [if_pos (show True ∧ 0 ≤ ((6 * i + 2 : Nat) : Int) ∧ ((6 * i + 2 : Nat) : Int) < (N : Int) from ⟨trivial, by omega, by omega⟩)]
  rw [e2, ob_eq]
  simp only [if_true]
theorem lw_wipe {K : Gx → Option (Int × Gx)} {n i N : Nat} {g g1 g2 : Gx} {r : Int} (hN : N ≤ 3072) (hg : g 1001 0 = (N : Int)) (hi : 6 * i + 5 < N) (hc : jand (g 1000 (6 * i)) 63 = 1) (e1 : Op_wipe (g 1000 (6 * i + 1)) g = (r, g1)) (s0 : g1 1000 = g 1000) (s1 : g1 1001 = g 1001) (e2 : Md_wipe (g 1000 (6 * i + 1)) g1 = some (r, g2)) : Law_law_l18 K (n + 1) ((6 * i : Nat) : Int) g = Law_law_l18 K n ((6 * (i + 1) : Nat) : Int) g2 := by
  have hg1 : g1 1001 0 = (N : Int) := by rw [s1]; exact hg
  have w6 : wr (((6 * i : Nat) : Int) + 6) = ((6 * (i + 1) : Nat) : Int) := by rw [wr_id (by omega) (by omega)]; omega
  have w1 : wr (((6 * i : Nat) : Int) + 1) = ((6 * i + 1 : Nat) : Int) := lw_w hN hi 1 (by decide)
  rw [Law_law_l18, hg, wr_id (x := (N : Int) - 6) (by omega) (by omega), if_neg (show ¬ (N : Int) - 6 < ((6 * i : Nat) : Int) by omega), if_pos (show (1000 : Nat) = 1000 ∧ 0 ≤ ((6 * i : Nat) : Int) ∧ ((6 * i : Nat) : Int) < (N : Int) from ⟨rfl, by omega, by omega⟩), Int.toNat_natCast, hc, if_neg (show ¬ ((1 : Int) < 0 ∨ 32 < (1 : Int)) by decide), if_neg (show ¬ (1 : Int) = 0 by decide), if_pos (show (1 : Int) = 1 from rfl)]
  simp only [w6, w1, Int.toNat_natCast]
  rw [if_pos (show True ∧ 0 ≤ ((6 * i + 1 : Nat) : Int) ∧ ((6 * i + 1 : Nat) : Int) < (N : Int) from ⟨trivial, by omega, by omega⟩)]
  rw [lett_eq, e1]
  simp only [s0, hg1]
  rw [if_pos (show True ∧ 0 ≤ ((6 * i + 1 : Nat) : Int) ∧ ((6 * i + 1 : Nat) : Int) < (N : Int) from ⟨trivial, by omega, by omega⟩)]
  rw [e2, ob_eq]
  simp only [if_true]
theorem lw_fault {K : Gx → Option (Int × Gx)} {n i N : Nat} {g g1 g2 : Gx} {r : Int} (hN : N ≤ 3072) (hg : g 1001 0 = (N : Int)) (hi : 6 * i + 5 < N) (hc : jand (g 1000 (6 * i)) 63 = 2) (e1 : Op_fault (g 1000 (6 * i + 1)) g = some (r, g1)) (s0 : g1 1000 = g 1000) (s1 : g1 1001 = g 1001) (e2 : Md_fault (g 1000 (6 * i + 1)) g1 = some (r, g2)) : Law_law_l18 K (n + 1) ((6 * i : Nat) : Int) g = Law_law_l18 K n ((6 * (i + 1) : Nat) : Int) g2 := by
  have hg1 : g1 1001 0 = (N : Int) := by rw [s1]; exact hg
  have w6 : wr (((6 * i : Nat) : Int) + 6) = ((6 * (i + 1) : Nat) : Int) := by rw [wr_id (by omega) (by omega)]; omega
  have w1 : wr (((6 * i : Nat) : Int) + 1) = ((6 * i + 1 : Nat) : Int) := lw_w hN hi 1 (by decide)
  rw [Law_law_l18, hg, wr_id (x := (N : Int) - 6) (by omega) (by omega), if_neg (show ¬ (N : Int) - 6 < ((6 * i : Nat) : Int) by omega), if_pos (show (1000 : Nat) = 1000 ∧ 0 ≤ ((6 * i : Nat) : Int) ∧ ((6 * i : Nat) : Int) < (N : Int) from ⟨rfl, by omega, by omega⟩), Int.toNat_natCast, hc, if_neg (show ¬ ((2 : Int) < 0 ∨ 32 < (2 : Int)) by decide), if_neg (show ¬ (2 : Int) = 0 by decide), if_neg (show ¬ (2 : Int) = 1 by decide), if_pos (show (2 : Int) = 2 from rfl)]
  simp only [w6, w1, Int.toNat_natCast]
  rw [if_pos (show True ∧ 0 ≤ ((6 * i + 1 : Nat) : Int) ∧ ((6 * i + 1 : Nat) : Int) < (N : Int) from ⟨trivial, by omega, by omega⟩)]
  rw [e1, ob_eq]
  simp only [s0, hg1]
  rw [if_pos (show True ∧ 0 ≤ ((6 * i + 1 : Nat) : Int) ∧ ((6 * i + 1 : Nat) : Int) < (N : Int) from ⟨trivial, by omega, by omega⟩)]
  rw [e2, ob_eq]
  simp only [if_true]
theorem lw_plan {K : Gx → Option (Int × Gx)} {n i N : Nat} {g g1 g2 : Gx} {r : Int} (hN : N ≤ 3072) (hg : g 1001 0 = (N : Int)) (hi : 6 * i + 5 < N) (hc : jand (g 1000 (6 * i)) 63 = 3) (e1 : Op_plan (g 1000 (6 * i + 1)) g = some (r, g1)) (s0 : g1 1000 = g 1000) (s1 : g1 1001 = g 1001) (e2 : Md_plan (g 1000 (6 * i + 1)) g1 = some (r, g2)) : Law_law_l18 K (n + 1) ((6 * i : Nat) : Int) g = Law_law_l18 K n ((6 * (i + 1) : Nat) : Int) g2 := by
  have hg1 : g1 1001 0 = (N : Int) := by rw [s1]; exact hg
  have w6 : wr (((6 * i : Nat) : Int) + 6) = ((6 * (i + 1) : Nat) : Int) := by rw [wr_id (by omega) (by omega)]; omega
  have w1 : wr (((6 * i : Nat) : Int) + 1) = ((6 * i + 1 : Nat) : Int) := lw_w hN hi 1 (by decide)
  rw [Law_law_l18, hg, wr_id (x := (N : Int) - 6) (by omega) (by omega), if_neg (show ¬ (N : Int) - 6 < ((6 * i : Nat) : Int) by omega), if_pos (show (1000 : Nat) = 1000 ∧ 0 ≤ ((6 * i : Nat) : Int) ∧ ((6 * i : Nat) : Int) < (N : Int) from ⟨rfl, by omega, by omega⟩), Int.toNat_natCast, hc, if_neg (show ¬ ((3 : Int) < 0 ∨ 32 < (3 : Int)) by decide), if_neg (show ¬ (3 : Int) = 0 by decide), if_neg (show ¬ (3 : Int) = 1 by decide), if_neg (show ¬ (3 : Int) = 2 by decide), if_pos (show (3 : Int) = 3 from rfl)]
  simp only [w6, w1, Int.toNat_natCast]
  rw [if_pos (show True ∧ 0 ≤ ((6 * i + 1 : Nat) : Int) ∧ ((6 * i + 1 : Nat) : Int) < (N : Int) from ⟨trivial, by omega, by omega⟩)]
  rw [e1, ob_eq]
  simp only [s0, hg1]
  rw [if_pos (show True ∧ 0 ≤ ((6 * i + 1 : Nat) : Int) ∧ ((6 * i + 1 : Nat) : Int) < (N : Int) from ⟨trivial, by omega, by omega⟩)]
  rw [e2, ob_eq]
  simp only [if_true]
theorem lw_tell {K : Gx → Option (Int × Gx)} {n i N : Nat} {g g1 g2 : Gx} {r : Int} (hN : N ≤ 3072) (hg : g 1001 0 = (N : Int)) (hi : 6 * i + 5 < N) (hc : jand (g 1000 (6 * i)) 63 = 4) (e1 : Op_tell (g 1000 (6 * i + 1)) g = (r, g1)) (s0 : g1 1000 = g 1000) (s1 : g1 1001 = g 1001) (e2 : Md_tell (g 1000 (6 * i + 1)) g1 = (r, g2)) : Law_law_l18 K (n + 1) ((6 * i : Nat) : Int) g = Law_law_l18 K n ((6 * (i + 1) : Nat) : Int) g2 := by
  have hg1 : g1 1001 0 = (N : Int) := by rw [s1]; exact hg
  have w6 : wr (((6 * i : Nat) : Int) + 6) = ((6 * (i + 1) : Nat) : Int) := by rw [wr_id (by omega) (by omega)]; omega
  have w1 : wr (((6 * i : Nat) : Int) + 1) = ((6 * i + 1 : Nat) : Int) := lw_w hN hi 1 (by decide)
  rw [Law_law_l18, hg, wr_id (x := (N : Int) - 6) (by omega) (by omega), if_neg (show ¬ (N : Int) - 6 < ((6 * i : Nat) : Int) by omega), if_pos (show (1000 : Nat) = 1000 ∧ 0 ≤ ((6 * i : Nat) : Int) ∧ ((6 * i : Nat) : Int) < (N : Int) from ⟨rfl, by omega, by omega⟩), Int.toNat_natCast, hc, if_neg (show ¬ ((4 : Int) < 0 ∨ 32 < (4 : Int)) by decide), if_neg (show ¬ (4 : Int) = 0 by decide), if_neg (show ¬ (4 : Int) = 1 by decide), if_neg (show ¬ (4 : Int) = 2 by decide), if_neg (show ¬ (4 : Int) = 3 by decide), if_pos (show (4 : Int) = 4 from rfl)]
  simp only [w6, w1, Int.toNat_natCast]
  rw [if_pos (show True ∧ 0 ≤ ((6 * i + 1 : Nat) : Int) ∧ ((6 * i + 1 : Nat) : Int) < (N : Int) from ⟨trivial, by omega, by omega⟩)]
  rw [lett_eq, e1]
  simp only [s0, hg1]
  rw [if_pos (show True ∧ 0 ≤ ((6 * i + 1 : Nat) : Int) ∧ ((6 * i + 1 : Nat) : Int) < (N : Int) from ⟨trivial, by omega, by omega⟩)]
  rw [lett_eq, e2]
  simp only [if_true]
theorem lw_histories {K : Gx → Option (Int × Gx)} {n i N : Nat} {g g1 g2 : Gx} {r : Int} (hN : N ≤ 3072) (hg : g 1001 0 = (N : Int)) (hi : 6 * i + 5 < N) (hc : jand (g 1000 (6 * i)) 63 = 5) (e1 : Op_histories g = some (r, g1)) (s0 : g1 1000 = g 1000) (s1 : g1 1001 = g 1001) (e2 : Md_histories g1 = some (r, g2)) : Law_law_l18 K (n + 1) ((6 * i : Nat) : Int) g = Law_law_l18 K n ((6 * (i + 1) : Nat) : Int) g2 := by
  have hg1 : g1 1001 0 = (N : Int) := by rw [s1]; exact hg
  have w6 : wr (((6 * i : Nat) : Int) + 6) = ((6 * (i + 1) : Nat) : Int) := by rw [wr_id (by omega) (by omega)]; omega
  rw [Law_law_l18, hg, wr_id (x := (N : Int) - 6) (by omega) (by omega), if_neg (show ¬ (N : Int) - 6 < ((6 * i : Nat) : Int) by omega), if_pos (show (1000 : Nat) = 1000 ∧ 0 ≤ ((6 * i : Nat) : Int) ∧ ((6 * i : Nat) : Int) < (N : Int) from ⟨rfl, by omega, by omega⟩), Int.toNat_natCast, hc, if_neg (show ¬ ((5 : Int) < 0 ∨ 32 < (5 : Int)) by decide), if_neg (show ¬ (5 : Int) = 0 by decide), if_neg (show ¬ (5 : Int) = 1 by decide), if_neg (show ¬ (5 : Int) = 2 by decide), if_neg (show ¬ (5 : Int) = 3 by decide), if_neg (show ¬ (5 : Int) = 4 by decide), if_pos (show (5 : Int) = 5 from rfl)]
  simp only [w6, Int.toNat_natCast]
  rw [e1, ob_eq]
  simp only [s0, hg1]
  rw [e2, ob_eq]
  simp only [if_true]
theorem lw_said {K : Gx → Option (Int × Gx)} {n i N : Nat} {g g1 g2 : Gx} {r : Int} (hN : N ≤ 3072) (hg : g 1001 0 = (N : Int)) (hi : 6 * i + 5 < N) (hc : jand (g 1000 (6 * i)) 63 = 6) (e1 : Op_said (g 1000 (6 * i + 1)) (g 1000 (6 * i + 2)) g = some (r, g1)) (s0 : g1 1000 = g 1000) (s1 : g1 1001 = g 1001) (e2 : Md_said (g 1000 (6 * i + 1)) (g 1000 (6 * i + 2)) g1 = some (r, g2)) : Law_law_l18 K (n + 1) ((6 * i : Nat) : Int) g = Law_law_l18 K n ((6 * (i + 1) : Nat) : Int) g2 := by
  have hg1 : g1 1001 0 = (N : Int) := by rw [s1]; exact hg
  have w6 : wr (((6 * i : Nat) : Int) + 6) = ((6 * (i + 1) : Nat) : Int) := by rw [wr_id (by omega) (by omega)]; omega
  have w1 : wr (((6 * i : Nat) : Int) + 1) = ((6 * i + 1 : Nat) : Int) := lw_w hN hi 1 (by decide)
  have w2 : wr (((6 * i : Nat) : Int) + 2) = ((6 * i + 2 : Nat) : Int) := lw_w hN hi 2 (by decide)
  rw [Law_law_l18, hg, wr_id (x := (N : Int) - 6) (by omega) (by omega), if_neg (show ¬ (N : Int) - 6 < ((6 * i : Nat) : Int) by omega), if_pos (show (1000 : Nat) = 1000 ∧ 0 ≤ ((6 * i : Nat) : Int) ∧ ((6 * i : Nat) : Int) < (N : Int) from ⟨rfl, by omega, by omega⟩), Int.toNat_natCast, hc, if_neg (show ¬ ((6 : Int) < 0 ∨ 32 < (6 : Int)) by decide), if_neg (show ¬ (6 : Int) = 0 by decide), if_neg (show ¬ (6 : Int) = 1 by decide), if_neg (show ¬ (6 : Int) = 2 by decide), if_neg (show ¬ (6 : Int) = 3 by decide), if_neg (show ¬ (6 : Int) = 4 by decide), if_neg (show ¬ (6 : Int) = 5 by decide), if_pos (show (6 : Int) = 6 from rfl)]
  simp only [w6, w1, w2, Int.toNat_natCast]
  rw [if_pos (show True ∧ 0 ≤ ((6 * i + 1 : Nat) : Int) ∧ ((6 * i + 1 : Nat) : Int) < (N : Int) from ⟨trivial, by omega, by omega⟩)]
  rw [if_pos (show True ∧ 0 ≤ ((6 * i + 2 : Nat) : Int) ∧ ((6 * i + 2 : Nat) : Int) < (N : Int) from ⟨trivial, by omega, by omega⟩)]
  rw [e1, ob_eq]
  simp only [s0, hg1]
  rw [if_pos (show True ∧ 0 ≤ ((6 * i + 1 : Nat) : Int) ∧ ((6 * i + 1 : Nat) : Int) < (N : Int) from ⟨trivial, by omega, by omega⟩)]
  rw [if_pos (show True ∧ 0 ≤ ((6 * i + 2 : Nat) : Int) ∧ ((6 * i + 2 : Nat) : Int) < (N : Int) from ⟨trivial, by omega, by omega⟩)]
  rw [e2, ob_eq]
  simp only [if_true]
theorem lw_look {K : Gx → Option (Int × Gx)} {n i N : Nat} {g g1 g2 : Gx} {r : Int} (hN : N ≤ 3072) (hg : g 1001 0 = (N : Int)) (hi : 6 * i + 5 < N) (hc : jand (g 1000 (6 * i)) 63 = 7) (e1 : Op_look (g 1000 (6 * i + 1)) (g 1000 (6 * i + 2)) (g 1000 (6 * i + 3)) g = some (r, g1)) (s0 : g1 1000 = g 1000) (s1 : g1 1001 = g 1001) (e2 : Md_look (g 1000 (6 * i + 1)) (g 1000 (6 * i + 2)) (g 1000 (6 * i + 3)) g1 = some (r, g2)) : Law_law_l18 K (n + 1) ((6 * i : Nat) : Int) g = Law_law_l18 K n ((6 * (i + 1) : Nat) : Int) g2 := by
  have hg1 : g1 1001 0 = (N : Int) := by rw [s1]; exact hg
  have w6 : wr (((6 * i : Nat) : Int) + 6) = ((6 * (i + 1) : Nat) : Int) := by rw [wr_id (by omega) (by omega)]; omega
  have w1 : wr (((6 * i : Nat) : Int) + 1) = ((6 * i + 1 : Nat) : Int) := lw_w hN hi 1 (by decide)
  have w2 : wr (((6 * i : Nat) : Int) + 2) = ((6 * i + 2 : Nat) : Int) := lw_w hN hi 2 (by decide)
  have w3 : wr (((6 * i : Nat) : Int) + 3) = ((6 * i + 3 : Nat) : Int) := lw_w hN hi 3 (by decide)
  rw [Law_law_l18, hg, wr_id (x := (N : Int) - 6) (by omega) (by omega), if_neg (show ¬ (N : Int) - 6 < ((6 * i : Nat) : Int) by omega), if_pos (show (1000 : Nat) = 1000 ∧ 0 ≤ ((6 * i : Nat) : Int) ∧ ((6 * i : Nat) : Int) < (N : Int) from ⟨rfl, by omega, by omega⟩), Int.toNat_natCast, hc, if_neg (show ¬ ((7 : Int) < 0 ∨ 32 < (7 : Int)) by decide), if_neg (show ¬ (7 : Int) = 0 by decide), if_neg (show ¬ (7 : Int) = 1 by decide), if_neg (show ¬ (7 : Int) = 2 by decide), if_neg (show ¬ (7 : Int) = 3 by decide), if_neg (show ¬ (7 : Int) = 4 by decide), if_neg (show ¬ (7 : Int) = 5 by decide), if_neg (show ¬ (7 : Int) = 6 by decide), if_pos (show (7 : Int) = 7 from rfl)]
  simp only [w6, w1, w2, w3, Int.toNat_natCast]
  rw [if_pos (show True ∧ 0 ≤ ((6 * i + 1 : Nat) : Int) ∧ ((6 * i + 1 : Nat) : Int) < (N : Int) from ⟨trivial, by omega, by omega⟩)]
  rw [if_pos (show True ∧ 0 ≤ ((6 * i + 2 : Nat) : Int) ∧ ((6 * i + 2 : Nat) : Int) < (N : Int) from ⟨trivial, by omega, by omega⟩)]
  rw [if_pos (show True ∧ 0 ≤ ((6 * i + 3 : Nat) : Int) ∧ ((6 * i + 3 : Nat) : Int) < (N : Int) from ⟨trivial, by omega, by omega⟩)]
  rw [e1, ob_eq]
  simp only [s0, hg1]
  rw [if_pos (show True ∧ 0 ≤ ((6 * i + 1 : Nat) : Int) ∧ ((6 * i + 1 : Nat) : Int) < (N : Int) from ⟨trivial, by omega, by omega⟩)]
  rw [if_pos (show True ∧ 0 ≤ ((6 * i + 2 : Nat) : Int) ∧ ((6 * i + 2 : Nat) : Int) < (N : Int) from ⟨trivial, by omega, by omega⟩)]
  rw [if_pos (show True ∧ 0 ≤ ((6 * i + 3 : Nat) : Int) ∧ ((6 * i + 3 : Nat) : Int) < (N : Int) from ⟨trivial, by omega, by omega⟩)]
  rw [e2, ob_eq]
  simp only [if_true]
theorem lw_looks {K : Gx → Option (Int × Gx)} {n i N : Nat} {g g1 g2 : Gx} {r : Int} (hN : N ≤ 3072) (hg : g 1001 0 = (N : Int)) (hi : 6 * i + 5 < N) (hc : jand (g 1000 (6 * i)) 63 = 8) (e1 : Op_looks (g 1000 (6 * i + 1)) g = some (r, g1)) (s0 : g1 1000 = g 1000) (s1 : g1 1001 = g 1001) (e2 : Md_looks (g 1000 (6 * i + 1)) g1 = some (r, g2)) : Law_law_l18 K (n + 1) ((6 * i : Nat) : Int) g = Law_law_l18 K n ((6 * (i + 1) : Nat) : Int) g2 := by
  have hg1 : g1 1001 0 = (N : Int) := by rw [s1]; exact hg
  have w6 : wr (((6 * i : Nat) : Int) + 6) = ((6 * (i + 1) : Nat) : Int) := by rw [wr_id (by omega) (by omega)]; omega
  have w1 : wr (((6 * i : Nat) : Int) + 1) = ((6 * i + 1 : Nat) : Int) := lw_w hN hi 1 (by decide)
  rw [Law_law_l18, hg, wr_id (x := (N : Int) - 6) (by omega) (by omega), if_neg (show ¬ (N : Int) - 6 < ((6 * i : Nat) : Int) by omega), if_pos (show (1000 : Nat) = 1000 ∧ 0 ≤ ((6 * i : Nat) : Int) ∧ ((6 * i : Nat) : Int) < (N : Int) from ⟨rfl, by omega, by omega⟩), Int.toNat_natCast, hc, if_neg (show ¬ ((8 : Int) < 0 ∨ 32 < (8 : Int)) by decide), if_neg (show ¬ (8 : Int) = 0 by decide), if_neg (show ¬ (8 : Int) = 1 by decide), if_neg (show ¬ (8 : Int) = 2 by decide), if_neg (show ¬ (8 : Int) = 3 by decide), if_neg (show ¬ (8 : Int) = 4 by decide), if_neg (show ¬ (8 : Int) = 5 by decide), if_neg (show ¬ (8 : Int) = 6 by decide), if_neg (show ¬ (8 : Int) = 7 by decide), if_pos (show (8 : Int) = 8 from rfl)]
  simp only [w6, w1, Int.toNat_natCast]
  rw [if_pos (show True ∧ 0 ≤ ((6 * i + 1 : Nat) : Int) ∧ ((6 * i + 1 : Nat) : Int) < (N : Int) from ⟨trivial, by omega, by omega⟩)]
  rw [e1, ob_eq]
  simp only [s0, hg1]
  rw [if_pos (show True ∧ 0 ≤ ((6 * i + 1 : Nat) : Int) ∧ ((6 * i + 1 : Nat) : Int) < (N : Int) from ⟨trivial, by omega, by omega⟩)]
  rw [e2, ob_eq]
  simp only [if_true]
theorem lw_parts {K : Gx → Option (Int × Gx)} {n i N : Nat} {g g1 g2 : Gx} {r : Int} (hN : N ≤ 3072) (hg : g 1001 0 = (N : Int)) (hi : 6 * i + 5 < N) (hc : jand (g 1000 (6 * i)) 63 = 9) (e1 : Op_parts (g 1000 (6 * i + 1)) (g 1000 (6 * i + 2)) g = some (r, g1)) (s0 : g1 1000 = g 1000) (s1 : g1 1001 = g 1001) (e2 : Md_parts (g 1000 (6 * i + 1)) (g 1000 (6 * i + 2)) g1 = some (r, g2)) : Law_law_l18 K (n + 1) ((6 * i : Nat) : Int) g = Law_law_l18 K n ((6 * (i + 1) : Nat) : Int) g2 := by
  have hg1 : g1 1001 0 = (N : Int) := by rw [s1]; exact hg
  have w6 : wr (((6 * i : Nat) : Int) + 6) = ((6 * (i + 1) : Nat) : Int) := by rw [wr_id (by omega) (by omega)]; omega
  have w1 : wr (((6 * i : Nat) : Int) + 1) = ((6 * i + 1 : Nat) : Int) := lw_w hN hi 1 (by decide)
  have w2 : wr (((6 * i : Nat) : Int) + 2) = ((6 * i + 2 : Nat) : Int) := lw_w hN hi 2 (by decide)
  rw [Law_law_l18, hg, wr_id (x := (N : Int) - 6) (by omega) (by omega), if_neg (show ¬ (N : Int) - 6 < ((6 * i : Nat) : Int) by omega), if_pos (show (1000 : Nat) = 1000 ∧ 0 ≤ ((6 * i : Nat) : Int) ∧ ((6 * i : Nat) : Int) < (N : Int) from ⟨rfl, by omega, by omega⟩), Int.toNat_natCast, hc, if_neg (show ¬ ((9 : Int) < 0 ∨ 32 < (9 : Int)) by decide), if_neg (show ¬ (9 : Int) = 0 by decide), if_neg (show ¬ (9 : Int) = 1 by decide), if_neg (show ¬ (9 : Int) = 2 by decide), if_neg (show ¬ (9 : Int) = 3 by decide), if_neg (show ¬ (9 : Int) = 4 by decide), if_neg (show ¬ (9 : Int) = 5 by decide), if_neg (show ¬ (9 : Int) = 6 by decide), if_neg (show ¬ (9 : Int) = 7 by decide), if_neg (show ¬ (9 : Int) = 8 by decide), if_pos (show (9 : Int) = 9 from rfl)]
  simp only [w6, w1, w2, Int.toNat_natCast]
  rw [if_pos (show True ∧ 0 ≤ ((6 * i + 1 : Nat) : Int) ∧ ((6 * i + 1 : Nat) : Int) < (N : Int) from ⟨trivial, by omega, by omega⟩)]
  rw [if_pos (show True ∧ 0 ≤ ((6 * i + 2 : Nat) : Int) ∧ ((6 * i + 2 : Nat) : Int) < (N : Int) from ⟨trivial, by omega, by omega⟩)]
  rw [e1, ob_eq]
  simp only [s0, hg1]
  rw [if_pos (show True ∧ 0 ≤ ((6 * i + 1 : Nat) : Int) ∧ ((6 * i + 1 : Nat) : Int) < (N : Int) from ⟨trivial, by omega, by omega⟩)]
  rw [if_pos (show True ∧ 0 ≤ ((6 * i + 2 : Nat) : Int) ∧ ((6 * i + 2 : Nat) : Int) < (N : Int) from ⟨trivial, by omega, by omega⟩)]
  rw [e2, ob_eq]
  simp only [if_true]
theorem lw_sound {K : Gx → Option (Int × Gx)} {n i N : Nat} {g g1 g2 : Gx} {r : Int} (hN : N ≤ 3072) (hg : g 1001 0 = (N : Int)) (hi : 6 * i + 5 < N) (hc : jand (g 1000 (6 * i)) 63 = 10) (e1 : Op_sound g = some (r, g1)) (s0 : g1 1000 = g 1000) (s1 : g1 1001 = g 1001) (e2 : Md_sound g1 = some (r, g2)) : Law_law_l18 K (n + 1) ((6 * i : Nat) : Int) g = Law_law_l18 K n ((6 * (i + 1) : Nat) : Int) g2 := by
  have hg1 : g1 1001 0 = (N : Int) := by rw [s1]; exact hg
  have w6 : wr (((6 * i : Nat) : Int) + 6) = ((6 * (i + 1) : Nat) : Int) := by rw [wr_id (by omega) (by omega)]; omega
  rw [Law_law_l18, hg, wr_id (x := (N : Int) - 6) (by omega) (by omega), if_neg (show ¬ (N : Int) - 6 < ((6 * i : Nat) : Int) by omega), if_pos (show (1000 : Nat) = 1000 ∧ 0 ≤ ((6 * i : Nat) : Int) ∧ ((6 * i : Nat) : Int) < (N : Int) from ⟨rfl, by omega, by omega⟩), Int.toNat_natCast, hc, if_neg (show ¬ ((10 : Int) < 0 ∨ 32 < (10 : Int)) by decide), if_neg (show ¬ (10 : Int) = 0 by decide), if_neg (show ¬ (10 : Int) = 1 by decide), if_neg (show ¬ (10 : Int) = 2 by decide), if_neg (show ¬ (10 : Int) = 3 by decide), if_neg (show ¬ (10 : Int) = 4 by decide), if_neg (show ¬ (10 : Int) = 5 by decide), if_neg (show ¬ (10 : Int) = 6 by decide), if_neg (show ¬ (10 : Int) = 7 by decide), if_neg (show ¬ (10 : Int) = 8 by decide), if_neg (show ¬ (10 : Int) = 9 by decide), if_pos (show (10 : Int) = 10 from rfl)]
  simp only [w6, Int.toNat_natCast]
  rw [e1, ob_eq]
  simp only [s0, hg1]
  rw [e2, ob_eq]
  simp only [if_true]
theorem lw_moment {K : Gx → Option (Int × Gx)} {n i N : Nat} {g g1 g2 : Gx} {r : Int} (hN : N ≤ 3072) (hg : g 1001 0 = (N : Int)) (hi : 6 * i + 5 < N) (hc : jand (g 1000 (6 * i)) 63 = 11) (e1 : Op_moment (g 1000 (6 * i + 1)) g = some (r, g1)) (s0 : g1 1000 = g 1000) (s1 : g1 1001 = g 1001) (e2 : Md_moment (g 1000 (6 * i + 1)) g1 = some (r, g2)) : Law_law_l18 K (n + 1) ((6 * i : Nat) : Int) g = Law_law_l18 K n ((6 * (i + 1) : Nat) : Int) g2 := by
  have hg1 : g1 1001 0 = (N : Int) := by rw [s1]; exact hg
  have w6 : wr (((6 * i : Nat) : Int) + 6) = ((6 * (i + 1) : Nat) : Int) := by rw [wr_id (by omega) (by omega)]; omega
  have w1 : wr (((6 * i : Nat) : Int) + 1) = ((6 * i + 1 : Nat) : Int) := lw_w hN hi 1 (by decide)
  rw [Law_law_l18, hg, wr_id (x := (N : Int) - 6) (by omega) (by omega), if_neg (show ¬ (N : Int) - 6 < ((6 * i : Nat) : Int) by omega), if_pos (show (1000 : Nat) = 1000 ∧ 0 ≤ ((6 * i : Nat) : Int) ∧ ((6 * i : Nat) : Int) < (N : Int) from ⟨rfl, by omega, by omega⟩), Int.toNat_natCast, hc, if_neg (show ¬ ((11 : Int) < 0 ∨ 32 < (11 : Int)) by decide), if_neg (show ¬ (11 : Int) = 0 by decide), if_neg (show ¬ (11 : Int) = 1 by decide), if_neg (show ¬ (11 : Int) = 2 by decide), if_neg (show ¬ (11 : Int) = 3 by decide), if_neg (show ¬ (11 : Int) = 4 by decide), if_neg (show ¬ (11 : Int) = 5 by decide), if_neg (show ¬ (11 : Int) = 6 by decide), if_neg (show ¬ (11 : Int) = 7 by decide), if_neg (show ¬ (11 : Int) = 8 by decide), if_neg (show ¬ (11 : Int) = 9 by decide), if_neg (show ¬ (11 : Int) = 10 by decide), if_pos (show (11 : Int) = 11 from rfl)]
  simp only [w6, w1, Int.toNat_natCast]
  rw [if_pos (show True ∧ 0 ≤ ((6 * i + 1 : Nat) : Int) ∧ ((6 * i + 1 : Nat) : Int) < (N : Int) from ⟨trivial, by omega, by omega⟩)]
  rw [e1, ob_eq]
  simp only [s0, hg1]
  rw [if_pos (show True ∧ 0 ≤ ((6 * i + 1 : Nat) : Int) ∧ ((6 * i + 1 : Nat) : Int) < (N : Int) from ⟨trivial, by omega, by omega⟩)]
  rw [e2, ob_eq]
  simp only [if_true]
theorem lw_mended {K : Gx → Option (Int × Gx)} {n i N : Nat} {g g1 g2 : Gx} {r : Int} (hN : N ≤ 3072) (hg : g 1001 0 = (N : Int)) (hi : 6 * i + 5 < N) (hc : jand (g 1000 (6 * i)) 63 = 12) (e1 : Op_mended g = some (r, g1)) (s0 : g1 1000 = g 1000) (s1 : g1 1001 = g 1001) (e2 : Md_mended g1 = some (r, g2)) : Law_law_l18 K (n + 1) ((6 * i : Nat) : Int) g = Law_law_l18 K n ((6 * (i + 1) : Nat) : Int) g2 := by
  have hg1 : g1 1001 0 = (N : Int) := by rw [s1]; exact hg
  have w6 : wr (((6 * i : Nat) : Int) + 6) = ((6 * (i + 1) : Nat) : Int) := by rw [wr_id (by omega) (by omega)]; omega
  rw [Law_law_l18, hg, wr_id (x := (N : Int) - 6) (by omega) (by omega), if_neg (show ¬ (N : Int) - 6 < ((6 * i : Nat) : Int) by omega), if_pos (show (1000 : Nat) = 1000 ∧ 0 ≤ ((6 * i : Nat) : Int) ∧ ((6 * i : Nat) : Int) < (N : Int) from ⟨rfl, by omega, by omega⟩), Int.toNat_natCast, hc, if_neg (show ¬ ((12 : Int) < 0 ∨ 32 < (12 : Int)) by decide), if_neg (show ¬ (12 : Int) = 0 by decide), if_neg (show ¬ (12 : Int) = 1 by decide), if_neg (show ¬ (12 : Int) = 2 by decide), if_neg (show ¬ (12 : Int) = 3 by decide), if_neg (show ¬ (12 : Int) = 4 by decide), if_neg (show ¬ (12 : Int) = 5 by decide), if_neg (show ¬ (12 : Int) = 6 by decide), if_neg (show ¬ (12 : Int) = 7 by decide), if_neg (show ¬ (12 : Int) = 8 by decide), if_neg (show ¬ (12 : Int) = 9 by decide), if_neg (show ¬ (12 : Int) = 10 by decide), if_neg (show ¬ (12 : Int) = 11 by decide), if_pos (show (12 : Int) = 12 from rfl)]
  simp only [w6, Int.toNat_natCast]
  rw [e1, ob_eq]
  simp only [s0, hg1]
  rw [e2, ob_eq]
  simp only [if_true]
theorem lw_run {K : Gx → Option (Int × Gx)} {n i N : Nat} {g g1 g2 : Gx} {r : Int} (hN : N ≤ 3072) (hg : g 1001 0 = (N : Int)) (hi : 6 * i + 5 < N) (hc : jand (g 1000 (6 * i)) 63 = 13) (e1 : Op_run (g 1000 (6 * i + 1)) (g 1000 (6 * i + 2)) (g 1000 (6 * i + 3)) g = some (r, g1)) (s0 : g1 1000 = g 1000) (s1 : g1 1001 = g 1001) (e2 : Md_run (g 1000 (6 * i + 1)) (g 1000 (6 * i + 2)) (g 1000 (6 * i + 3)) g1 = some (r, g2)) : Law_law_l18 K (n + 1) ((6 * i : Nat) : Int) g = Law_law_l18 K n ((6 * (i + 1) : Nat) : Int) g2 := by
  have hg1 : g1 1001 0 = (N : Int) := by rw [s1]; exact hg
  have w6 : wr (((6 * i : Nat) : Int) + 6) = ((6 * (i + 1) : Nat) : Int) := by rw [wr_id (by omega) (by omega)]; omega
  have w1 : wr (((6 * i : Nat) : Int) + 1) = ((6 * i + 1 : Nat) : Int) := lw_w hN hi 1 (by decide)
  have w2 : wr (((6 * i : Nat) : Int) + 2) = ((6 * i + 2 : Nat) : Int) := lw_w hN hi 2 (by decide)
  have w3 : wr (((6 * i : Nat) : Int) + 3) = ((6 * i + 3 : Nat) : Int) := lw_w hN hi 3 (by decide)
  rw [Law_law_l18, hg, wr_id (x := (N : Int) - 6) (by omega) (by omega), if_neg (show ¬ (N : Int) - 6 < ((6 * i : Nat) : Int) by omega), if_pos (show (1000 : Nat) = 1000 ∧ 0 ≤ ((6 * i : Nat) : Int) ∧ ((6 * i : Nat) : Int) < (N : Int) from ⟨rfl, by omega, by omega⟩), Int.toNat_natCast, hc, if_neg (show ¬ ((13 : Int) < 0 ∨ 32 < (13 : Int)) by decide), if_neg (show ¬ (13 : Int) = 0 by decide), if_neg (show ¬ (13 : Int) = 1 by decide), if_neg (show ¬ (13 : Int) = 2 by decide), if_neg (show ¬ (13 : Int) = 3 by decide), if_neg (show ¬ (13 : Int) = 4 by decide), if_neg (show ¬ (13 : Int) = 5 by decide), if_neg (show ¬ (13 : Int) = 6 by decide), if_neg (show ¬ (13 : Int) = 7 by decide), if_neg (show ¬ (13 : Int) = 8 by decide), if_neg (show ¬ (13 : Int) = 9 by decide), if_neg (show ¬ (13 : Int) = 10 by decide), if_neg (show ¬ (13 : Int) = 11 by decide), if_neg (show ¬ (13 : Int) = 12 by decide), if_pos (show (13 : Int) = 13 from rfl)]
  simp only [w6, w1, w2, w3, Int.toNat_natCast]
  rw [if_pos (show True ∧ 0 ≤ ((6 * i + 1 : Nat) : Int) ∧ ((6 * i + 1 : Nat) : Int) < (N : Int) from ⟨trivial, by omega, by omega⟩)]
  rw [if_pos (show True ∧ 0 ≤ ((6 * i + 2 : Nat) : Int) ∧ ((6 * i + 2 : Nat) : Int) < (N : Int) from ⟨trivial, by omega, by omega⟩)]
  rw [if_pos (show True ∧ 0 ≤ ((6 * i + 3 : Nat) : Int) ∧ ((6 * i + 3 : Nat) : Int) < (N : Int) from ⟨trivial, by omega, by omega⟩)]
  rw [e1, ob_eq]
  simp only [s0, hg1]
  rw [if_pos (show True ∧ 0 ≤ ((6 * i + 1 : Nat) : Int) ∧ ((6 * i + 1 : Nat) : Int) < (N : Int) from ⟨trivial, by omega, by omega⟩)]
  rw [if_pos (show True ∧ 0 ≤ ((6 * i + 2 : Nat) : Int) ∧ ((6 * i + 2 : Nat) : Int) < (N : Int) from ⟨trivial, by omega, by omega⟩)]
  rw [if_pos (show True ∧ 0 ≤ ((6 * i + 3 : Nat) : Int) ∧ ((6 * i + 3 : Nat) : Int) < (N : Int) from ⟨trivial, by omega, by omega⟩)]
  rw [e2, ob_eq]
  simp only [if_true]
theorem lw_step {K : Gx → Option (Int × Gx)} {n i N : Nat} {g g1 g2 : Gx} {r : Int} (hN : N ≤ 3072) (hg : g 1001 0 = (N : Int)) (hi : 6 * i + 5 < N) (hc : jand (g 1000 (6 * i)) 63 = 14) (e1 : Op_step (g 1000 (6 * i + 1)) (g 1000 (6 * i + 2)) (g 1000 (6 * i + 3)) g = some (r, g1)) (s0 : g1 1000 = g 1000) (s1 : g1 1001 = g 1001) (e2 : Md_step (g 1000 (6 * i + 1)) (g 1000 (6 * i + 2)) (g 1000 (6 * i + 3)) g1 = some (r, g2)) : Law_law_l18 K (n + 1) ((6 * i : Nat) : Int) g = Law_law_l18 K n ((6 * (i + 1) : Nat) : Int) g2 := by
  have hg1 : g1 1001 0 = (N : Int) := by rw [s1]; exact hg
  have w6 : wr (((6 * i : Nat) : Int) + 6) = ((6 * (i + 1) : Nat) : Int) := by rw [wr_id (by omega) (by omega)]; omega
  have w1 : wr (((6 * i : Nat) : Int) + 1) = ((6 * i + 1 : Nat) : Int) := lw_w hN hi 1 (by decide)
  have w2 : wr (((6 * i : Nat) : Int) + 2) = ((6 * i + 2 : Nat) : Int) := lw_w hN hi 2 (by decide)
  have w3 : wr (((6 * i : Nat) : Int) + 3) = ((6 * i + 3 : Nat) : Int) := lw_w hN hi 3 (by decide)
  rw [Law_law_l18, hg, wr_id (x := (N : Int) - 6) (by omega) (by omega), if_neg (show ¬ (N : Int) - 6 < ((6 * i : Nat) : Int) by omega), if_pos (show (1000 : Nat) = 1000 ∧ 0 ≤ ((6 * i : Nat) : Int) ∧ ((6 * i : Nat) : Int) < (N : Int) from ⟨rfl, by omega, by omega⟩), Int.toNat_natCast, hc, if_neg (show ¬ ((14 : Int) < 0 ∨ 32 < (14 : Int)) by decide), if_neg (show ¬ (14 : Int) = 0 by decide), if_neg (show ¬ (14 : Int) = 1 by decide), if_neg (show ¬ (14 : Int) = 2 by decide), if_neg (show ¬ (14 : Int) = 3 by decide), if_neg (show ¬ (14 : Int) = 4 by decide), if_neg (show ¬ (14 : Int) = 5 by decide), if_neg (show ¬ (14 : Int) = 6 by decide), if_neg (show ¬ (14 : Int) = 7 by decide), if_neg (show ¬ (14 : Int) = 8 by decide), if_neg (show ¬ (14 : Int) = 9 by decide), if_neg (show ¬ (14 : Int) = 10 by decide), if_neg (show ¬ (14 : Int) = 11 by decide), if_neg (show ¬ (14 : Int) = 12 by decide), if_neg (show ¬ (14 : Int) = 13 by decide), if_pos (show (14 : Int) = 14 from rfl)]
  simp only [w6, w1, w2, w3, Int.toNat_natCast]
  rw [if_pos (show True ∧ 0 ≤ ((6 * i + 1 : Nat) : Int) ∧ ((6 * i + 1 : Nat) : Int) < (N : Int) from ⟨trivial, by omega, by omega⟩)]
  rw [if_pos (show True ∧ 0 ≤ ((6 * i + 2 : Nat) : Int) ∧ ((6 * i + 2 : Nat) : Int) < (N : Int) from ⟨trivial, by omega, by omega⟩)]
  rw [if_pos (show True ∧ 0 ≤ ((6 * i + 3 : Nat) : Int) ∧ ((6 * i + 3 : Nat) : Int) < (N : Int) from ⟨trivial, by omega, by omega⟩)]
  rw [e1, ob_eq]
  simp only [s0, hg1]
  rw [if_pos (show True ∧ 0 ≤ ((6 * i + 1 : Nat) : Int) ∧ ((6 * i + 1 : Nat) : Int) < (N : Int) from ⟨trivial, by omega, by omega⟩)]
  rw [if_pos (show True ∧ 0 ≤ ((6 * i + 2 : Nat) : Int) ∧ ((6 * i + 2 : Nat) : Int) < (N : Int) from ⟨trivial, by omega, by omega⟩)]
  rw [if_pos (show True ∧ 0 ≤ ((6 * i + 3 : Nat) : Int) ∧ ((6 * i + 3 : Nat) : Int) < (N : Int) from ⟨trivial, by omega, by omega⟩)]
  rw [e2, ob_eq]
  simp only [if_true]
theorem lw_longest {K : Gx → Option (Int × Gx)} {n i N : Nat} {g g1 g2 : Gx} {r : Int} (hN : N ≤ 3072) (hg : g 1001 0 = (N : Int)) (hi : 6 * i + 5 < N) (hc : jand (g 1000 (6 * i)) 63 = 15) (e1 : Op_longest (g 1000 (6 * i + 1)) (g 1000 (6 * i + 2)) (g 1000 (6 * i + 3)) g = some (r, g1)) (s0 : g1 1000 = g 1000) (s1 : g1 1001 = g 1001) (e2 : Md_longest (g 1000 (6 * i + 1)) (g 1000 (6 * i + 2)) (g 1000 (6 * i + 3)) g1 = some (r, g2)) : Law_law_l18 K (n + 1) ((6 * i : Nat) : Int) g = Law_law_l18 K n ((6 * (i + 1) : Nat) : Int) g2 := by
  have hg1 : g1 1001 0 = (N : Int) := by rw [s1]; exact hg
  have w6 : wr (((6 * i : Nat) : Int) + 6) = ((6 * (i + 1) : Nat) : Int) := by rw [wr_id (by omega) (by omega)]; omega
  have w1 : wr (((6 * i : Nat) : Int) + 1) = ((6 * i + 1 : Nat) : Int) := lw_w hN hi 1 (by decide)
  have w2 : wr (((6 * i : Nat) : Int) + 2) = ((6 * i + 2 : Nat) : Int) := lw_w hN hi 2 (by decide)
  have w3 : wr (((6 * i : Nat) : Int) + 3) = ((6 * i + 3 : Nat) : Int) := lw_w hN hi 3 (by decide)
  rw [Law_law_l18, hg, wr_id (x := (N : Int) - 6) (by omega) (by omega), if_neg (show ¬ (N : Int) - 6 < ((6 * i : Nat) : Int) by omega), if_pos (show (1000 : Nat) = 1000 ∧ 0 ≤ ((6 * i : Nat) : Int) ∧ ((6 * i : Nat) : Int) < (N : Int) from ⟨rfl, by omega, by omega⟩), Int.toNat_natCast, hc, if_neg (show ¬ ((15 : Int) < 0 ∨ 32 < (15 : Int)) by decide), if_neg (show ¬ (15 : Int) = 0 by decide), if_neg (show ¬ (15 : Int) = 1 by decide), if_neg (show ¬ (15 : Int) = 2 by decide), if_neg (show ¬ (15 : Int) = 3 by decide), if_neg (show ¬ (15 : Int) = 4 by decide), if_neg (show ¬ (15 : Int) = 5 by decide), if_neg (show ¬ (15 : Int) = 6 by decide), if_neg (show ¬ (15 : Int) = 7 by decide), if_neg (show ¬ (15 : Int) = 8 by decide), if_neg (show ¬ (15 : Int) = 9 by decide), if_neg (show ¬ (15 : Int) = 10 by decide), if_neg (show ¬ (15 : Int) = 11 by decide), if_neg (show ¬ (15 : Int) = 12 by decide), if_neg (show ¬ (15 : Int) = 13 by decide), if_neg (show ¬ (15 : Int) = 14 by decide), if_pos (show (15 : Int) = 15 from rfl)]
  simp only [w6, w1, w2, w3, Int.toNat_natCast]
  rw [if_pos (show True ∧ 0 ≤ ((6 * i + 1 : Nat) : Int) ∧ ((6 * i + 1 : Nat) : Int) < (N : Int) from ⟨trivial, by omega, by omega⟩)]
  rw [if_pos (show True ∧ 0 ≤ ((6 * i + 2 : Nat) : Int) ∧ ((6 * i + 2 : Nat) : Int) < (N : Int) from ⟨trivial, by omega, by omega⟩)]
  rw [if_pos (show True ∧ 0 ≤ ((6 * i + 3 : Nat) : Int) ∧ ((6 * i + 3 : Nat) : Int) < (N : Int) from ⟨trivial, by omega, by omega⟩)]
  rw [e1, ob_eq]
  simp only [s0, hg1]
  rw [if_pos (show True ∧ 0 ≤ ((6 * i + 1 : Nat) : Int) ∧ ((6 * i + 1 : Nat) : Int) < (N : Int) from ⟨trivial, by omega, by omega⟩)]
  rw [if_pos (show True ∧ 0 ≤ ((6 * i + 2 : Nat) : Int) ∧ ((6 * i + 2 : Nat) : Int) < (N : Int) from ⟨trivial, by omega, by omega⟩)]
  rw [if_pos (show True ∧ 0 ≤ ((6 * i + 3 : Nat) : Int) ∧ ((6 * i + 3 : Nat) : Int) < (N : Int) from ⟨trivial, by omega, by omega⟩)]
  rw [e2, ob_eq]
  simp only [if_true]
theorem lw_trips {K : Gx → Option (Int × Gx)} {n i N : Nat} {g g1 g2 : Gx} {r : Int} (hN : N ≤ 3072) (hg : g 1001 0 = (N : Int)) (hi : 6 * i + 5 < N) (hc : jand (g 1000 (6 * i)) 63 = 16) (e1 : Op_trips (g 1000 (6 * i + 1)) (g 1000 (6 * i + 2)) g = some (r, g1)) (s0 : g1 1000 = g 1000) (s1 : g1 1001 = g 1001) (e2 : Md_trips (g 1000 (6 * i + 1)) (g 1000 (6 * i + 2)) g1 = some (r, g2)) : Law_law_l18 K (n + 1) ((6 * i : Nat) : Int) g = Law_law_l18 K n ((6 * (i + 1) : Nat) : Int) g2 := by
  have hg1 : g1 1001 0 = (N : Int) := by rw [s1]; exact hg
  have w6 : wr (((6 * i : Nat) : Int) + 6) = ((6 * (i + 1) : Nat) : Int) := by rw [wr_id (by omega) (by omega)]; omega
  have w1 : wr (((6 * i : Nat) : Int) + 1) = ((6 * i + 1 : Nat) : Int) := lw_w hN hi 1 (by decide)
  have w2 : wr (((6 * i : Nat) : Int) + 2) = ((6 * i + 2 : Nat) : Int) := lw_w hN hi 2 (by decide)
  rw [Law_law_l18, hg, wr_id (x := (N : Int) - 6) (by omega) (by omega), if_neg (show ¬ (N : Int) - 6 < ((6 * i : Nat) : Int) by omega), if_pos (show (1000 : Nat) = 1000 ∧ 0 ≤ ((6 * i : Nat) : Int) ∧ ((6 * i : Nat) : Int) < (N : Int) from ⟨rfl, by omega, by omega⟩), Int.toNat_natCast, hc, if_neg (show ¬ ((16 : Int) < 0 ∨ 32 < (16 : Int)) by decide), if_neg (show ¬ (16 : Int) = 0 by decide), if_neg (show ¬ (16 : Int) = 1 by decide), if_neg (show ¬ (16 : Int) = 2 by decide), if_neg (show ¬ (16 : Int) = 3 by decide), if_neg (show ¬ (16 : Int) = 4 by decide), if_neg (show ¬ (16 : Int) = 5 by decide), if_neg (show ¬ (16 : Int) = 6 by decide), if_neg (show ¬ (16 : Int) = 7 by decide), if_neg (show ¬ (16 : Int) = 8 by decide), if_neg (show ¬ (16 : Int) = 9 by decide), if_neg (show ¬ (16 : Int) = 10 by decide), if_neg (show ¬ (16 : Int) = 11 by decide), if_neg (show ¬ (16 : Int) = 12 by decide), if_neg (show ¬ (16 : Int) = 13 by decide), if_neg (show ¬ (16 : Int) = 14 by decide), if_neg (show ¬ (16 : Int) = 15 by decide), if_pos (show (16 : Int) = 16 from rfl)]
  simp only [w6, w1, w2, Int.toNat_natCast]
  rw [if_pos (show True ∧ 0 ≤ ((6 * i + 1 : Nat) : Int) ∧ ((6 * i + 1 : Nat) : Int) < (N : Int) from ⟨trivial, by omega, by omega⟩)]
  rw [if_pos (show True ∧ 0 ≤ ((6 * i + 2 : Nat) : Int) ∧ ((6 * i + 2 : Nat) : Int) < (N : Int) from ⟨trivial, by omega, by omega⟩)]
  rw [e1, ob_eq]
  simp only [s0, hg1]
  rw [if_pos (show True ∧ 0 ≤ ((6 * i + 1 : Nat) : Int) ∧ ((6 * i + 1 : Nat) : Int) < (N : Int) from ⟨trivial, by omega, by omega⟩)]
  rw [if_pos (show True ∧ 0 ≤ ((6 * i + 2 : Nat) : Int) ∧ ((6 * i + 2 : Nat) : Int) < (N : Int) from ⟨trivial, by omega, by omega⟩)]
  rw [e2, ob_eq]
  simp only [if_true]
theorem lw_lost {K : Gx → Option (Int × Gx)} {n i N : Nat} {g g1 g2 : Gx} {r : Int} (hN : N ≤ 3072) (hg : g 1001 0 = (N : Int)) (hi : 6 * i + 5 < N) (hc : jand (g 1000 (6 * i)) 63 = 17) (e1 : Op_lost (g 1000 (6 * i + 1)) (g 1000 (6 * i + 2)) (g 1000 (6 * i + 3)) (g 1000 (6 * i + 4)) g = some (r, g1)) (s0 : g1 1000 = g 1000) (s1 : g1 1001 = g 1001) (e2 : Md_lost (g 1000 (6 * i + 1)) (g 1000 (6 * i + 2)) (g 1000 (6 * i + 3)) (g 1000 (6 * i + 4)) g1 = some (r, g2)) : Law_law_l18 K (n + 1) ((6 * i : Nat) : Int) g = Law_law_l18 K n ((6 * (i + 1) : Nat) : Int) g2 := by
  have hg1 : g1 1001 0 = (N : Int) := by rw [s1]; exact hg
  have w6 : wr (((6 * i : Nat) : Int) + 6) = ((6 * (i + 1) : Nat) : Int) := by rw [wr_id (by omega) (by omega)]; omega
  have w1 : wr (((6 * i : Nat) : Int) + 1) = ((6 * i + 1 : Nat) : Int) := lw_w hN hi 1 (by decide)
  have w2 : wr (((6 * i : Nat) : Int) + 2) = ((6 * i + 2 : Nat) : Int) := lw_w hN hi 2 (by decide)
  have w3 : wr (((6 * i : Nat) : Int) + 3) = ((6 * i + 3 : Nat) : Int) := lw_w hN hi 3 (by decide)
  have w4 : wr (((6 * i : Nat) : Int) + 4) = ((6 * i + 4 : Nat) : Int) := lw_w hN hi 4 (by decide)
  rw [Law_law_l18, hg, wr_id (x := (N : Int) - 6) (by omega) (by omega), if_neg (show ¬ (N : Int) - 6 < ((6 * i : Nat) : Int) by omega), if_pos (show (1000 : Nat) = 1000 ∧ 0 ≤ ((6 * i : Nat) : Int) ∧ ((6 * i : Nat) : Int) < (N : Int) from ⟨rfl, by omega, by omega⟩), Int.toNat_natCast, hc, if_neg (show ¬ ((17 : Int) < 0 ∨ 32 < (17 : Int)) by decide), if_neg (show ¬ (17 : Int) = 0 by decide), if_neg (show ¬ (17 : Int) = 1 by decide), if_neg (show ¬ (17 : Int) = 2 by decide), if_neg (show ¬ (17 : Int) = 3 by decide), if_neg (show ¬ (17 : Int) = 4 by decide), if_neg (show ¬ (17 : Int) = 5 by decide), if_neg (show ¬ (17 : Int) = 6 by decide), if_neg (show ¬ (17 : Int) = 7 by decide), if_neg (show ¬ (17 : Int) = 8 by decide), if_neg (show ¬ (17 : Int) = 9 by decide), if_neg (show ¬ (17 : Int) = 10 by decide), if_neg (show ¬ (17 : Int) = 11 by decide), if_neg (show ¬ (17 : Int) = 12 by decide), if_neg (show ¬ (17 : Int) = 13 by decide), if_neg (show ¬ (17 : Int) = 14 by decide), if_neg (show ¬ (17 : Int) = 15 by decide), if_neg (show ¬ (17 : Int) = 16 by decide), if_pos (show (17 : Int) = 17 from rfl)]
  simp only [w6, w1, w2, w3, w4, Int.toNat_natCast]
  rw [if_pos (show True ∧ 0 ≤ ((6 * i + 1 : Nat) : Int) ∧ ((6 * i + 1 : Nat) : Int) < (N : Int) from ⟨trivial, by omega, by omega⟩)]
  rw [if_pos (show True ∧ 0 ≤ ((6 * i + 2 : Nat) : Int) ∧ ((6 * i + 2 : Nat) : Int) < (N : Int) from ⟨trivial, by omega, by omega⟩)]
  rw [if_pos (show True ∧ 0 ≤ ((6 * i + 3 : Nat) : Int) ∧ ((6 * i + 3 : Nat) : Int) < (N : Int) from ⟨trivial, by omega, by omega⟩)]
  rw [if_pos (show True ∧ 0 ≤ ((6 * i + 4 : Nat) : Int) ∧ ((6 * i + 4 : Nat) : Int) < (N : Int) from ⟨trivial, by omega, by omega⟩)]
  rw [e1, ob_eq]
  simp only [s0, hg1]
  rw [if_pos (show True ∧ 0 ≤ ((6 * i + 1 : Nat) : Int) ∧ ((6 * i + 1 : Nat) : Int) < (N : Int) from ⟨trivial, by omega, by omega⟩)]
  rw [if_pos (show True ∧ 0 ≤ ((6 * i + 2 : Nat) : Int) ∧ ((6 * i + 2 : Nat) : Int) < (N : Int) from ⟨trivial, by omega, by omega⟩)]
  rw [if_pos (show True ∧ 0 ≤ ((6 * i + 3 : Nat) : Int) ∧ ((6 * i + 3 : Nat) : Int) < (N : Int) from ⟨trivial, by omega, by omega⟩)]
  rw [if_pos (show True ∧ 0 ≤ ((6 * i + 4 : Nat) : Int) ∧ ((6 * i + 4 : Nat) : Int) < (N : Int) from ⟨trivial, by omega, by omega⟩)]
  rw [e2, ob_eq]
  simp only [if_true]
theorem lw_fits {K : Gx → Option (Int × Gx)} {n i N : Nat} {g g1 g2 : Gx} {r : Int} (hN : N ≤ 3072) (hg : g 1001 0 = (N : Int)) (hi : 6 * i + 5 < N) (hc : jand (g 1000 (6 * i)) 63 = 18) (e1 : Op_fits (g 1000 (6 * i + 1)) g = some (r, g1)) (s0 : g1 1000 = g 1000) (s1 : g1 1001 = g 1001) (e2 : Md_fits (g 1000 (6 * i + 1)) g1 = some (r, g2)) : Law_law_l18 K (n + 1) ((6 * i : Nat) : Int) g = Law_law_l18 K n ((6 * (i + 1) : Nat) : Int) g2 := by
  have hg1 : g1 1001 0 = (N : Int) := by rw [s1]; exact hg
  have w6 : wr (((6 * i : Nat) : Int) + 6) = ((6 * (i + 1) : Nat) : Int) := by rw [wr_id (by omega) (by omega)]; omega
  have w1 : wr (((6 * i : Nat) : Int) + 1) = ((6 * i + 1 : Nat) : Int) := lw_w hN hi 1 (by decide)
  rw [Law_law_l18, hg, wr_id (x := (N : Int) - 6) (by omega) (by omega), if_neg (show ¬ (N : Int) - 6 < ((6 * i : Nat) : Int) by omega), if_pos (show (1000 : Nat) = 1000 ∧ 0 ≤ ((6 * i : Nat) : Int) ∧ ((6 * i : Nat) : Int) < (N : Int) from ⟨rfl, by omega, by omega⟩), Int.toNat_natCast, hc, if_neg (show ¬ ((18 : Int) < 0 ∨ 32 < (18 : Int)) by decide), if_neg (show ¬ (18 : Int) = 0 by decide), if_neg (show ¬ (18 : Int) = 1 by decide), if_neg (show ¬ (18 : Int) = 2 by decide), if_neg (show ¬ (18 : Int) = 3 by decide), if_neg (show ¬ (18 : Int) = 4 by decide), if_neg (show ¬ (18 : Int) = 5 by decide), if_neg (show ¬ (18 : Int) = 6 by decide), if_neg (show ¬ (18 : Int) = 7 by decide), if_neg (show ¬ (18 : Int) = 8 by decide), if_neg (show ¬ (18 : Int) = 9 by decide), if_neg (show ¬ (18 : Int) = 10 by decide), if_neg (show ¬ (18 : Int) = 11 by decide), if_neg (show ¬ (18 : Int) = 12 by decide), if_neg (show ¬ (18 : Int) = 13 by decide), if_neg (show ¬ (18 : Int) = 14 by decide), if_neg (show ¬ (18 : Int) = 15 by decide), if_neg (show ¬ (18 : Int) = 16 by decide), if_neg (show ¬ (18 : Int) = 17 by decide), if_pos (show (18 : Int) = 18 from rfl)]
  simp only [w6, w1, Int.toNat_natCast]
  rw [if_pos (show True ∧ 0 ≤ ((6 * i + 1 : Nat) : Int) ∧ ((6 * i + 1 : Nat) : Int) < (N : Int) from ⟨trivial, by omega, by omega⟩)]
  rw [e1, ob_eq]
  simp only [s0, hg1]
  rw [if_pos (show True ∧ 0 ≤ ((6 * i + 1 : Nat) : Int) ∧ ((6 * i + 1 : Nat) : Int) < (N : Int) from ⟨trivial, by omega, by omega⟩)]
  rw [e2, ob_eq]
  simp only [if_true]
theorem lw_breach {K : Gx → Option (Int × Gx)} {n i N : Nat} {g g1 g2 : Gx} {r : Int} (hN : N ≤ 3072) (hg : g 1001 0 = (N : Int)) (hi : 6 * i + 5 < N) (hc : jand (g 1000 (6 * i)) 63 = 19) (e1 : Op_breach (g 1000 (6 * i + 1)) g = some (r, g1)) (s0 : g1 1000 = g 1000) (s1 : g1 1001 = g 1001) (e2 : Md_breach (g 1000 (6 * i + 1)) g1 = some (r, g2)) : Law_law_l18 K (n + 1) ((6 * i : Nat) : Int) g = Law_law_l18 K n ((6 * (i + 1) : Nat) : Int) g2 := by
  have hg1 : g1 1001 0 = (N : Int) := by rw [s1]; exact hg
  have w6 : wr (((6 * i : Nat) : Int) + 6) = ((6 * (i + 1) : Nat) : Int) := by rw [wr_id (by omega) (by omega)]; omega
  have w1 : wr (((6 * i : Nat) : Int) + 1) = ((6 * i + 1 : Nat) : Int) := lw_w hN hi 1 (by decide)
  rw [Law_law_l18, hg, wr_id (x := (N : Int) - 6) (by omega) (by omega), if_neg (show ¬ (N : Int) - 6 < ((6 * i : Nat) : Int) by omega), if_pos (show (1000 : Nat) = 1000 ∧ 0 ≤ ((6 * i : Nat) : Int) ∧ ((6 * i : Nat) : Int) < (N : Int) from ⟨rfl, by omega, by omega⟩), Int.toNat_natCast, hc, if_neg (show ¬ ((19 : Int) < 0 ∨ 32 < (19 : Int)) by decide), if_neg (show ¬ (19 : Int) = 0 by decide), if_neg (show ¬ (19 : Int) = 1 by decide), if_neg (show ¬ (19 : Int) = 2 by decide), if_neg (show ¬ (19 : Int) = 3 by decide), if_neg (show ¬ (19 : Int) = 4 by decide), if_neg (show ¬ (19 : Int) = 5 by decide), if_neg (show ¬ (19 : Int) = 6 by decide), if_neg (show ¬ (19 : Int) = 7 by decide), if_neg (show ¬ (19 : Int) = 8 by decide), if_neg (show ¬ (19 : Int) = 9 by decide), if_neg (show ¬ (19 : Int) = 10 by decide), if_neg (show ¬ (19 : Int) = 11 by decide), if_neg (show ¬ (19 : Int) = 12 by decide), if_neg (show ¬ (19 : Int) = 13 by decide), if_neg (show ¬ (19 : Int) = 14 by decide), if_neg (show ¬ (19 : Int) = 15 by decide), if_neg (show ¬ (19 : Int) = 16 by decide), if_neg (show ¬ (19 : Int) = 17 by decide), if_neg (show ¬ (19 : Int) = 18 by decide), if_pos (show (19 : Int) = 19 from rfl)]
  simp only [w6, w1, Int.toNat_natCast]
  rw [if_pos (show True ∧ 0 ≤ ((6 * i + 1 : Nat) : Int) ∧ ((6 * i + 1 : Nat) : Int) < (N : Int) from ⟨trivial, by omega, by omega⟩)]
  rw [e1, ob_eq]
  simp only [s0, hg1]
  rw [if_pos (show True ∧ 0 ≤ ((6 * i + 1 : Nat) : Int) ∧ ((6 * i + 1 : Nat) : Int) < (N : Int) from ⟨trivial, by omega, by omega⟩)]
  rw [e2, ob_eq]
  simp only [if_true]
theorem lw_log {K : Gx → Option (Int × Gx)} {n i N : Nat} {g g1 g2 : Gx} {r : Int} (hN : N ≤ 3072) (hg : g 1001 0 = (N : Int)) (hi : 6 * i + 5 < N) (hc : jand (g 1000 (6 * i)) 63 = 20) (e1 : Op_log (g 1000 (6 * i + 1)) g = some (r, g1)) (s0 : g1 1000 = g 1000) (s1 : g1 1001 = g 1001) (e2 : Md_log (g 1000 (6 * i + 1)) g1 = some (r, g2)) : Law_law_l18 K (n + 1) ((6 * i : Nat) : Int) g = Law_law_l18 K n ((6 * (i + 1) : Nat) : Int) g2 := by
  have hg1 : g1 1001 0 = (N : Int) := by rw [s1]; exact hg
  have w6 : wr (((6 * i : Nat) : Int) + 6) = ((6 * (i + 1) : Nat) : Int) := by rw [wr_id (by omega) (by omega)]; omega
  have w1 : wr (((6 * i : Nat) : Int) + 1) = ((6 * i + 1 : Nat) : Int) := lw_w hN hi 1 (by decide)
  rw [Law_law_l18, hg, wr_id (x := (N : Int) - 6) (by omega) (by omega), if_neg (show ¬ (N : Int) - 6 < ((6 * i : Nat) : Int) by omega), if_pos (show (1000 : Nat) = 1000 ∧ 0 ≤ ((6 * i : Nat) : Int) ∧ ((6 * i : Nat) : Int) < (N : Int) from ⟨rfl, by omega, by omega⟩), Int.toNat_natCast, hc, if_neg (show ¬ ((20 : Int) < 0 ∨ 32 < (20 : Int)) by decide), if_neg (show ¬ (20 : Int) = 0 by decide), if_neg (show ¬ (20 : Int) = 1 by decide), if_neg (show ¬ (20 : Int) = 2 by decide), if_neg (show ¬ (20 : Int) = 3 by decide), if_neg (show ¬ (20 : Int) = 4 by decide), if_neg (show ¬ (20 : Int) = 5 by decide), if_neg (show ¬ (20 : Int) = 6 by decide), if_neg (show ¬ (20 : Int) = 7 by decide), if_neg (show ¬ (20 : Int) = 8 by decide), if_neg (show ¬ (20 : Int) = 9 by decide), if_neg (show ¬ (20 : Int) = 10 by decide), if_neg (show ¬ (20 : Int) = 11 by decide), if_neg (show ¬ (20 : Int) = 12 by decide), if_neg (show ¬ (20 : Int) = 13 by decide), if_neg (show ¬ (20 : Int) = 14 by decide), if_neg (show ¬ (20 : Int) = 15 by decide), if_neg (show ¬ (20 : Int) = 16 by decide), if_neg (show ¬ (20 : Int) = 17 by decide), if_neg (show ¬ (20 : Int) = 18 by decide), if_neg (show ¬ (20 : Int) = 19 by decide), if_pos (show (20 : Int) = 20 from rfl)]
  simp only [w6, w1, Int.toNat_natCast]
  rw [if_pos (show True ∧ 0 ≤ ((6 * i + 1 : Nat) : Int) ∧ ((6 * i + 1 : Nat) : Int) < (N : Int) from ⟨trivial, by omega, by omega⟩)]
  rw [e1, ob_eq]
  simp only [s0, hg1]
  rw [if_pos (show True ∧ 0 ≤ ((6 * i + 1 : Nat) : Int) ∧ ((6 * i + 1 : Nat) : Int) < (N : Int) from ⟨trivial, by omega, by omega⟩)]
  rw [e2, ob_eq]
  simp only [if_true]
theorem lw_clear {K : Gx → Option (Int × Gx)} {n i N : Nat} {g g1 g2 : Gx} {r : Int} (hN : N ≤ 3072) (hg : g 1001 0 = (N : Int)) (hi : 6 * i + 5 < N) (hc : jand (g 1000 (6 * i)) 63 = 21) (e1 : Op_clear g = (r, g1)) (s0 : g1 1000 = g 1000) (s1 : g1 1001 = g 1001) (e2 : Md_clear g1 = (r, g2)) : Law_law_l18 K (n + 1) ((6 * i : Nat) : Int) g = Law_law_l18 K n ((6 * (i + 1) : Nat) : Int) g2 := by
  have hg1 : g1 1001 0 = (N : Int) := by rw [s1]; exact hg
  have w6 : wr (((6 * i : Nat) : Int) + 6) = ((6 * (i + 1) : Nat) : Int) := by rw [wr_id (by omega) (by omega)]; omega
  rw [Law_law_l18, hg, wr_id (x := (N : Int) - 6) (by omega) (by omega), if_neg (show ¬ (N : Int) - 6 < ((6 * i : Nat) : Int) by omega), if_pos (show (1000 : Nat) = 1000 ∧ 0 ≤ ((6 * i : Nat) : Int) ∧ ((6 * i : Nat) : Int) < (N : Int) from ⟨rfl, by omega, by omega⟩), Int.toNat_natCast, hc, if_neg (show ¬ ((21 : Int) < 0 ∨ 32 < (21 : Int)) by decide), if_neg (show ¬ (21 : Int) = 0 by decide), if_neg (show ¬ (21 : Int) = 1 by decide), if_neg (show ¬ (21 : Int) = 2 by decide), if_neg (show ¬ (21 : Int) = 3 by decide), if_neg (show ¬ (21 : Int) = 4 by decide), if_neg (show ¬ (21 : Int) = 5 by decide), if_neg (show ¬ (21 : Int) = 6 by decide), if_neg (show ¬ (21 : Int) = 7 by decide), if_neg (show ¬ (21 : Int) = 8 by decide), if_neg (show ¬ (21 : Int) = 9 by decide), if_neg (show ¬ (21 : Int) = 10 by decide), if_neg (show ¬ (21 : Int) = 11 by decide), if_neg (show ¬ (21 : Int) = 12 by decide), if_neg (show ¬ (21 : Int) = 13 by decide), if_neg (show ¬ (21 : Int) = 14 by decide), if_neg (show ¬ (21 : Int) = 15 by decide), if_neg (show ¬ (21 : Int) = 16 by decide), if_neg (show ¬ (21 : Int) = 17 by decide), if_neg (show ¬ (21 : Int) = 18 by decide), if_neg (show ¬ (21 : Int) = 19 by decide), if_neg (show ¬ (21 : Int) = 20 by decide), if_pos (show (21 : Int) = 21 from rfl)]
  simp only [w6, Int.toNat_natCast]
  rw [lett_eq, e1]
  simp only [s0, hg1]
  rw [lett_eq, e2]
  simp only [if_true]
theorem lw_left {K : Gx → Option (Int × Gx)} {n i N : Nat} {g g1 g2 : Gx} {r : Int} (hN : N ≤ 3072) (hg : g 1001 0 = (N : Int)) (hi : 6 * i + 5 < N) (hc : jand (g 1000 (6 * i)) 63 = 22) (e1 : Op_left (g 1000 (6 * i + 1)) g = some (r, g1)) (s0 : g1 1000 = g 1000) (s1 : g1 1001 = g 1001) (e2 : Md_left (g 1000 (6 * i + 1)) g1 = some (r, g2)) : Law_law_l18 K (n + 1) ((6 * i : Nat) : Int) g = Law_law_l18 K n ((6 * (i + 1) : Nat) : Int) g2 := by
  have hg1 : g1 1001 0 = (N : Int) := by rw [s1]; exact hg
  have w6 : wr (((6 * i : Nat) : Int) + 6) = ((6 * (i + 1) : Nat) : Int) := by rw [wr_id (by omega) (by omega)]; omega
  have w1 : wr (((6 * i : Nat) : Int) + 1) = ((6 * i + 1 : Nat) : Int) := lw_w hN hi 1 (by decide)
  rw [Law_law_l18, hg, wr_id (x := (N : Int) - 6) (by omega) (by omega), if_neg (show ¬ (N : Int) - 6 < ((6 * i : Nat) : Int) by omega), if_pos (show (1000 : Nat) = 1000 ∧ 0 ≤ ((6 * i : Nat) : Int) ∧ ((6 * i : Nat) : Int) < (N : Int) from ⟨rfl, by omega, by omega⟩), Int.toNat_natCast, hc, if_neg (show ¬ ((22 : Int) < 0 ∨ 32 < (22 : Int)) by decide), if_neg (show ¬ (22 : Int) = 0 by decide), if_neg (show ¬ (22 : Int) = 1 by decide), if_neg (show ¬ (22 : Int) = 2 by decide), if_neg (show ¬ (22 : Int) = 3 by decide), if_neg (show ¬ (22 : Int) = 4 by decide), if_neg (show ¬ (22 : Int) = 5 by decide), if_neg (show ¬ (22 : Int) = 6 by decide), if_neg (show ¬ (22 : Int) = 7 by decide), if_neg (show ¬ (22 : Int) = 8 by decide), if_neg (show ¬ (22 : Int) = 9 by decide), if_neg (show ¬ (22 : Int) = 10 by decide), if_neg (show ¬ (22 : Int) = 11 by decide), if_neg (show ¬ (22 : Int) = 12 by decide), if_neg (show ¬ (22 : Int) = 13 by decide), if_neg (show ¬ (22 : Int) = 14 by decide), if_neg (show ¬ (22 : Int) = 15 by decide), if_neg (show ¬ (22 : Int) = 16 by decide), if_neg (show ¬ (22 : Int) = 17 by decide), if_neg (show ¬ (22 : Int) = 18 by decide), if_neg (show ¬ (22 : Int) = 19 by decide), if_neg (show ¬ (22 : Int) = 20 by decide), if_neg (show ¬ (22 : Int) = 21 by decide), if_pos (show (22 : Int) = 22 from rfl)]
  simp only [w6, w1, Int.toNat_natCast]
  rw [if_pos (show True ∧ 0 ≤ ((6 * i + 1 : Nat) : Int) ∧ ((6 * i + 1 : Nat) : Int) < (N : Int) from ⟨trivial, by omega, by omega⟩)]
  rw [e1, ob_eq]
  simp only [s0, hg1]
  rw [if_pos (show True ∧ 0 ≤ ((6 * i + 1 : Nat) : Int) ∧ ((6 * i + 1 : Nat) : Int) < (N : Int) from ⟨trivial, by omega, by omega⟩)]
  rw [e2, ob_eq]
  simp only [if_true]
theorem lw_out {K : Gx → Option (Int × Gx)} {n i N : Nat} {g g1 g2 : Gx} {r : Int} (hN : N ≤ 3072) (hg : g 1001 0 = (N : Int)) (hi : 6 * i + 5 < N) (hc : jand (g 1000 (6 * i)) 63 = 23) (e1 : Op_out (g 1000 (6 * i + 1)) g = some (r, g1)) (s0 : g1 1000 = g 1000) (s1 : g1 1001 = g 1001) (e2 : Md_out (g 1000 (6 * i + 1)) g1 = some (r, g2)) : Law_law_l18 K (n + 1) ((6 * i : Nat) : Int) g = Law_law_l18 K n ((6 * (i + 1) : Nat) : Int) g2 := by
  have hg1 : g1 1001 0 = (N : Int) := by rw [s1]; exact hg
  have w6 : wr (((6 * i : Nat) : Int) + 6) = ((6 * (i + 1) : Nat) : Int) := by rw [wr_id (by omega) (by omega)]; omega
  have w1 : wr (((6 * i : Nat) : Int) + 1) = ((6 * i + 1 : Nat) : Int) := lw_w hN hi 1 (by decide)
  rw [Law_law_l18, hg, wr_id (x := (N : Int) - 6) (by omega) (by omega), if_neg (show ¬ (N : Int) - 6 < ((6 * i : Nat) : Int) by omega), if_pos (show (1000 : Nat) = 1000 ∧ 0 ≤ ((6 * i : Nat) : Int) ∧ ((6 * i : Nat) : Int) < (N : Int) from ⟨rfl, by omega, by omega⟩), Int.toNat_natCast, hc, if_neg (show ¬ ((23 : Int) < 0 ∨ 32 < (23 : Int)) by decide), if_neg (show ¬ (23 : Int) = 0 by decide), if_neg (show ¬ (23 : Int) = 1 by decide), if_neg (show ¬ (23 : Int) = 2 by decide), if_neg (show ¬ (23 : Int) = 3 by decide), if_neg (show ¬ (23 : Int) = 4 by decide), if_neg (show ¬ (23 : Int) = 5 by decide), if_neg (show ¬ (23 : Int) = 6 by decide), if_neg (show ¬ (23 : Int) = 7 by decide), if_neg (show ¬ (23 : Int) = 8 by decide), if_neg (show ¬ (23 : Int) = 9 by decide), if_neg (show ¬ (23 : Int) = 10 by decide), if_neg (show ¬ (23 : Int) = 11 by decide), if_neg (show ¬ (23 : Int) = 12 by decide), if_neg (show ¬ (23 : Int) = 13 by decide), if_neg (show ¬ (23 : Int) = 14 by decide), if_neg (show ¬ (23 : Int) = 15 by decide), if_neg (show ¬ (23 : Int) = 16 by decide), if_neg (show ¬ (23 : Int) = 17 by decide), if_neg (show ¬ (23 : Int) = 18 by decide), if_neg (show ¬ (23 : Int) = 19 by decide), if_neg (show ¬ (23 : Int) = 20 by decide), if_neg (show ¬ (23 : Int) = 21 by decide), if_neg (show ¬ (23 : Int) = 22 by decide), if_pos (show (23 : Int) = 23 from rfl)]
  simp only [w6, w1, Int.toNat_natCast]
  rw [if_pos (show True ∧ 0 ≤ ((6 * i + 1 : Nat) : Int) ∧ ((6 * i + 1 : Nat) : Int) < (N : Int) from ⟨trivial, by omega, by omega⟩)]
  rw [e1, ob_eq]
  simp only [s0, hg1]
  rw [if_pos (show True ∧ 0 ≤ ((6 * i + 1 : Nat) : Int) ∧ ((6 * i + 1 : Nat) : Int) < (N : Int) from ⟨trivial, by omega, by omega⟩)]
  rw [e2, ob_eq]
  simp only [if_true]
theorem lw_ask {K : Gx → Option (Int × Gx)} {n i N : Nat} {g g1 g2 : Gx} {r : Int} (hN : N ≤ 3072) (hg : g 1001 0 = (N : Int)) (hi : 6 * i + 5 < N) (hc : jand (g 1000 (6 * i)) 63 = 24) (e1 : Op_ask g = some (r, g1)) (s0 : g1 1000 = g 1000) (s1 : g1 1001 = g 1001) (e2 : Md_ask g1 = some (r, g2)) : Law_law_l18 K (n + 1) ((6 * i : Nat) : Int) g = Law_law_l18 K n ((6 * (i + 1) : Nat) : Int) g2 := by
  have hg1 : g1 1001 0 = (N : Int) := by rw [s1]; exact hg
  have w6 : wr (((6 * i : Nat) : Int) + 6) = ((6 * (i + 1) : Nat) : Int) := by rw [wr_id (by omega) (by omega)]; omega
  rw [Law_law_l18, hg, wr_id (x := (N : Int) - 6) (by omega) (by omega), if_neg (show ¬ (N : Int) - 6 < ((6 * i : Nat) : Int) by omega), if_pos (show (1000 : Nat) = 1000 ∧ 0 ≤ ((6 * i : Nat) : Int) ∧ ((6 * i : Nat) : Int) < (N : Int) from ⟨rfl, by omega, by omega⟩), Int.toNat_natCast, hc, if_neg (show ¬ ((24 : Int) < 0 ∨ 32 < (24 : Int)) by decide), if_neg (show ¬ (24 : Int) = 0 by decide), if_neg (show ¬ (24 : Int) = 1 by decide), if_neg (show ¬ (24 : Int) = 2 by decide), if_neg (show ¬ (24 : Int) = 3 by decide), if_neg (show ¬ (24 : Int) = 4 by decide), if_neg (show ¬ (24 : Int) = 5 by decide), if_neg (show ¬ (24 : Int) = 6 by decide), if_neg (show ¬ (24 : Int) = 7 by decide), if_neg (show ¬ (24 : Int) = 8 by decide), if_neg (show ¬ (24 : Int) = 9 by decide), if_neg (show ¬ (24 : Int) = 10 by decide), if_neg (show ¬ (24 : Int) = 11 by decide), if_neg (show ¬ (24 : Int) = 12 by decide), if_neg (show ¬ (24 : Int) = 13 by decide), if_neg (show ¬ (24 : Int) = 14 by decide), if_neg (show ¬ (24 : Int) = 15 by decide), if_neg (show ¬ (24 : Int) = 16 by decide), if_neg (show ¬ (24 : Int) = 17 by decide), if_neg (show ¬ (24 : Int) = 18 by decide), if_neg (show ¬ (24 : Int) = 19 by decide), if_neg (show ¬ (24 : Int) = 20 by decide), if_neg (show ¬ (24 : Int) = 21 by decide), if_neg (show ¬ (24 : Int) = 22 by decide), if_neg (show ¬ (24 : Int) = 23 by decide), if_pos (show (24 : Int) = 24 from rfl)]
  simp only [w6, Int.toNat_natCast]
  rw [e1, ob_eq]
  simp only [s0, hg1]
  rw [e2, ob_eq]
  simp only [if_true]
theorem lw_sheet {K : Gx → Option (Int × Gx)} {n i N : Nat} {g g1 g2 : Gx} {r : Int} (hN : N ≤ 3072) (hg : g 1001 0 = (N : Int)) (hi : 6 * i + 5 < N) (hc : jand (g 1000 (6 * i)) 63 = 25) (e1 : Op_sheet (g 1000 (6 * i + 1)) (g 1000 (6 * i + 2)) (g 1000 (6 * i + 3)) g = some (r, g1)) (s0 : g1 1000 = g 1000) (s1 : g1 1001 = g 1001) (e2 : Md_sheet (g 1000 (6 * i + 1)) (g 1000 (6 * i + 2)) (g 1000 (6 * i + 3)) g1 = some (r, g2)) : Law_law_l18 K (n + 1) ((6 * i : Nat) : Int) g = Law_law_l18 K n ((6 * (i + 1) : Nat) : Int) g2 := by
  have hg1 : g1 1001 0 = (N : Int) := by rw [s1]; exact hg
  have w6 : wr (((6 * i : Nat) : Int) + 6) = ((6 * (i + 1) : Nat) : Int) := by rw [wr_id (by omega) (by omega)]; omega
  have w1 : wr (((6 * i : Nat) : Int) + 1) = ((6 * i + 1 : Nat) : Int) := lw_w hN hi 1 (by decide)
  have w2 : wr (((6 * i : Nat) : Int) + 2) = ((6 * i + 2 : Nat) : Int) := lw_w hN hi 2 (by decide)
  have w3 : wr (((6 * i : Nat) : Int) + 3) = ((6 * i + 3 : Nat) : Int) := lw_w hN hi 3 (by decide)
  rw [Law_law_l18, hg, wr_id (x := (N : Int) - 6) (by omega) (by omega), if_neg (show ¬ (N : Int) - 6 < ((6 * i : Nat) : Int) by omega), if_pos (show (1000 : Nat) = 1000 ∧ 0 ≤ ((6 * i : Nat) : Int) ∧ ((6 * i : Nat) : Int) < (N : Int) from ⟨rfl, by omega, by omega⟩), Int.toNat_natCast, hc, if_neg (show ¬ ((25 : Int) < 0 ∨ 32 < (25 : Int)) by decide), if_neg (show ¬ (25 : Int) = 0 by decide), if_neg (show ¬ (25 : Int) = 1 by decide), if_neg (show ¬ (25 : Int) = 2 by decide), if_neg (show ¬ (25 : Int) = 3 by decide), if_neg (show ¬ (25 : Int) = 4 by decide), if_neg (show ¬ (25 : Int) = 5 by decide), if_neg (show ¬ (25 : Int) = 6 by decide), if_neg (show ¬ (25 : Int) = 7 by decide), if_neg (show ¬ (25 : Int) = 8 by decide), if_neg (show ¬ (25 : Int) = 9 by decide), if_neg (show ¬ (25 : Int) = 10 by decide), if_neg (show ¬ (25 : Int) = 11 by decide), if_neg (show ¬ (25 : Int) = 12 by decide), if_neg (show ¬ (25 : Int) = 13 by decide), if_neg (show ¬ (25 : Int) = 14 by decide), if_neg (show ¬ (25 : Int) = 15 by decide), if_neg (show ¬ (25 : Int) = 16 by decide), if_neg (show ¬ (25 : Int) = 17 by decide), if_neg (show ¬ (25 : Int) = 18 by decide), if_neg (show ¬ (25 : Int) = 19 by decide), if_neg (show ¬ (25 : Int) = 20 by decide), if_neg (show ¬ (25 : Int) = 21 by decide), if_neg (show ¬ (25 : Int) = 22 by decide), if_neg (show ¬ (25 : Int) = 23 by decide), if_neg (show ¬ (25 : Int) = 24 by decide), if_pos (show (25 : Int) = 25 from rfl)]
  simp only [w6, w1, w2, w3, Int.toNat_natCast]
  rw [if_pos (show True ∧ 0 ≤ ((6 * i + 1 : Nat) : Int) ∧ ((6 * i + 1 : Nat) : Int) < (N : Int) from ⟨trivial, by omega, by omega⟩)]
  rw [if_pos (show True ∧ 0 ≤ ((6 * i + 2 : Nat) : Int) ∧ ((6 * i + 2 : Nat) : Int) < (N : Int) from ⟨trivial, by omega, by omega⟩)]
  rw [if_pos (show True ∧ 0 ≤ ((6 * i + 3 : Nat) : Int) ∧ ((6 * i + 3 : Nat) : Int) < (N : Int) from ⟨trivial, by omega, by omega⟩)]
  rw [e1, ob_eq]
  simp only [s0, hg1]
  rw [if_pos (show True ∧ 0 ≤ ((6 * i + 1 : Nat) : Int) ∧ ((6 * i + 1 : Nat) : Int) < (N : Int) from ⟨trivial, by omega, by omega⟩)]
  rw [if_pos (show True ∧ 0 ≤ ((6 * i + 2 : Nat) : Int) ∧ ((6 * i + 2 : Nat) : Int) < (N : Int) from ⟨trivial, by omega, by omega⟩)]
  rw [if_pos (show True ∧ 0 ≤ ((6 * i + 3 : Nat) : Int) ∧ ((6 * i + 3 : Nat) : Int) < (N : Int) from ⟨trivial, by omega, by omega⟩)]
  rw [e2, ob_eq]
  simp only [if_true]
theorem lw_lose {K : Gx → Option (Int × Gx)} {n i N : Nat} {g g1 g2 : Gx} {r : Int} (hN : N ≤ 3072) (hg : g 1001 0 = (N : Int)) (hi : 6 * i + 5 < N) (hc : jand (g 1000 (6 * i)) 63 = 26) (e1 : Op_lose (g 1000 (6 * i + 1)) g = (r, g1)) (s0 : g1 1000 = g 1000) (s1 : g1 1001 = g 1001) (e2 : Md_lose (g 1000 (6 * i + 1)) g1 = some (r, g2)) : Law_law_l18 K (n + 1) ((6 * i : Nat) : Int) g = Law_law_l18 K n ((6 * (i + 1) : Nat) : Int) g2 := by
  have hg1 : g1 1001 0 = (N : Int) := by rw [s1]; exact hg
  have w6 : wr (((6 * i : Nat) : Int) + 6) = ((6 * (i + 1) : Nat) : Int) := by rw [wr_id (by omega) (by omega)]; omega
  have w1 : wr (((6 * i : Nat) : Int) + 1) = ((6 * i + 1 : Nat) : Int) := lw_w hN hi 1 (by decide)
  rw [Law_law_l18, hg, wr_id (x := (N : Int) - 6) (by omega) (by omega), if_neg (show ¬ (N : Int) - 6 < ((6 * i : Nat) : Int) by omega), if_pos (show (1000 : Nat) = 1000 ∧ 0 ≤ ((6 * i : Nat) : Int) ∧ ((6 * i : Nat) : Int) < (N : Int) from ⟨rfl, by omega, by omega⟩), Int.toNat_natCast, hc, if_neg (show ¬ ((26 : Int) < 0 ∨ 32 < (26 : Int)) by decide), if_neg (show ¬ (26 : Int) = 0 by decide), if_neg (show ¬ (26 : Int) = 1 by decide), if_neg (show ¬ (26 : Int) = 2 by decide), if_neg (show ¬ (26 : Int) = 3 by decide), if_neg (show ¬ (26 : Int) = 4 by decide), if_neg (show ¬ (26 : Int) = 5 by decide), if_neg (show ¬ (26 : Int) = 6 by decide), if_neg (show ¬ (26 : Int) = 7 by decide), if_neg (show ¬ (26 : Int) = 8 by decide), if_neg (show ¬ (26 : Int) = 9 by decide), if_neg (show ¬ (26 : Int) = 10 by decide), if_neg (show ¬ (26 : Int) = 11 by decide), if_neg (show ¬ (26 : Int) = 12 by decide), if_neg (show ¬ (26 : Int) = 13 by decide), if_neg (show ¬ (26 : Int) = 14 by decide), if_neg (show ¬ (26 : Int) = 15 by decide), if_neg (show ¬ (26 : Int) = 16 by decide), if_neg (show ¬ (26 : Int) = 17 by decide), if_neg (show ¬ (26 : Int) = 18 by decide), if_neg (show ¬ (26 : Int) = 19 by decide), if_neg (show ¬ (26 : Int) = 20 by decide), if_neg (show ¬ (26 : Int) = 21 by decide), if_neg (show ¬ (26 : Int) = 22 by decide), if_neg (show ¬ (26 : Int) = 23 by decide), if_neg (show ¬ (26 : Int) = 24 by decide), if_neg (show ¬ (26 : Int) = 25 by decide), if_pos (show (26 : Int) = 26 from rfl)]
  simp only [w6, w1, Int.toNat_natCast]
  rw [if_pos (show True ∧ 0 ≤ ((6 * i + 1 : Nat) : Int) ∧ ((6 * i + 1 : Nat) : Int) < (N : Int) from ⟨trivial, by omega, by omega⟩)]
  rw [lett_eq, e1]
  simp only [s0, hg1]
  rw [if_pos (show True ∧ 0 ≤ ((6 * i + 1 : Nat) : Int) ∧ ((6 * i + 1 : Nat) : Int) < (N : Int) from ⟨trivial, by omega, by omega⟩)]
  rw [e2, ob_eq]
  simp only [if_true]
theorem lw_put {K : Gx → Option (Int × Gx)} {n i N : Nat} {g g1 g2 : Gx} {r : Int} (hN : N ≤ 3072) (hg : g 1001 0 = (N : Int)) (hi : 6 * i + 5 < N) (hc : jand (g 1000 (6 * i)) 63 = 27) (e1 : Op_put (g 1000 (6 * i + 1)) (g 1000 (6 * i + 2)) (g 1000 (6 * i + 3)) (g 1000 (6 * i + 4)) g = (r, g1)) (s0 : g1 1000 = g 1000) (s1 : g1 1001 = g 1001) (e2 : Md_put (g 1000 (6 * i + 1)) (g 1000 (6 * i + 2)) (g 1000 (6 * i + 3)) (g 1000 (6 * i + 4)) g1 = some (r, g2)) : Law_law_l18 K (n + 1) ((6 * i : Nat) : Int) g = Law_law_l18 K n ((6 * (i + 1) : Nat) : Int) g2 := by
  have hg1 : g1 1001 0 = (N : Int) := by rw [s1]; exact hg
  have w6 : wr (((6 * i : Nat) : Int) + 6) = ((6 * (i + 1) : Nat) : Int) := by rw [wr_id (by omega) (by omega)]; omega
  have w1 : wr (((6 * i : Nat) : Int) + 1) = ((6 * i + 1 : Nat) : Int) := lw_w hN hi 1 (by decide)
  have w2 : wr (((6 * i : Nat) : Int) + 2) = ((6 * i + 2 : Nat) : Int) := lw_w hN hi 2 (by decide)
  have w3 : wr (((6 * i : Nat) : Int) + 3) = ((6 * i + 3 : Nat) : Int) := lw_w hN hi 3 (by decide)
  have w4 : wr (((6 * i : Nat) : Int) + 4) = ((6 * i + 4 : Nat) : Int) := lw_w hN hi 4 (by decide)
  rw [Law_law_l18, hg, wr_id (x := (N : Int) - 6) (by omega) (by omega), if_neg (show ¬ (N : Int) - 6 < ((6 * i : Nat) : Int) by omega), if_pos (show (1000 : Nat) = 1000 ∧ 0 ≤ ((6 * i : Nat) : Int) ∧ ((6 * i : Nat) : Int) < (N : Int) from ⟨rfl, by omega, by omega⟩), Int.toNat_natCast, hc, if_neg (show ¬ ((27 : Int) < 0 ∨ 32 < (27 : Int)) by decide), if_neg (show ¬ (27 : Int) = 0 by decide), if_neg (show ¬ (27 : Int) = 1 by decide), if_neg (show ¬ (27 : Int) = 2 by decide), if_neg (show ¬ (27 : Int) = 3 by decide), if_neg (show ¬ (27 : Int) = 4 by decide), if_neg (show ¬ (27 : Int) = 5 by decide), if_neg (show ¬ (27 : Int) = 6 by decide), if_neg (show ¬ (27 : Int) = 7 by decide), if_neg (show ¬ (27 : Int) = 8 by decide), if_neg (show ¬ (27 : Int) = 9 by decide), if_neg (show ¬ (27 : Int) = 10 by decide), if_neg (show ¬ (27 : Int) = 11 by decide), if_neg (show ¬ (27 : Int) = 12 by decide), if_neg (show ¬ (27 : Int) = 13 by decide), if_neg (show ¬ (27 : Int) = 14 by decide), if_neg (show ¬ (27 : Int) = 15 by decide), if_neg (show ¬ (27 : Int) = 16 by decide), if_neg (show ¬ (27 : Int) = 17 by decide), if_neg (show ¬ (27 : Int) = 18 by decide), if_neg (show ¬ (27 : Int) = 19 by decide), if_neg (show ¬ (27 : Int) = 20 by decide), if_neg (show ¬ (27 : Int) = 21 by decide), if_neg (show ¬ (27 : Int) = 22 by decide), if_neg (show ¬ (27 : Int) = 23 by decide), if_neg (show ¬ (27 : Int) = 24 by decide), if_neg (show ¬ (27 : Int) = 25 by decide), if_neg (show ¬ (27 : Int) = 26 by decide), if_pos (show (27 : Int) = 27 from rfl)]
  simp only [w6, w1, w2, w3, w4, Int.toNat_natCast]
  rw [if_pos (show True ∧ 0 ≤ ((6 * i + 1 : Nat) : Int) ∧ ((6 * i + 1 : Nat) : Int) < (N : Int) from ⟨trivial, by omega, by omega⟩)]
  rw [if_pos (show True ∧ 0 ≤ ((6 * i + 2 : Nat) : Int) ∧ ((6 * i + 2 : Nat) : Int) < (N : Int) from ⟨trivial, by omega, by omega⟩)]
  rw [if_pos (show True ∧ 0 ≤ ((6 * i + 3 : Nat) : Int) ∧ ((6 * i + 3 : Nat) : Int) < (N : Int) from ⟨trivial, by omega, by omega⟩)]
  rw [if_pos (show True ∧ 0 ≤ ((6 * i + 4 : Nat) : Int) ∧ ((6 * i + 4 : Nat) : Int) < (N : Int) from ⟨trivial, by omega, by omega⟩)]
  rw [lett_eq, e1]
  simp only [s0, hg1]
  rw [if_pos (show True ∧ 0 ≤ ((6 * i + 1 : Nat) : Int) ∧ ((6 * i + 1 : Nat) : Int) < (N : Int) from ⟨trivial, by omega, by omega⟩)]
  rw [if_pos (show True ∧ 0 ≤ ((6 * i + 2 : Nat) : Int) ∧ ((6 * i + 2 : Nat) : Int) < (N : Int) from ⟨trivial, by omega, by omega⟩)]
  rw [if_pos (show True ∧ 0 ≤ ((6 * i + 3 : Nat) : Int) ∧ ((6 * i + 3 : Nat) : Int) < (N : Int) from ⟨trivial, by omega, by omega⟩)]
  rw [if_pos (show True ∧ 0 ≤ ((6 * i + 4 : Nat) : Int) ∧ ((6 * i + 4 : Nat) : Int) < (N : Int) from ⟨trivial, by omega, by omega⟩)]
  rw [e2, ob_eq]
  simp only [if_true]
theorem lw_get {K : Gx → Option (Int × Gx)} {n i N : Nat} {g g1 g2 : Gx} {r : Int} (hN : N ≤ 3072) (hg : g 1001 0 = (N : Int)) (hi : 6 * i + 5 < N) (hc : jand (g 1000 (6 * i)) 63 = 28) (e1 : Op_get (g 1000 (6 * i + 1)) (g 1000 (6 * i + 2)) (g 1000 (6 * i + 3)) g = (r, g1)) (s0 : g1 1000 = g 1000) (s1 : g1 1001 = g 1001) (e2 : Md_get (g 1000 (6 * i + 1)) (g 1000 (6 * i + 2)) (g 1000 (6 * i + 3)) g1 = some (r, g2)) : Law_law_l18 K (n + 1) ((6 * i : Nat) : Int) g = Law_law_l18 K n ((6 * (i + 1) : Nat) : Int) g2 := by
  have hg1 : g1 1001 0 = (N : Int) := by rw [s1]; exact hg
  have w6 : wr (((6 * i : Nat) : Int) + 6) = ((6 * (i + 1) : Nat) : Int) := by rw [wr_id (by omega) (by omega)]; omega
  have w1 : wr (((6 * i : Nat) : Int) + 1) = ((6 * i + 1 : Nat) : Int) := lw_w hN hi 1 (by decide)
  have w2 : wr (((6 * i : Nat) : Int) + 2) = ((6 * i + 2 : Nat) : Int) := lw_w hN hi 2 (by decide)
  have w3 : wr (((6 * i : Nat) : Int) + 3) = ((6 * i + 3 : Nat) : Int) := lw_w hN hi 3 (by decide)
  rw [Law_law_l18, hg, wr_id (x := (N : Int) - 6) (by omega) (by omega), if_neg (show ¬ (N : Int) - 6 < ((6 * i : Nat) : Int) by omega), if_pos (show (1000 : Nat) = 1000 ∧ 0 ≤ ((6 * i : Nat) : Int) ∧ ((6 * i : Nat) : Int) < (N : Int) from ⟨rfl, by omega, by omega⟩), Int.toNat_natCast, hc, if_neg (show ¬ ((28 : Int) < 0 ∨ 32 < (28 : Int)) by decide), if_neg (show ¬ (28 : Int) = 0 by decide), if_neg (show ¬ (28 : Int) = 1 by decide), if_neg (show ¬ (28 : Int) = 2 by decide), if_neg (show ¬ (28 : Int) = 3 by decide), if_neg (show ¬ (28 : Int) = 4 by decide), if_neg (show ¬ (28 : Int) = 5 by decide), if_neg (show ¬ (28 : Int) = 6 by decide), if_neg (show ¬ (28 : Int) = 7 by decide), if_neg (show ¬ (28 : Int) = 8 by decide), if_neg (show ¬ (28 : Int) = 9 by decide), if_neg (show ¬ (28 : Int) = 10 by decide), if_neg (show ¬ (28 : Int) = 11 by decide), if_neg (show ¬ (28 : Int) = 12 by decide), if_neg (show ¬ (28 : Int) = 13 by decide), if_neg (show ¬ (28 : Int) = 14 by decide), if_neg (show ¬ (28 : Int) = 15 by decide), if_neg (show ¬ (28 : Int) = 16 by decide), if_neg (show ¬ (28 : Int) = 17 by decide), if_neg (show ¬ (28 : Int) = 18 by decide), if_neg (show ¬ (28 : Int) = 19 by decide), if_neg (show ¬ (28 : Int) = 20 by decide), if_neg (show ¬ (28 : Int) = 21 by decide), if_neg (show ¬ (28 : Int) = 22 by decide), if_neg (show ¬ (28 : Int) = 23 by decide), if_neg (show ¬ (28 : Int) = 24 by decide), if_neg (show ¬ (28 : Int) = 25 by decide), if_neg (show ¬ (28 : Int) = 26 by decide), if_neg (show ¬ (28 : Int) = 27 by decide), if_pos (show (28 : Int) = 28 from rfl)]
  simp only [w6, w1, w2, w3, Int.toNat_natCast]
  rw [if_pos (show True ∧ 0 ≤ ((6 * i + 1 : Nat) : Int) ∧ ((6 * i + 1 : Nat) : Int) < (N : Int) from ⟨trivial, by omega, by omega⟩)]
  rw [if_pos (show True ∧ 0 ≤ ((6 * i + 2 : Nat) : Int) ∧ ((6 * i + 2 : Nat) : Int) < (N : Int) from ⟨trivial, by omega, by omega⟩)]
  rw [if_pos (show True ∧ 0 ≤ ((6 * i + 3 : Nat) : Int) ∧ ((6 * i + 3 : Nat) : Int) < (N : Int) from ⟨trivial, by omega, by omega⟩)]
  rw [lett_eq, e1]
  simp only [s0, hg1]
  rw [if_pos (show True ∧ 0 ≤ ((6 * i + 1 : Nat) : Int) ∧ ((6 * i + 1 : Nat) : Int) < (N : Int) from ⟨trivial, by omega, by omega⟩)]
  rw [if_pos (show True ∧ 0 ≤ ((6 * i + 2 : Nat) : Int) ∧ ((6 * i + 2 : Nat) : Int) < (N : Int) from ⟨trivial, by omega, by omega⟩)]
  rw [if_pos (show True ∧ 0 ≤ ((6 * i + 3 : Nat) : Int) ∧ ((6 * i + 3 : Nat) : Int) < (N : Int) from ⟨trivial, by omega, by omega⟩)]
  rw [e2, ob_eq]
  simp only [if_true]
theorem lw_copy {K : Gx → Option (Int × Gx)} {n i N : Nat} {g g1 g2 : Gx} {r : Int} (hN : N ≤ 3072) (hg : g 1001 0 = (N : Int)) (hi : 6 * i + 5 < N) (hc : jand (g 1000 (6 * i)) 63 = 29) (e1 : Op_copy (g 1000 (6 * i + 1)) (g 1000 (6 * i + 2)) (g 1000 (6 * i + 3)) (g 1000 (6 * i + 4)) (g 1000 (6 * i + 5)) g = some (r, g1)) (s0 : g1 1000 = g 1000) (s1 : g1 1001 = g 1001) (e2 : Md_copy (g 1000 (6 * i + 1)) (g 1000 (6 * i + 2)) (g 1000 (6 * i + 3)) (g 1000 (6 * i + 4)) (g 1000 (6 * i + 5)) g1 = some (r, g2)) : Law_law_l18 K (n + 1) ((6 * i : Nat) : Int) g = Law_law_l18 K n ((6 * (i + 1) : Nat) : Int) g2 := by
  have hg1 : g1 1001 0 = (N : Int) := by rw [s1]; exact hg
  have w6 : wr (((6 * i : Nat) : Int) + 6) = ((6 * (i + 1) : Nat) : Int) := by rw [wr_id (by omega) (by omega)]; omega
  have w1 : wr (((6 * i : Nat) : Int) + 1) = ((6 * i + 1 : Nat) : Int) := lw_w hN hi 1 (by decide)
  have w2 : wr (((6 * i : Nat) : Int) + 2) = ((6 * i + 2 : Nat) : Int) := lw_w hN hi 2 (by decide)
  have w3 : wr (((6 * i : Nat) : Int) + 3) = ((6 * i + 3 : Nat) : Int) := lw_w hN hi 3 (by decide)
  have w4 : wr (((6 * i : Nat) : Int) + 4) = ((6 * i + 4 : Nat) : Int) := lw_w hN hi 4 (by decide)
  have w5 : wr (((6 * i : Nat) : Int) + 5) = ((6 * i + 5 : Nat) : Int) := lw_w hN hi 5 (by decide)
  rw [Law_law_l18, hg, wr_id (x := (N : Int) - 6) (by omega) (by omega), if_neg (show ¬ (N : Int) - 6 < ((6 * i : Nat) : Int) by omega), if_pos (show (1000 : Nat) = 1000 ∧ 0 ≤ ((6 * i : Nat) : Int) ∧ ((6 * i : Nat) : Int) < (N : Int) from ⟨rfl, by omega, by omega⟩), Int.toNat_natCast, hc, if_neg (show ¬ ((29 : Int) < 0 ∨ 32 < (29 : Int)) by decide), if_neg (show ¬ (29 : Int) = 0 by decide), if_neg (show ¬ (29 : Int) = 1 by decide), if_neg (show ¬ (29 : Int) = 2 by decide), if_neg (show ¬ (29 : Int) = 3 by decide), if_neg (show ¬ (29 : Int) = 4 by decide), if_neg (show ¬ (29 : Int) = 5 by decide), if_neg (show ¬ (29 : Int) = 6 by decide), if_neg (show ¬ (29 : Int) = 7 by decide), if_neg (show ¬ (29 : Int) = 8 by decide), if_neg (show ¬ (29 : Int) = 9 by decide), if_neg (show ¬ (29 : Int) = 10 by decide), if_neg (show ¬ (29 : Int) = 11 by decide), if_neg (show ¬ (29 : Int) = 12 by decide), if_neg (show ¬ (29 : Int) = 13 by decide), if_neg (show ¬ (29 : Int) = 14 by decide), if_neg (show ¬ (29 : Int) = 15 by decide), if_neg (show ¬ (29 : Int) = 16 by decide), if_neg (show ¬ (29 : Int) = 17 by decide), if_neg (show ¬ (29 : Int) = 18 by decide), if_neg (show ¬ (29 : Int) = 19 by decide), if_neg (show ¬ (29 : Int) = 20 by decide), if_neg (show ¬ (29 : Int) = 21 by decide), if_neg (show ¬ (29 : Int) = 22 by decide), if_neg (show ¬ (29 : Int) = 23 by decide), if_neg (show ¬ (29 : Int) = 24 by decide), if_neg (show ¬ (29 : Int) = 25 by decide), if_neg (show ¬ (29 : Int) = 26 by decide), if_neg (show ¬ (29 : Int) = 27 by decide), if_neg (show ¬ (29 : Int) = 28 by decide), if_pos (show (29 : Int) = 29 from rfl)]
  simp only [w6, w1, w2, w3, w4, w5, Int.toNat_natCast]
  rw [if_pos (show True ∧ 0 ≤ ((6 * i + 1 : Nat) : Int) ∧ ((6 * i + 1 : Nat) : Int) < (N : Int) from ⟨trivial, by omega, by omega⟩)]
  rw [if_pos (show True ∧ 0 ≤ ((6 * i + 2 : Nat) : Int) ∧ ((6 * i + 2 : Nat) : Int) < (N : Int) from ⟨trivial, by omega, by omega⟩)]
  rw [if_pos (show True ∧ 0 ≤ ((6 * i + 3 : Nat) : Int) ∧ ((6 * i + 3 : Nat) : Int) < (N : Int) from ⟨trivial, by omega, by omega⟩)]
  rw [if_pos (show True ∧ 0 ≤ ((6 * i + 4 : Nat) : Int) ∧ ((6 * i + 4 : Nat) : Int) < (N : Int) from ⟨trivial, by omega, by omega⟩)]
  rw [if_pos (show True ∧ 0 ≤ ((6 * i + 5 : Nat) : Int) ∧ ((6 * i + 5 : Nat) : Int) < (N : Int) from ⟨trivial, by omega, by omega⟩)]
  rw [e1, ob_eq]
  simp only [s0, hg1]
  rw [if_pos (show True ∧ 0 ≤ ((6 * i + 1 : Nat) : Int) ∧ ((6 * i + 1 : Nat) : Int) < (N : Int) from ⟨trivial, by omega, by omega⟩)]
  rw [if_pos (show True ∧ 0 ≤ ((6 * i + 2 : Nat) : Int) ∧ ((6 * i + 2 : Nat) : Int) < (N : Int) from ⟨trivial, by omega, by omega⟩)]
  rw [if_pos (show True ∧ 0 ≤ ((6 * i + 3 : Nat) : Int) ∧ ((6 * i + 3 : Nat) : Int) < (N : Int) from ⟨trivial, by omega, by omega⟩)]
  rw [if_pos (show True ∧ 0 ≤ ((6 * i + 4 : Nat) : Int) ∧ ((6 * i + 4 : Nat) : Int) < (N : Int) from ⟨trivial, by omega, by omega⟩)]
  rw [if_pos (show True ∧ 0 ≤ ((6 * i + 5 : Nat) : Int) ∧ ((6 * i + 5 : Nat) : Int) < (N : Int) from ⟨trivial, by omega, by omega⟩)]
  rw [e2, ob_eq]
  simp only [if_true]
theorem lw_write {K : Gx → Option (Int × Gx)} {n i N : Nat} {g g1 g2 : Gx} {r : Int} (hN : N ≤ 3072) (hg : g 1001 0 = (N : Int)) (hi : 6 * i + 5 < N) (hc : jand (g 1000 (6 * i)) 63 = 30) (e1 : Op_write (g 1000 (6 * i + 1)) (g 1000 (6 * i + 2)) g = some (r, g1)) (s0 : g1 1000 = g 1000) (s1 : g1 1001 = g 1001) (e2 : Md_write (g 1000 (6 * i + 1)) (g 1000 (6 * i + 2)) g1 = some (r, g2)) : Law_law_l18 K (n + 1) ((6 * i : Nat) : Int) g = Law_law_l18 K n ((6 * (i + 1) : Nat) : Int) g2 := by
  have hg1 : g1 1001 0 = (N : Int) := by rw [s1]; exact hg
  have w6 : wr (((6 * i : Nat) : Int) + 6) = ((6 * (i + 1) : Nat) : Int) := by rw [wr_id (by omega) (by omega)]; omega
  have w1 : wr (((6 * i : Nat) : Int) + 1) = ((6 * i + 1 : Nat) : Int) := lw_w hN hi 1 (by decide)
  have w2 : wr (((6 * i : Nat) : Int) + 2) = ((6 * i + 2 : Nat) : Int) := lw_w hN hi 2 (by decide)
  rw [Law_law_l18, hg, wr_id (x := (N : Int) - 6) (by omega) (by omega), if_neg (show ¬ (N : Int) - 6 < ((6 * i : Nat) : Int) by omega), if_pos (show (1000 : Nat) = 1000 ∧ 0 ≤ ((6 * i : Nat) : Int) ∧ ((6 * i : Nat) : Int) < (N : Int) from ⟨rfl, by omega, by omega⟩), Int.toNat_natCast, hc, if_neg (show ¬ ((30 : Int) < 0 ∨ 32 < (30 : Int)) by decide), if_neg (show ¬ (30 : Int) = 0 by decide), if_neg (show ¬ (30 : Int) = 1 by decide), if_neg (show ¬ (30 : Int) = 2 by decide), if_neg (show ¬ (30 : Int) = 3 by decide), if_neg (show ¬ (30 : Int) = 4 by decide), if_neg (show ¬ (30 : Int) = 5 by decide), if_neg (show ¬ (30 : Int) = 6 by decide), if_neg (show ¬ (30 : Int) = 7 by decide), if_neg (show ¬ (30 : Int) = 8 by decide), if_neg (show ¬ (30 : Int) = 9 by decide), if_neg (show ¬ (30 : Int) = 10 by decide), if_neg (show ¬ (30 : Int) = 11 by decide), if_neg (show ¬ (30 : Int) = 12 by decide), if_neg (show ¬ (30 : Int) = 13 by decide), if_neg (show ¬ (30 : Int) = 14 by decide), if_neg (show ¬ (30 : Int) = 15 by decide), if_neg (show ¬ (30 : Int) = 16 by decide), if_neg (show ¬ (30 : Int) = 17 by decide), if_neg (show ¬ (30 : Int) = 18 by decide), if_neg (show ¬ (30 : Int) = 19 by decide), if_neg (show ¬ (30 : Int) = 20 by decide), if_neg (show ¬ (30 : Int) = 21 by decide), if_neg (show ¬ (30 : Int) = 22 by decide), if_neg (show ¬ (30 : Int) = 23 by decide), if_neg (show ¬ (30 : Int) = 24 by decide), if_neg (show ¬ (30 : Int) = 25 by decide), if_neg (show ¬ (30 : Int) = 26 by decide), if_neg (show ¬ (30 : Int) = 27 by decide), if_neg (show ¬ (30 : Int) = 28 by decide), if_neg (show ¬ (30 : Int) = 29 by decide), if_pos (show (30 : Int) = 30 from rfl)]
  simp only [w6, w1, w2, Int.toNat_natCast]
  rw [if_pos (show True ∧ 0 ≤ ((6 * i + 1 : Nat) : Int) ∧ ((6 * i + 1 : Nat) : Int) < (N : Int) from ⟨trivial, by omega, by omega⟩)]
  rw [if_pos (show True ∧ 0 ≤ ((6 * i + 2 : Nat) : Int) ∧ ((6 * i + 2 : Nat) : Int) < (N : Int) from ⟨trivial, by omega, by omega⟩)]
  rw [e1, ob_eq]
  simp only [s0, hg1]
  rw [if_pos (show True ∧ 0 ≤ ((6 * i + 1 : Nat) : Int) ∧ ((6 * i + 1 : Nat) : Int) < (N : Int) from ⟨trivial, by omega, by omega⟩)]
  rw [if_pos (show True ∧ 0 ≤ ((6 * i + 2 : Nat) : Int) ∧ ((6 * i + 2 : Nat) : Int) < (N : Int) from ⟨trivial, by omega, by omega⟩)]
  rw [e2, ob_eq]
  simp only [if_true]
theorem lw_count {K : Gx → Option (Int × Gx)} {n i N : Nat} {g g1 g2 : Gx} {r : Int} (hN : N ≤ 3072) (hg : g 1001 0 = (N : Int)) (hi : 6 * i + 5 < N) (hc : jand (g 1000 (6 * i)) 63 = 31) (e1 : Op_count (g 1000 (6 * i + 1)) g = some (r, g1)) (s0 : g1 1000 = g 1000) (s1 : g1 1001 = g 1001) (e2 : Md_count (g 1000 (6 * i + 1)) g1 = some (r, g2)) : Law_law_l18 K (n + 1) ((6 * i : Nat) : Int) g = Law_law_l18 K n ((6 * (i + 1) : Nat) : Int) g2 := by
  have hg1 : g1 1001 0 = (N : Int) := by rw [s1]; exact hg
  have w6 : wr (((6 * i : Nat) : Int) + 6) = ((6 * (i + 1) : Nat) : Int) := by rw [wr_id (by omega) (by omega)]; omega
  have w1 : wr (((6 * i : Nat) : Int) + 1) = ((6 * i + 1 : Nat) : Int) := lw_w hN hi 1 (by decide)
  rw [Law_law_l18, hg, wr_id (x := (N : Int) - 6) (by omega) (by omega), if_neg (show ¬ (N : Int) - 6 < ((6 * i : Nat) : Int) by omega), if_pos (show (1000 : Nat) = 1000 ∧ 0 ≤ ((6 * i : Nat) : Int) ∧ ((6 * i : Nat) : Int) < (N : Int) from ⟨rfl, by omega, by omega⟩), Int.toNat_natCast, hc, if_neg (show ¬ ((31 : Int) < 0 ∨ 32 < (31 : Int)) by decide), if_neg (show ¬ (31 : Int) = 0 by decide), if_neg (show ¬ (31 : Int) = 1 by decide), if_neg (show ¬ (31 : Int) = 2 by decide), if_neg (show ¬ (31 : Int) = 3 by decide), if_neg (show ¬ (31 : Int) = 4 by decide), if_neg (show ¬ (31 : Int) = 5 by decide), if_neg (show ¬ (31 : Int) = 6 by decide), if_neg (show ¬ (31 : Int) = 7 by decide), if_neg (show ¬ (31 : Int) = 8 by decide), if_neg (show ¬ (31 : Int) = 9 by decide), if_neg (show ¬ (31 : Int) = 10 by decide), if_neg (show ¬ (31 : Int) = 11 by decide), if_neg (show ¬ (31 : Int) = 12 by decide), if_neg (show ¬ (31 : Int) = 13 by decide), if_neg (show ¬ (31 : Int) = 14 by decide), if_neg (show ¬ (31 : Int) = 15 by decide), if_neg (show ¬ (31 : Int) = 16 by decide), if_neg (show ¬ (31 : Int) = 17 by decide), if_neg (show ¬ (31 : Int) = 18 by decide), if_neg (show ¬ (31 : Int) = 19 by decide), if_neg (show ¬ (31 : Int) = 20 by decide), if_neg (show ¬ (31 : Int) = 21 by decide), if_neg (show ¬ (31 : Int) = 22 by decide), if_neg (show ¬ (31 : Int) = 23 by decide), if_neg (show ¬ (31 : Int) = 24 by decide), if_neg (show ¬ (31 : Int) = 25 by decide), if_neg (show ¬ (31 : Int) = 26 by decide), if_neg (show ¬ (31 : Int) = 27 by decide), if_neg (show ¬ (31 : Int) = 28 by decide), if_neg (show ¬ (31 : Int) = 29 by decide), if_neg (show ¬ (31 : Int) = 30 by decide), if_pos (show (31 : Int) = 31 from rfl)]
  simp only [w6, w1, Int.toNat_natCast]
  rw [if_pos (show True ∧ 0 ≤ ((6 * i + 1 : Nat) : Int) ∧ ((6 * i + 1 : Nat) : Int) < (N : Int) from ⟨trivial, by omega, by omega⟩)]
  rw [e1, ob_eq]
  simp only [s0, hg1]
  rw [if_pos (show True ∧ 0 ≤ ((6 * i + 1 : Nat) : Int) ∧ ((6 * i + 1 : Nat) : Int) < (N : Int) from ⟨trivial, by omega, by omega⟩)]
  rw [e2, ob_eq]
  simp only [if_true]
theorem lw_digest {K : Gx → Option (Int × Gx)} {n i N : Nat} {g g1 g2 : Gx} {r : Int} (hN : N ≤ 3072) (hg : g 1001 0 = (N : Int)) (hi : 6 * i + 5 < N) (hc : jand (g 1000 (6 * i)) 63 = 32) (e1 : Op_digest g = some (r, g1)) (s0 : g1 1000 = g 1000) (s1 : g1 1001 = g 1001) (e2 : Md_digest g1 = some (r, g2)) : Law_law_l18 K (n + 1) ((6 * i : Nat) : Int) g = Law_law_l18 K n ((6 * (i + 1) : Nat) : Int) g2 := by
  have hg1 : g1 1001 0 = (N : Int) := by rw [s1]; exact hg
  have w6 : wr (((6 * i : Nat) : Int) + 6) = ((6 * (i + 1) : Nat) : Int) := by rw [wr_id (by omega) (by omega)]; omega
  rw [Law_law_l18, hg, wr_id (x := (N : Int) - 6) (by omega) (by omega), if_neg (show ¬ (N : Int) - 6 < ((6 * i : Nat) : Int) by omega), if_pos (show (1000 : Nat) = 1000 ∧ 0 ≤ ((6 * i : Nat) : Int) ∧ ((6 * i : Nat) : Int) < (N : Int) from ⟨rfl, by omega, by omega⟩), Int.toNat_natCast, hc, if_neg (show ¬ ((32 : Int) < 0 ∨ 32 < (32 : Int)) by decide), if_neg (show ¬ (32 : Int) = 0 by decide), if_neg (show ¬ (32 : Int) = 1 by decide), if_neg (show ¬ (32 : Int) = 2 by decide), if_neg (show ¬ (32 : Int) = 3 by decide), if_neg (show ¬ (32 : Int) = 4 by decide), if_neg (show ¬ (32 : Int) = 5 by decide), if_neg (show ¬ (32 : Int) = 6 by decide), if_neg (show ¬ (32 : Int) = 7 by decide), if_neg (show ¬ (32 : Int) = 8 by decide), if_neg (show ¬ (32 : Int) = 9 by decide), if_neg (show ¬ (32 : Int) = 10 by decide), if_neg (show ¬ (32 : Int) = 11 by decide), if_neg (show ¬ (32 : Int) = 12 by decide), if_neg (show ¬ (32 : Int) = 13 by decide), if_neg (show ¬ (32 : Int) = 14 by decide), if_neg (show ¬ (32 : Int) = 15 by decide), if_neg (show ¬ (32 : Int) = 16 by decide), if_neg (show ¬ (32 : Int) = 17 by decide), if_neg (show ¬ (32 : Int) = 18 by decide), if_neg (show ¬ (32 : Int) = 19 by decide), if_neg (show ¬ (32 : Int) = 20 by decide), if_neg (show ¬ (32 : Int) = 21 by decide), if_neg (show ¬ (32 : Int) = 22 by decide), if_neg (show ¬ (32 : Int) = 23 by decide), if_neg (show ¬ (32 : Int) = 24 by decide), if_neg (show ¬ (32 : Int) = 25 by decide), if_neg (show ¬ (32 : Int) = 26 by decide), if_neg (show ¬ (32 : Int) = 27 by decide), if_neg (show ¬ (32 : Int) = 28 by decide), if_neg (show ¬ (32 : Int) = 29 by decide), if_neg (show ¬ (32 : Int) = 30 by decide), if_neg (show ¬ (32 : Int) = 31 by decide)]
  simp only [w6, Int.toNat_natCast]
  rw [e1, ob_eq]
  simp only [s0, hg1]
  rw [e2, ob_eq]
  simp only
  rw [if_pos (mcmp_eq.mpr rfl)]
