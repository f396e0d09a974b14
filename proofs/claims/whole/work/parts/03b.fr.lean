/-! What the methods leave as it was. Printed by wip/gen/gen_parts.py. -/
set_option maxRecDepth 100000 in
theorem fr_Md_moment (a1 : Int) (g : Gx) (r : Int) (g' : Gx) (h : Md_moment a1 g = some (r, g')) : FR [99, 100, 101, 102, 103, 104, 105, 110, 111, 112, 113, 114, 115, 116, 117, 118, 119, 120, 6896, 6897, 6904, 6905, 6906, 6908, 6914, 6923, 6924] g g' := by
  rw [Md_moment] at h
  by_cases hc : (Md_in a1 0 3) = 0
  · rw [if_pos hc] at h
    cases h
    exact (FR.rf _ _)
  · rw [if_neg hc] at h
    obtain ⟨q1, hq, h⟩ := Option.bind_eq_some_iff.mp h
    refine FR.tr (FR.rf _ _) (FR.tr (FR.cl (fr_Md_momentOf a1 g q1.1 q1.2 hq) (by decide)) ?_)
    cases h
    exact (FR.rf _ _)
set_option maxRecDepth 100000 in
theorem fr_Kn_findCandidates_l44 (c1 : Int) (c3 : Int) (c4 : Int) (c5 : Int) (K44_86 : Int → Gx → Option (Int × Gx)) (W : List Nat) (hW : ∀ c ∈ ([59] : List Nat), c ∈ W) (hK44_86 : ∀ (x2 : Int) (g : Gx) (r : Int) (g' : Gx), K44_86 x2 g = some (r, g') → FR W g g') : ∀ (n44 : Nat) (v2 v6 : Int) (g : Gx) (r : Int) (g' : Gx), Kn_findCandidates_l44 c1 c3 c4 c5 K44_86 n44 v2 v6 g = some (r, g') → FR W g g' := by
  intro n44
  induction n44 with
  | zero => intro v2 v6 g r g' h; cases h
  | succ n44 ih44 =>
    intro v2 v6 g r g' h
    rw [Kn_findCandidates_l44] at h
    by_cases hc : 6 ≤ v6
    · rw [if_pos hc] at h
      exact FR.tr (FR.rf _ _) (hK44_86 v2 g r g' h)
    · rw [if_neg hc] at h
      by_cases hc : (Op_has c5 v6) = 0
      · rw [if_pos hc] at h
        exact FR.tr (FR.rf _ _) (ih44 v2 (wr (v6 + 1)) g r g' h)
      · rw [if_neg hc] at h
        exact FR.tr (FR.rs (FR.rf _ _) (hW _ (by decide))) (ih44 (wr (v2 + 1)) (wr (v6 + 1)) (rset g 59 6 v2 (wr ((wr (c4 * 6)) + v6))) r g' h)
set_option maxRecDepth 100000 in
theorem fr_Kn_findCandidates_l17 (c1 : Int) (c3 : Int) (K17_92 : Int → Gx → Option (Int × Gx)) (W : List Nat) (hW : ∀ c ∈ ([59] : List Nat), c ∈ W) (hK17_92 : ∀ (x2 : Int) (g : Gx) (r : Int) (g' : Gx), K17_92 x2 g = some (r, g') → FR W g g') : ∀ (n17 : Nat) (v2 v4 : Int) (g : Gx) (r : Int) (g' : Gx), Kn_findCandidates_l17 c1 c3 K17_92 n17 v2 v4 g = some (r, g') → FR W g g' := by
  intro n17
  induction n17 with
  | zero => intro v2 v4 g r g' h; cases h
  | succ n17 ih17 =>
    intro v2 v4 g r g' h
    rw [Kn_findCandidates_l17] at h
    by_cases hc : c3 ≤ v4
    · rw [if_pos hc] at h
      exact FR.tr (FR.rf _ _) (hK17_92 v2 g r g' h)
    · rw [if_neg hc] at h
      refine FR.tr (FR.rf _ _) (fr_Kn_findCandidates_l44 c1 c3 v4 (St_toldOf v4 (jshl c1 (wr (v4 * 6))) g) _ W (sub_tr (by decide) hW) ?_ fu v2 0 g r g' h)
      · intro x1 g2 r g' h
        exact FR.tr (FR.rf _ _) (ih17 x1 (wr (v4 + 1)) g2 r g' h)
set_option maxRecDepth 100000 in
theorem fr_Kn_findCandidates (a1 : Int) (g : Gx) (r : Int) (g' : Gx) (h : Kn_findCandidates a1 g = some (r, g')) : FR [59] g g' := by
  rw [Kn_findCandidates] at h
  refine FR.tr (FR.rf _ _) (fr_Kn_findCandidates_l17 a1 (imin 5 (St_choices g)) _ [59] (by decide) ?_ fu 0 0 g r g' h)
  · intro x3 g4 r g' h
    cases h
    exact (FR.rf _ _)
set_option maxRecDepth 100000 in
theorem fr_Kn_bitsOf_l4 (c1 : Int) (K4_37 : Int → Gx → Option (Int × Gx)) (W : List Nat) (hW : ∀ c ∈ ([] : List Nat), c ∈ W) (hK4_37 : ∀ (x2 : Int) (g : Gx) (r : Int) (g' : Gx), K4_37 x2 g = some (r, g') → FR W g g') : ∀ (n4 : Nat) (v2 v3 : Int) (g : Gx) (r : Int) (g' : Gx), Kn_bitsOf_l4 c1 K4_37 n4 v2 v3 g = some (r, g') → FR W g g' := by
  intro n4
  induction n4 with
  | zero => intro v2 v3 g r g' h; cases h
  | succ n4 ih4 =>
    intro v2 v3 g r g' h
    rw [Kn_bitsOf_l4] at h
    by_cases hc : 6 ≤ v3
    · rw [if_pos hc] at h
      exact FR.tr (FR.rf _ _) (hK4_37 v2 g r g' h)
    · rw [if_neg hc] at h
      by_cases hc : (Op_has c1 v3) = 0
      · rw [if_pos hc] at h
        exact FR.tr (FR.rf _ _) (ih4 v2 (wr (v3 + 1)) g r g' h)
      · rw [if_neg hc] at h
        exact FR.tr (FR.rf _ _) (ih4 (jor v2 (jshl 1 (rat g 59 6 v3))) (wr (v3 + 1)) g r g' h)
set_option maxRecDepth 100000 in
theorem fr_Kn_bitsOf (a1 : Int) (g : Gx) (r : Int) (g' : Gx) (h : Kn_bitsOf a1 g = some (r, g')) : FR [] g g' := by
  rw [Kn_bitsOf] at h
  refine FR.tr (FR.rf _ _) (fr_Kn_bitsOf_l4 a1 _ [] (by decide) ?_ fu 0 0 g r g' h)
  · intro x1 g2 r g' h
    cases h
    exact (FR.rf _ _)
set_option maxRecDepth 100000 in
theorem fr_Kn_leastOfSize_l2 (c1 : Int) (c2 : Int) (K2_60 : Gx → Option (Int × Gx)) (W : List Nat) (hW : ∀ c ∈ ([21, 23, 25, 27, 35, 37, 39, 41, 43, 45, 47, 49, 52, 54, 57, 3121, 3122, 3123, 3124, 3125, 3126, 3127, 3128, 4525] : List Nat), c ∈ W) (hK2_60 : ∀ (g : Gx) (r : Int) (g' : Gx), K2_60 g = some (r, g') → FR W g g') : ∀ (n2 : Nat) (v3 : Int) (g : Gx) (r : Int) (g' : Gx), Kn_leastOfSize_l2 c1 c2 K2_60 n2 v3 g = some (r, g') → FR W g g' := by
  intro n2
  induction n2 with
  | zero => intro v3 g r g' h; cases h
  | succ n2 ih2 =>
    intro v3 g r g' h
    rw [Kn_leastOfSize_l2] at h
    by_cases hc : (jshl 1 c2) ≤ v3
    · rw [if_pos hc] at h
      exact FR.tr (FR.rf _ _) (hK2_60 g r g' h)
    · rw [if_neg hc] at h
      by_cases hc : ¬ (Ji_bitCount v3) = c1
      · rw [if_pos hc] at h
        exact FR.tr (FR.rf _ _) (ih2 (wr (v3 + 1)) g r g' h)
      · rw [if_neg hc] at h
        obtain ⟨q1, hq, h⟩ := Option.bind_eq_some_iff.mp h
        refine FR.tr (FR.rf _ _) (FR.tr (FR.cl (fr_Kn_bitsOf v3 g q1.1 q1.2 hq) (sub_tr (by decide) hW)) ?_)
        obtain ⟨q2, hq, h⟩ := Option.bind_eq_some_iff.mp h
        refine FR.tr (FR.rf _ _) (FR.tr (FR.cl (fr_Hi_make q1.1 q1.2 q2.1 q2.2 hq) (sub_tr (by decide) hW)) ?_)
        by_cases hc : q2.1 = 0
        · rw [if_pos hc] at h
          exact FR.tr (FR.rf _ _) (ih2 (wr (v3 + 1)) q2.2 r g' h)
        · rw [if_neg hc] at h
          obtain ⟨g3, hq, h⟩ := Option.bind_eq_some_iff.mp h
          refine FR.tr (FR.rf _ _) (FR.tr (FR.cl (fr_Kn_search q2.2 g3 hq) (sub_tr (by decide) hW)) ?_)
          by_cases hc : ¬ (rat g3 57 4 0) = (-1)
          · rw [if_pos hc] at h
            exact FR.tr (FR.rf _ _) (ih2 (wr (v3 + 1)) g3 r g' h)
          · rw [if_neg hc] at h
            obtain ⟨q4, hq, h⟩ := Option.bind_eq_some_iff.mp h
            refine FR.tr (FR.rf _ _) (FR.tr (FR.cl (fr_Kn_bitsOf v3 g3 q4.1 q4.2 hq) (sub_tr (by decide) hW)) ?_)
            cases h
            exact (FR.rf _ _)
set_option maxRecDepth 100000 in
theorem fr_Kn_leastOfSize (a1 a2 : Int) (g : Gx) (r : Int) (g' : Gx) (h : Kn_leastOfSize a1 a2 g = some (r, g')) : FR [21, 23, 25, 27, 35, 37, 39, 41, 43, 45, 47, 49, 52, 54, 57, 3121, 3122, 3123, 3124, 3125, 3126, 3127, 3128, 4525] g g' := by
  rw [Kn_leastOfSize] at h
  refine FR.tr (FR.rf _ _) (fr_Kn_leastOfSize_l2 a1 a2 _ [21, 23, 25, 27, 35, 37, 39, 41, 43, 45, 47, 49, 52, 54, 57, 3121, 3122, 3123, 3124, 3125, 3126, 3127, 3128, 4525] (by decide) ?_ fu 0 g r g' h)
  · intro g5 r g' h
    cases h
    exact (FR.rf _ _)
set_option maxRecDepth 100000 in
theorem fr_Kn_fewestTellings_l65 (c2 : Int) (K65_94 : Gx → Option (Int × Gx)) (W : List Nat) (hW : ∀ c ∈ ([21, 23, 25, 27, 35, 37, 39, 41, 43, 45, 47, 49, 52, 54, 57, 3121, 3122, 3123, 3124, 3125, 3126, 3127, 3128, 4525, 4527] : List Nat), c ∈ W) (hK65_94 : ∀ (g : Gx) (r : Int) (g' : Gx), K65_94 g = some (r, g') → FR W g g') : ∀ (n65 : Nat) (v3 : Int) (g : Gx) (r : Int) (g' : Gx), Kn_fewestTellings_l65 c2 K65_94 n65 v3 g = some (r, g') → FR W g g' := by
  intro n65
  induction n65 with
  | zero => intro v3 g r g' h; cases h
  | succ n65 ih65 =>
    intro v3 g r g' h
    rw [Kn_fewestTellings_l65] at h
    by_cases hc : c2 < v3
    · rw [if_pos hc] at h
      exact FR.tr (FR.rf _ _) (hK65_94 g r g' h)
    · rw [if_neg hc] at h
      by_cases hc : ¬ (g 55 7) = (-1)
      · rw [if_pos hc] at h
        exact FR.tr (FR.rf _ _) (hK65_94 g r g' h)
      · rw [if_neg hc] at h
        obtain ⟨q2, hq, h⟩ := Option.bind_eq_some_iff.mp h
        refine FR.tr (FR.rf _ _) (FR.tr (FR.cl (fr_Kn_leastOfSize v3 c2 g q2.1 q2.2 hq) (sub_tr (by decide) hW)) ?_)
        exact FR.tr (FR.go (FR.rf _ _) ⟨rfl, hW _ (by decide)⟩) (ih65 (wr (v3 + 1)) (gset q2.2 55 7 q2.1) r g' h)
set_option maxRecDepth 100000 in
theorem fr_Kn_fewestTellings (a1 : Int) (g : Gx) (r : Int) (g' : Gx) (h : Kn_fewestTellings a1 g = some (r, g')) : FR [21, 23, 25, 27, 35, 37, 39, 41, 43, 45, 47, 49, 52, 54, 57, 59, 3121, 3122, 3123, 3124, 3125, 3126, 3127, 3128, 4525, 4526, 4527] g g' := by
  rw [Kn_fewestTellings] at h
  by_cases hc : ¬ (g 55 6) = (St_version g)
  · rw [if_pos hc] at h
    obtain ⟨q1, hq, h⟩ := Option.bind_eq_some_iff.mp h
    refine FR.tr (FR.go (FR.rf _ _) ⟨rfl, by decide⟩) (FR.tr (FR.cl (fr_Kn_findCandidates a1 (gset g 55 6 (St_version g)) q1.1 q1.2 hq) (by decide)) ?_)
    by_cases hc : 6 < q1.1
    · rw [if_pos hc] at h
      refine FR.tr (FR.go (FR.rf _ _) ⟨rfl, by decide⟩) (fr_Kn_fewestTellings_l65 q1.1 _ [21, 23, 25, 27, 35, 37, 39, 41, 43, 45, 47, 49, 52, 54, 57, 59, 3121, 3122, 3123, 3124, 3125, 3126, 3127, 3128, 4525, 4526, 4527] (by decide) ?_ fu 0 (gset q1.2 55 7 (-4)) r g' h)
      · intro g3 r g' h
        cases h
        exact (FR.rf _ _)
    · rw [if_neg hc] at h
      obtain ⟨q4, hq, h⟩ := Option.bind_eq_some_iff.mp h
      refine FR.tr (FR.rf _ _) (FR.tr (FR.cl (fr_St_isTooMuch 0 q1.2 q4.1 q4.2 hq) (by decide)) ?_)
      by_cases hc : q4.1 = 0
      · rw [if_pos hc] at h
        refine FR.tr (FR.go (FR.rf _ _) ⟨rfl, by decide⟩) (fr_Kn_fewestTellings_l65 q1.1 _ [21, 23, 25, 27, 35, 37, 39, 41, 43, 45, 47, 49, 52, 54, 57, 59, 3121, 3122, 3123, 3124, 3125, 3126, 3127, 3128, 4525, 4526, 4527] (by decide) ?_ fu 0 (gset q4.2 55 7 (-1)) r g' h)
        · intro g5 r g' h
          cases h
          exact (FR.rf _ _)
      · rw [if_neg hc] at h
        refine FR.tr (FR.go (FR.rf _ _) ⟨rfl, by decide⟩) (fr_Kn_fewestTellings_l65 q1.1 _ [21, 23, 25, 27, 35, 37, 39, 41, 43, 45, 47, 49, 52, 54, 57, 59, 3121, 3122, 3123, 3124, 3125, 3126, 3127, 3128, 4525, 4526, 4527] (by decide) ?_ fu 0 (gset q4.2 55 7 (-4)) r g' h)
        · intro g6 r g' h
          cases h
          exact (FR.rf _ _)
  · rw [if_neg hc] at h
    cases h
    exact (FR.rf _ _)
set_option maxRecDepth 100000 in
theorem fr_Op_mended (g : Gx) (r : Int) (g' : Gx) (h : Op_mended g = some (r, g')) : FR [9, 11, 13, 15, 17, 19, 21, 23, 25, 27, 30, 32, 35, 37, 39, 41, 43, 45, 47, 49, 52, 54, 57, 59, 1458, 1459, 1460, 2796, 2797, 2798, 2799, 2800, 2801, 3121, 3122, 3123, 3124, 3125, 3126, 3127, 3128, 4525, 4526, 4527] g g' := by
  rw [Op_mended] at h
  obtain ⟨q1, hq, h⟩ := Option.bind_eq_some_iff.mp h
  refine FR.tr (FR.rf _ _) (FR.tr (FR.cl (fr_Pr_firstFault g q1.1 q1.2 hq) (by decide)) ?_)
  by_cases hc : q1.1 = (-1)
  · rw [if_pos hc] at h
    obtain ⟨q2, hq, h⟩ := Option.bind_eq_some_iff.mp h
    refine FR.tr (FR.rf _ _) (FR.tr (FR.cl (fr_Kn_fewestTellings (Pr_used q1.2) q1.2 q2.1 q2.2 hq) (by decide)) ?_)
    cases h
    exact (FR.rf _ _)
  · rw [if_neg hc] at h
    cases h
    exact (FR.rf _ _)
set_option maxRecDepth 100000 in
theorem fr_Md_ones_l4 (K4_20 : Int → Gx → Option (Int × Gx)) (W : List Nat) (hW : ∀ c ∈ ([] : List Nat), c ∈ W) (hK4_20 : ∀ (x1 : Int) (g : Gx) (r : Int) (g' : Gx), K4_20 x1 g = some (r, g') → FR W g g') : ∀ (n4 : Nat) (v1 v2 : Int) (g : Gx) (r : Int) (g' : Gx), Md_ones_l4 K4_20 n4 v1 v2 g = some (r, g') → FR W g g' := by
  intro n4
  induction n4 with
  | zero => intro v1 v2 g r g' h; cases h
  | succ n4 ih4 =>
    intro v1 v2 g r g' h
    rw [Md_ones_l4] at h
    by_cases hc : v2 = 0
    · rw [if_pos hc] at h
      exact FR.tr (FR.rf _ _) (hK4_20 v1 g r g' h)
    · rw [if_neg hc] at h
      exact FR.tr (FR.rf _ _) (ih4 (wr (v1 + 1)) (jand v2 (wr (v2 - 1))) g r g' h)
set_option maxRecDepth 100000 in
theorem fr_Md_ones (a0 : Int) (g : Gx) (r : Int) (g' : Gx) (h : Md_ones a0 g = some (r, g')) : FR [] g g' := by
  rw [Md_ones] at h
  refine FR.tr (FR.rf _ _) (fr_Md_ones_l4 _ [] (by decide) ?_ fu 0 a0 g r g' h)
  · intro x1 g2 r g' h
    cases h
    exact (FR.rf _ _)
set_option maxRecDepth 100000 in
theorem fr_Md_mended_l36 (c2 : Int) (K36_110 : Int → Gx → Option (Int × Gx)) (W : List Nat) (hW : ∀ c ∈ ([] : List Nat), c ∈ W) (hK36_110 : ∀ (x1 : Int) (g : Gx) (r : Int) (g' : Gx), K36_110 x1 g = some (r, g') → FR W g g') : ∀ (n36 : Nat) (v1 v3 : Int) (g : Gx) (r : Int) (g' : Gx), Md_mended_l36 c2 K36_110 n36 v1 v3 g = some (r, g') → FR W g g' := by
  intro n36
  induction n36 with
  | zero => intro v1 v3 g r g' h; cases h
  | succ n36 ih36 =>
    intro v1 v3 g r g' h
    rw [Md_mended_l36] at h
    by_cases hc : 6 ≤ v3
    · rw [if_pos hc] at h
      exact FR.tr (FR.rf _ _) (hK36_110 v1 g r g' h)
    · rw [if_neg hc] at h
      by_cases hc : 0 ≤ c2 ∧ c2 < 170
      · rw [if_pos hc] at h
        by_cases hc : ¬ (g 99 c2.toNat) = 1
        · rw [if_pos hc] at h
          exact FR.tr (FR.rf _ _) (hK36_110 v1 g r g' h)
        · rw [if_neg hc] at h
          by_cases hc : 0 ≤ c2 ∧ c2 < 170
          · rw [if_pos hc] at h
            by_cases hc : 5 ≤ (g 102 c2.toNat)
            · rw [if_pos hc] at h
              exact FR.tr (FR.rf _ _) (hK36_110 v1 g r g' h)
            · rw [if_neg hc] at h
              by_cases hc : 0 ≤ c2 ∧ c2 < 170
              · rw [if_pos hc] at h
                by_cases hc : v3 = (g 100 c2.toNat)
                · rw [if_pos hc] at h
                  exact FR.tr (FR.rf _ _) (ih36 (jor v1 0) (wr (v3 + 1)) g r g' h)
                · rw [if_neg hc] at h
                  by_cases hc : ¬ (jand (jshr (g 92 18) v3) 1) = 1
                  · rw [if_pos hc] at h
                    exact FR.tr (FR.rf _ _) (ih36 (jor v1 0) (wr (v3 + 1)) g r g' h)
                  · rw [if_neg hc] at h
                    by_cases hc : 0 ≤ c2 ∧ c2 < 170
                    · rw [if_pos hc] at h
                      exact FR.tr (FR.rf _ _) (ih36 (jor v1 (jshl 1 (wr ((wr (6 * (g 102 c2.toNat))) + v3)))) (wr (v3 + 1)) g r g' h)
                    · rw [if_neg hc] at h; cases h
              · rw [if_neg hc] at h; cases h
          · rw [if_neg hc] at h; cases h
      · rw [if_neg hc] at h; cases h
set_option maxRecDepth 100000 in
theorem fr_Md_mended_l26 (K26_116 : Int → Gx → Option (Int × Gx)) (W : List Nat) (hW : ∀ c ∈ ([] : List Nat), c ∈ W) (hK26_116 : ∀ (x1 : Int) (g : Gx) (r : Int) (g' : Gx), K26_116 x1 g = some (r, g') → FR W g g') : ∀ (n26 : Nat) (v1 v2 : Int) (g : Gx) (r : Int) (g' : Gx), Md_mended_l26 K26_116 n26 v1 v2 g = some (r, g') → FR W g g' := by
  intro n26
  induction n26 with
  | zero => intro v1 v2 g r g' h; cases h
  | succ n26 ih26 =>
    intro v1 v2 g r g' h
    rw [Md_mended_l26] at h
    by_cases hc : (g 92 9) ≤ v2
    · rw [if_pos hc] at h
      exact FR.tr (FR.rf _ _) (hK26_116 v1 g r g' h)
    · rw [if_neg hc] at h
      refine FR.tr (FR.rf _ _) (fr_Md_mended_l36 v2 _ W (sub_tr (by decide) hW) ?_ fu v1 0 g r g' h)
      · intro x3 g4 r g' h
        exact FR.tr (FR.rf _ _) (ih26 x3 (wr (v2 + 1)) g4 r g' h)
set_option maxRecDepth 100000 in
theorem fr_Md_mended_l135 (c1 : Int) (K135_193 : Int → Gx → Option (Int × Gx)) (W : List Nat) (hW : ∀ c ∈ ([110, 111, 112, 113, 114, 115, 116, 117, 118, 119, 120, 6914, 6923, 6924] : List Nat), c ∈ W) (hK135_193 : ∀ (x2 : Int) (g : Gx) (r : Int) (g' : Gx), K135_193 x2 g = some (r, g') → FR W g g') : ∀ (n135 : Nat) (v2 v3 v4 : Int) (g : Gx) (r : Int) (g' : Gx), Md_mended_l135 c1 K135_193 n135 v2 v3 v4 g = some (r, g') → FR W g g' := by
  intro n135
  induction n135 with
  | zero => intro v2 v3 v4 g r g' h; cases h
  | succ n135 ih135 =>
    intro v2 v3 v4 g r g' h
    rw [Md_mended_l135] at h
    by_cases hc : v4 = 0
    · rw [if_pos hc] at h
      exact FR.tr (FR.rf _ _) (hK135_193 v2 g r g' h)
    · rw [if_neg hc] at h
      by_cases hc : v2 = (-1)
      · rw [if_pos hc] at h
        obtain ⟨q8, hq, h⟩ := Option.bind_eq_some_iff.mp h
        refine FR.tr (FR.rf _ _) (FR.tr (FR.cl (fr_Md_unfolds v3 g q8.1 q8.2 hq) (sub_tr (by decide) hW)) ?_)
        by_cases hc : ¬ q8.1 = 0
        · rw [if_pos hc] at h
          by_cases hc : (jand (wr (v3 - c1)) c1) = 0
          · rw [if_pos hc] at h
            exact FR.tr (FR.rf _ _) (ih135 v2 (jand (wr (v3 - c1)) c1) 0 q8.2 r g' h)
          · rw [if_neg hc] at h
            exact FR.tr (FR.rf _ _) (ih135 v2 (jand (wr (v3 - c1)) c1) 1 q8.2 r g' h)
        · rw [if_neg hc] at h
          obtain ⟨q9, hq, h⟩ := Option.bind_eq_some_iff.mp h
          refine FR.tr (FR.rf _ _) (FR.tr (FR.cl (fr_Md_isSound q8.2 q9.1 q9.2 hq) (sub_tr (by decide) hW)) ?_)
          obtain ⟨y10, hy10, h⟩ := lett_inv h
          by_cases hc : (jand (wr (v3 - c1)) c1) = 0
          · rw [if_pos hc] at h
            exact FR.tr (FR.rf _ _) (ih135 y10 (jand (wr (v3 - c1)) c1) 0 q9.2 r g' h)
          · rw [if_neg hc] at h
            exact FR.tr (FR.rf _ _) (ih135 y10 (jand (wr (v3 - c1)) c1) 1 q9.2 r g' h)
      · rw [if_neg hc] at h
        obtain ⟨q11, hq, h⟩ := Option.bind_eq_some_iff.mp h
        refine FR.tr (FR.rf _ _) (FR.tr (FR.cl (fr_Md_ones v3 g q11.1 q11.2 hq) (sub_tr (by decide) hW)) ?_)
        obtain ⟨q12, hq, h⟩ := Option.bind_eq_some_iff.mp h
        refine FR.tr (FR.rf _ _) (FR.tr (FR.cl (fr_Md_ones v2 q11.2 q12.1 q12.2 hq) (sub_tr (by decide) hW)) ?_)
        by_cases hc : q12.1 ≤ q11.1
        · rw [if_pos hc] at h
          by_cases hc : (jand (wr (v3 - c1)) c1) = 0
          · rw [if_pos hc] at h
            exact FR.tr (FR.rf _ _) (ih135 v2 (jand (wr (v3 - c1)) c1) 0 q12.2 r g' h)
          · rw [if_neg hc] at h
            exact FR.tr (FR.rf _ _) (ih135 v2 (jand (wr (v3 - c1)) c1) 1 q12.2 r g' h)
        · rw [if_neg hc] at h
          obtain ⟨q13, hq, h⟩ := Option.bind_eq_some_iff.mp h
          refine FR.tr (FR.rf _ _) (FR.tr (FR.cl (fr_Md_unfolds v3 q12.2 q13.1 q13.2 hq) (sub_tr (by decide) hW)) ?_)
          by_cases hc : ¬ q13.1 = 0
          · rw [if_pos hc] at h
            by_cases hc : (jand (wr (v3 - c1)) c1) = 0
            · rw [if_pos hc] at h
              exact FR.tr (FR.rf _ _) (ih135 v2 (jand (wr (v3 - c1)) c1) 0 q13.2 r g' h)
            · rw [if_neg hc] at h
              exact FR.tr (FR.rf _ _) (ih135 v2 (jand (wr (v3 - c1)) c1) 1 q13.2 r g' h)
          · rw [if_neg hc] at h
            obtain ⟨q14, hq, h⟩ := Option.bind_eq_some_iff.mp h
            refine FR.tr (FR.rf _ _) (FR.tr (FR.cl (fr_Md_isSound q13.2 q14.1 q14.2 hq) (sub_tr (by decide) hW)) ?_)
            obtain ⟨y15, hy15, h⟩ := lett_inv h
            by_cases hc : (jand (wr (v3 - c1)) c1) = 0
            · rw [if_pos hc] at h
              exact FR.tr (FR.rf _ _) (ih135 y15 (jand (wr (v3 - c1)) c1) 0 q14.2 r g' h)
            · rw [if_neg hc] at h
              exact FR.tr (FR.rf _ _) (ih135 y15 (jand (wr (v3 - c1)) c1) 1 q14.2 r g' h)
set_option maxRecDepth 100000 in
theorem fr_Md_mended (g : Gx) (r : Int) (g' : Gx) (h : Md_mended g = some (r, g')) : FR [99, 100, 101, 102, 103, 104, 105, 110, 111, 112, 113, 114, 115, 116, 117, 118, 119, 120, 6896, 6897, 6904, 6905, 6906, 6908, 6914, 6923, 6924] g g' := by
  rw [Md_mended] at h
  obtain ⟨q1, hq, h⟩ := Option.bind_eq_some_iff.mp h
  refine FR.tr (FR.rf _ _) (FR.tr (FR.cl (fr_Md_reads g q1.1 q1.2 hq) (by decide)) ?_)
  by_cases hc : q1.1 = (-1)
  · rw [if_pos hc] at h
    obtain ⟨q2, hq, h⟩ := Option.bind_eq_some_iff.mp h
    refine FR.tr (FR.rf _ _) (FR.tr (FR.cl (fr_Md_unfolds 0 q1.2 q2.1 q2.2 hq) (by decide)) ?_)
    by_cases hc : q2.1 = 0
    · rw [if_pos hc] at h
      refine FR.tr (FR.rf _ _) (fr_Md_mended_l26 _ [99, 100, 101, 102, 103, 104, 105, 110, 111, 112, 113, 114, 115, 116, 117, 118, 119, 120, 6896, 6897, 6904, 6905, 6906, 6908, 6914, 6923, 6924] (by decide) ?_ fu 0 0 q2.2 r g' h)
      · intro x5 g6 r g' h
        obtain ⟨q7, hq, h⟩ := Option.bind_eq_some_iff.mp h
        refine FR.tr (FR.rf _ _) (FR.tr (FR.cl (fr_Md_ones x5 g6 q7.1 q7.2 hq) (by decide)) ?_)
        by_cases hc : q7.1 ≤ 6
        · rw [if_pos hc] at h
          refine FR.tr (FR.rf _ _) (fr_Md_mended_l135 x5 _ [99, 100, 101, 102, 103, 104, 105, 110, 111, 112, 113, 114, 115, 116, 117, 118, 119, 120, 6896, 6897, 6904, 6905, 6906, 6908, 6914, 6923, 6924] (by decide) ?_ fu (-1) 0 1 q7.2 r g' h)
          · intro x16 g17 r g' h
            cases h
            exact (FR.rf _ _)
        · rw [if_neg hc] at h
          cases h
          exact (FR.rf _ _)
    · rw [if_neg hc] at h
      cases h
      exact (FR.rf _ _)
  · rw [if_neg hc] at h
    cases h
    exact (FR.rf _ _)
set_option maxRecDepth 100000 in
theorem fr_Rn_nextPlace_l3 (c1 : Int) (c2 : Int) (K3_39 : Int → Gx → Option (Int × Gx)) (W : List Nat) (hW : ∀ c ∈ ([] : List Nat), c ∈ W) (hK3_39 : ∀ (x4 : Int) (g : Gx) (r : Int) (g' : Gx), K3_39 x4 g = some (r, g') → FR W g g') : ∀ (n3 : Nat) (v4 : Int) (g : Gx) (r : Int) (g' : Gx), Rn_nextPlace_l3 c1 c2 K3_39 n3 v4 g = some (r, g') → FR W g g' := by
  intro n3
  induction n3 with
  | zero => intro v4 g r g' h; cases h
  | succ n3 ih3 =>
    intro v4 g r g' h
    rw [Rn_nextPlace_l3] at h
    by_cases hc : (Hi_length c1 g) ≤ v4
    · rw [if_pos hc] at h
      exact FR.tr (FR.rf _ _) (hK3_39 v4 g r g' h)
    · rw [if_neg hc] at h
      by_cases hc : ¬ (Rn_takesPart c2 (Hi_word c1 v4 g)) = 0
      · rw [if_pos hc] at h
        exact FR.tr (FR.rf _ _) (hK3_39 v4 g r g' h)
      · rw [if_neg hc] at h
        exact FR.tr (FR.rf _ _) (ih3 (wr (v4 + 1)) g r g' h)
set_option maxRecDepth 100000 in
theorem fr_Rn_nextPlace (a1 a2 a3 : Int) (g : Gx) (r : Int) (g' : Gx) (h : Rn_nextPlace a1 a2 a3 g = some (r, g')) : FR [] g g' := by
  rw [Rn_nextPlace] at h
  refine FR.tr (FR.rf _ _) (fr_Rn_nextPlace_l3 a1 a2 _ [] (by decide) ?_ fu a3 g r g' h)
  · intro x1 g2 r g' h
    cases h
    exact (FR.rf _ _)
set_option maxRecDepth 100000 in
theorem fr_Rn_ableTalkers_l4 (c1 : Int) (K4_80 : Int → Gx → Option (Int × Gx)) (W : List Nat) (hW : ∀ c ∈ ([] : List Nat), c ∈ W) (hK4_80 : ∀ (x2 : Int) (g : Gx) (r : Int) (g' : Gx), K4_80 x2 g = some (r, g') → FR W g g') : ∀ (n4 : Nat) (v2 v3 : Int) (g : Gx) (r : Int) (g' : Gx), Rn_ableTalkers_l4 c1 K4_80 n4 v2 v3 g = some (r, g') → FR W g g' := by
  intro n4
  induction n4 with
  | zero => intro v2 v3 g r g' h; cases h
  | succ n4 ih4 =>
    intro v2 v3 g r g' h
    rw [Rn_ableTalkers_l4] at h
    by_cases hc : 6 ≤ v3
    · rw [if_pos hc] at h
      exact FR.tr (FR.rf _ _) (hK4_80 v2 g r g' h)
    · rw [if_neg hc] at h
      by_cases hc : (Hi_length c1 g) ≤ (rat g 62 6 v3)
      · rw [if_pos hc] at h
        exact FR.tr (FR.rf _ _) (ih4 v2 (wr (v3 + 1)) g r g' h)
      · rw [if_neg hc] at h
        by_cases hc : (Op_sayer (Hi_word c1 (rat g 62 6 v3) g)) = v3
        · rw [if_pos hc] at h
          exact FR.tr (FR.rf _ _) (ih4 (jor v2 (jshl 1 v3)) (wr (v3 + 1)) g r g' h)
        · rw [if_neg hc] at h
          by_cases hc : (rat g 62 6 (Op_sayer (Hi_word c1 (rat g 62 6 v3) g))) ≤ (rat g 62 6 v3)
          · rw [if_pos hc] at h
            exact FR.tr (FR.rf _ _) (ih4 v2 (wr (v3 + 1)) g r g' h)
          · rw [if_neg hc] at h
            exact FR.tr (FR.rf _ _) (ih4 (jor v2 (jshl 1 v3)) (wr (v3 + 1)) g r g' h)
set_option maxRecDepth 100000 in
theorem fr_Rn_ableTalkers (a1 : Int) (g : Gx) (r : Int) (g' : Gx) (h : Rn_ableTalkers a1 g = some (r, g')) : FR [] g g' := by
  rw [Rn_ableTalkers] at h
  refine FR.tr (FR.rf _ _) (fr_Rn_ableTalkers_l4 a1 _ [] (by decide) ?_ fu 0 0 g r g' h)
  · intro x1 g2 r g' h
    cases h
    exact (FR.rf _ _)
set_option maxRecDepth 100000 in
theorem fr_Rn_pick_l4 (c0 : Int) (K4_33 : Gx → Option (Int × Gx)) (W : List Nat) (hW : ∀ c ∈ ([] : List Nat), c ∈ W) (hK4_33 : ∀ (g : Gx) (r : Int) (g' : Gx), K4_33 g = some (r, g') → FR W g g') : ∀ (n4 : Nat) (v2 v3 : Int) (g : Gx) (r : Int) (g' : Gx), Rn_pick_l4 c0 K4_33 n4 v2 v3 g = some (r, g') → FR W g g' := by
  intro n4
  induction n4 with
  | zero => intro v2 v3 g r g' h; cases h
  | succ n4 ih4 =>
    intro v2 v3 g r g' h
    rw [Rn_pick_l4] at h
    by_cases hc : 6 ≤ v3
    · rw [if_pos hc] at h
      exact FR.tr (FR.rf _ _) (hK4_33 g r g' h)
    · rw [if_neg hc] at h
      by_cases hc : (Op_has c0 v3) = 0
      · rw [if_pos hc] at h
        exact FR.tr (FR.rf _ _) (ih4 v2 (wr (v3 + 1)) g r g' h)
      · rw [if_neg hc] at h
        by_cases hc : ¬ v2 = 0
        · rw [if_pos hc] at h
          exact FR.tr (FR.rf _ _) (ih4 (wr (v2 + (-1))) (wr (v3 + 1)) g r g' h)
        · rw [if_neg hc] at h
          cases h
          exact (FR.rf _ _)
set_option maxRecDepth 100000 in
theorem fr_Rn_pick (a0 a1 : Int) (g : Gx) (r : Int) (g' : Gx) (h : Rn_pick a0 a1 g = some (r, g')) : FR [] g g' := by
  rw [Rn_pick] at h
  refine FR.tr (FR.rf _ _) (fr_Rn_pick_l4 a0 _ [] (by decide) ?_ fu a1 0 g r g' h)
  · intro g1 r g' h
    cases h
    exact (FR.rf _ _)
set_option maxRecDepth 100000 in
theorem fr_Rn_act (a1 a2 : Int) (g : Gx) (g' : Gx) (h : Rn_act a1 a2 g = some g') : FR [62, 64, 4846] g g' := by
  rw [Rn_act] at h
  obtain ⟨y1, hy1, h⟩ := lett_inv h
  obtain ⟨q2, hq, h⟩ := Option.bind_eq_some_iff.mp h
  refine FR.tr (FR.go (FR.ra (FR.rf _ _) (by decide)) ⟨rfl, by decide⟩) (FR.tr (FR.cl (fr_Rn_nextPlace a1 a2 (wr ((rat g 62 6 a2) + 1)) (gset (radd g 64 36 (wr ((wr ((Op_sayer (Hi_word a1 (rat g 62 6 a2) g)) * 6)) + (Op_getter (Hi_word a1 (rat g 62 6 a2) g)))) y1) 60 6 (imax (g 60 6) (rat (radd g 64 36 (wr ((wr ((Op_sayer (Hi_word a1 (rat g 62 6 a2) g)) * 6)) + (Op_getter (Hi_word a1 (rat g 62 6 a2) g)))) y1) 64 36 (wr ((wr ((Op_sayer (Hi_word a1 (rat g 62 6 a2) g)) * 6)) + (Op_getter (Hi_word a1 (rat g 62 6 a2) g))))))) q2.1 q2.2 hq) (by decide)) ?_)
  cases h
  exact (FR.rs (FR.rf _ _) (by decide))
set_option maxRecDepth 100000 in
theorem fr_Rn_goByLots_l20 (c1 : Int) (c2 : Int) (K20_47 : Gx → Option Gx) (W : List Nat) (hW : ∀ c ∈ ([62] : List Nat), c ∈ W) (hK20_47 : ∀ (g : Gx) (g' : Gx), K20_47 g = some g' → FR W g g') : ∀ (n20 : Nat) (v3 : Int) (g : Gx) (g' : Gx), Rn_goByLots_l20 c1 c2 K20_47 n20 v3 g = some g' → FR W g g' := by
  intro n20
  induction n20 with
  | zero => intro v3 g g' h; cases h
  | succ n20 ih20 =>
    intro v3 g g' h
    rw [Rn_goByLots_l20] at h
    by_cases hc : 6 ≤ v3
    · rw [if_pos hc] at h
      exact FR.tr (FR.rf _ _) (hK20_47 g g' h)
    · rw [if_neg hc] at h
      obtain ⟨q1, hq, h⟩ := Option.bind_eq_some_iff.mp h
      refine FR.tr (FR.rf _ _) (FR.tr (FR.cl (fr_Rn_nextPlace c1 v3 0 g q1.1 q1.2 hq) (sub_tr (by decide) hW)) ?_)
      exact FR.tr (FR.rs (FR.rf _ _) (hW _ (by decide))) (ih20 (wr (v3 + 1)) (rset q1.2 62 6 v3 q1.1) g' h)
set_option maxRecDepth 100000 in
theorem fr_Rn_goByLots_l49 (c1 : Int) (K49_136 : Gx → Option Gx) (W : List Nat) (hW : ∀ c ∈ ([62, 64, 66, 4845, 4846] : List Nat), c ∈ W) (hK49_136 : ∀ (g : Gx) (g' : Gx), K49_136 g = some g' → FR W g g') : ∀ (n49 : Nat) (v3 : Int) (g : Gx) (g' : Gx), Rn_goByLots_l49 c1 K49_136 n49 v3 g = some g' → FR W g g' := by
  intro n49
  induction n49 with
  | zero => intro v3 g g' h; cases h
  | succ n49 ih49 =>
    intro v3 g g' h
    rw [Rn_goByLots_l49] at h
    by_cases hc : 48 ≤ (g 60 5)
    · rw [if_pos hc] at h
      exact FR.tr (FR.rf _ _) (hK49_136 g g' h)
    · rw [if_neg hc] at h
      obtain ⟨q3, hq, h⟩ := Option.bind_eq_some_iff.mp h
      refine FR.tr (FR.rf _ _) (FR.tr (FR.cl (fr_Rn_ableTalkers c1 g q3.1 q3.2 hq) (sub_tr (by decide) hW)) ?_)
      by_cases hc : ¬ (Ji_bitCount q3.1) = 0
      · rw [if_pos hc] at h
        by_cases hc : (Ji_bitCount q3.1) = 0
        · rw [if_pos hc] at h; cases h
        · rw [if_neg hc] at h
          obtain ⟨q4, hq, h⟩ := Option.bind_eq_some_iff.mp h
          refine FR.tr (FR.rf _ _) (FR.tr (FR.cl (fr_Rn_pick q3.1 (jrem (jushr (wr ((wr (1103515245 * v3)) + 12345)) 16) (Ji_bitCount q3.1)) q3.2 q4.1 q4.2 hq) (sub_tr (by decide) hW)) ?_)
          obtain ⟨g5, hq, h⟩ := Option.bind_eq_some_iff.mp h
          refine FR.tr (FR.rf _ _) (FR.tr (FR.cl (fr_Rn_act c1 q4.1 q4.2 g5 hq) (sub_tr (by decide) hW)) ?_)
          exact FR.tr (FR.go (FR.rs (FR.rf _ _) (hW _ (by decide))) ⟨rfl, hW _ (by decide)⟩) (ih49 (wr ((wr (1103515245 * v3)) + 12345)) (gset (rset g5 66 48 (g5 60 5) q4.1) 60 5 (wr ((g5 60 5) + 1))) g' h)
      · rw [if_neg hc] at h
        exact FR.tr (FR.rf _ _) (hK49_136 q3.2 g' h)
set_option maxRecDepth 100000 in
theorem fr_Rn_goByLots (a1 a2 : Int) (g : Gx) (g' : Gx) (h : Rn_goByLots a1 a2 g = some g') : FR [62, 64, 66, 4845, 4846] g g' := by
  rw [Rn_goByLots] at h
  refine FR.tr (FR.rl (FR.go (FR.go (FR.rf _ _) ⟨rfl, by decide⟩) ⟨rfl, by decide⟩) (by decide)) (fr_Rn_goByLots_l20 a1 a2 _ [62, 64, 66, 4845, 4846] (by decide) ?_ fu 0 (rfill (gset (gset g 60 5 0) 60 6 0) 64 36 0) g' h)
  · intro g2 g' h
    refine FR.tr (FR.rf _ _) (fr_Rn_goByLots_l49 a1 _ [62, 64, 66, 4845, 4846] (by decide) ?_ fu a2 g2 g' h)
    · intro g6 g' h
      cases h
      exact (FR.rf _ _)
set_option maxRecDepth 100000 in
theorem fr_Op_run (a1 a2 a3 : Int) (g : Gx) (r : Int) (g' : Gx) (h : Op_run a1 a2 a3 g = some (r, g')) : FR [9, 11, 13, 15, 17, 19, 21, 23, 25, 27, 30, 32, 35, 37, 39, 41, 43, 45, 47, 49, 62, 64, 66, 1458, 1459, 1460, 2796, 2797, 2798, 2799, 2800, 2801, 3121, 3122, 3123, 3124, 3125, 3126, 3127, 3128, 4845, 4846] g g' := by
  rw [Op_run] at h
  by_cases hc : (Op_isHistory a1) = 0
  · rw [if_pos hc] at h
    cases h
    exact (FR.rf _ _)
  · rw [if_neg hc] at h
    by_cases hc : a3 < 0
    · rw [if_pos hc] at h
      cases h
      exact (FR.rf _ _)
    · rw [if_neg hc] at h
      by_cases hc : a3 ≤ 1
      · rw [if_pos hc] at h
        obtain ⟨q1, hq, h⟩ := Option.bind_eq_some_iff.mp h
        refine FR.tr (FR.rf _ _) (FR.tr (FR.cl (fr_Op_hindrance a1 g q1.1 q1.2 hq) (by decide)) ?_)
        by_cases hc : q1.1 = 0
        · rw [if_pos hc] at h
          obtain ⟨g2, hq, h⟩ := Option.bind_eq_some_iff.mp h
          refine FR.tr (FR.rf _ _) (FR.tr (FR.cl (fr_Rn_goByLots a1 a2 q1.2 g2 hq) (by decide)) ?_)
          by_cases hc : ¬ a3 = 0
          · rw [if_pos hc] at h
            cases h
            exact (FR.rf _ _)
          · rw [if_neg hc] at h
            cases h
            exact (FR.rf _ _)
        · rw [if_neg hc] at h
          cases h
          exact (FR.rf _ _)
      · rw [if_neg hc] at h
        cases h
        exact (FR.rf _ _)
set_option maxRecDepth 100000 in
theorem fr_Md_begins_l2 (K2_21 : Gx → Option Gx) (W : List Nat) (hW : ∀ c ∈ ([121] : List Nat), c ∈ W) (hK2_21 : ∀ (g : Gx) (g' : Gx), K2_21 g = some g' → FR W g g') : ∀ (n2 : Nat) (v1 : Int) (g : Gx) (g' : Gx), Md_begins_l2 K2_21 n2 v1 g = some g' → FR W g g' := by
  intro n2
  induction n2 with
  | zero => intro v1 g g' h; cases h
  | succ n2 ih2 =>
    intro v1 g g' h
    rw [Md_begins_l2] at h
    by_cases hc : 6 ≤ v1
    · rw [if_pos hc] at h
      exact FR.tr (FR.rf _ _) (hK2_21 g g' h)
    · rw [if_neg hc] at h
      by_cases hc : 0 ≤ v1 ∧ v1 < 6
      · rw [if_pos hc] at h
        exact FR.tr (FR.gs (FR.rf _ _) (hW _ (by decide))) (ih2 (wr (v1 + 1)) (gset g 121 v1.toNat 0) g' h)
      · rw [if_neg hc] at h; cases h
set_option maxRecDepth 100000 in
theorem fr_Md_begins_l23 (K23_42 : Gx → Option Gx) (W : List Nat) (hW : ∀ c ∈ ([122] : List Nat), c ∈ W) (hK23_42 : ∀ (g : Gx) (g' : Gx), K23_42 g = some g' → FR W g g') : ∀ (n23 : Nat) (v1 : Int) (g : Gx) (g' : Gx), Md_begins_l23 K23_42 n23 v1 g = some g' → FR W g g' := by
  intro n23
  induction n23 with
  | zero => intro v1 g g' h; cases h
  | succ n23 ih23 =>
    intro v1 g g' h
    rw [Md_begins_l23] at h
    by_cases hc : 36 ≤ v1
    · rw [if_pos hc] at h
      exact FR.tr (FR.rf _ _) (hK23_42 g g' h)
    · rw [if_neg hc] at h
      by_cases hc : 0 ≤ v1 ∧ v1 < 36
      · rw [if_pos hc] at h
        exact FR.tr (FR.gs (FR.rf _ _) (hW _ (by decide))) (ih23 (wr (v1 + 1)) (gset g 122 v1.toNat 0) g' h)
      · rw [if_neg hc] at h; cases h
set_option maxRecDepth 100000 in
theorem fr_Md_begins (g : Gx) (g' : Gx) (h : Md_begins g = some g') : FR [121, 122, 6931, 6932] g g' := by
  rw [Md_begins] at h
  refine FR.tr (FR.rf _ _) (fr_Md_begins_l2 _ [121, 122, 6931, 6932] (by decide) ?_ fu 0 g g' h)
  · intro g1 g' h
    refine FR.tr (FR.rf _ _) (fr_Md_begins_l23 _ [121, 122, 6931, 6932] (by decide) ?_ fu 0 g1 g' h)
    · intro g2 g' h
      cases h
      exact (FR.go (FR.go (FR.rf _ _) ⟨rfl, by decide⟩) ⟨rfl, by decide⟩)
set_option maxRecDepth 100000 in
theorem fr_Md_can (a1 a2 a3 : Int) (g : Gx) (r : Int) (g' : Gx) (h : Md_can a1 a2 a3 g = some (r, g')) : FR [] g g' := by
  rw [Md_can] at h
  by_cases hc : 0 ≤ a1 ∧ a1 < 6
  · rw [if_pos hc] at h
    by_cases hc : a3 ≤ (g 121 a1.toNat)
    · rw [if_pos hc] at h
      cases h
      exact (FR.rf _ _)
    · rw [if_neg hc] at h
      by_cases hc : 0 ≤ a1 ∧ a1 < 6
      · rw [if_pos hc] at h
        obtain ⟨q1, hq, h⟩ := Option.bind_eq_some_iff.mp h
        refine FR.tr (FR.rf _ _) (FR.tr (FR.cl (fr_Md_lookAt a1 a2 (g 121 a1.toNat) g q1.1 q1.2 hq) (by decide)) ?_)
        by_cases hc : q1.1 = (-1)
        · rw [if_pos hc] at h
          cases h
          exact (FR.rf _ _)
        · rw [if_neg hc] at h
          by_cases hc : q1.1 < 20000
          · rw [if_pos hc] at h
            cases h
            exact (FR.rf _ _)
          · rw [if_neg hc] at h
            by_cases hc : 0 ≤ (Md_queueOf q1.1) ∧ (Md_queueOf q1.1) < 36
            · rw [if_pos hc] at h
              by_cases hc : (q1.2 122 (Md_queueOf q1.1).toNat) ≤ 0
              · rw [if_pos hc] at h
                cases h
                exact (FR.rf _ _)
              · rw [if_neg hc] at h
                cases h
                exact (FR.rf _ _)
            · rw [if_neg hc] at h; cases h
      · rw [if_neg hc] at h; cases h
  · rw [if_neg hc] at h; cases h
set_option maxRecDepth 100000 in
theorem fr_Md_does (a1 a2 : Int) (g : Gx) (g' : Gx) (h : Md_does a1 a2 g = some g') : FR [121, 122, 6932] g g' := by
  rw [Md_does] at h
  by_cases hc : 0 ≤ a1 ∧ a1 < 6
  · rw [if_pos hc] at h
    obtain ⟨q1, hq, h⟩ := Option.bind_eq_some_iff.mp h
    refine FR.tr (FR.rf _ _) (FR.tr (FR.cl (fr_Md_lookAt a1 a2 (g 121 a1.toNat) g q1.1 q1.2 hq) (by decide)) ?_)
    by_cases hc : 0 ≤ (Md_queueOf q1.1) ∧ (Md_queueOf q1.1) < 36
    · rw [if_pos hc] at h
      obtain ⟨y2, hy2, h⟩ := lett_inv h
      by_cases hc : 0 ≤ (Md_queueOf q1.1) ∧ (Md_queueOf q1.1) < 36
      · rw [if_pos hc] at h
        by_cases hc : 0 ≤ (Md_queueOf q1.1) ∧ (Md_queueOf q1.1) < 36
        · rw [if_pos hc] at h
          by_cases hc : ((gset q1.2 122 ((Md_queueOf q1.1).toNat) (wr ((q1.2 122 (Md_queueOf q1.1).toNat) + y2))) 122 (Md_queueOf q1.1).toNat) ≤ (q1.2 92 44)
          · rw [if_pos hc] at h
            by_cases hc : 0 ≤ a1 ∧ a1 < 6
            · rw [if_pos hc] at h
              by_cases hc : 0 ≤ a1 ∧ a1 < 6
              · rw [if_pos hc] at h
                cases h
                exact (FR.gs (FR.go (FR.gs (FR.rf _ _) (by decide)) ⟨rfl, by decide⟩) (by decide))
              · rw [if_neg hc] at h; cases h
            · rw [if_neg hc] at h; cases h
          · rw [if_neg hc] at h
            by_cases hc : 0 ≤ (Md_queueOf q1.1) ∧ (Md_queueOf q1.1) < 36
            · rw [if_pos hc] at h
              by_cases hc : 0 ≤ a1 ∧ a1 < 6
              · rw [if_pos hc] at h
                by_cases hc : 0 ≤ a1 ∧ a1 < 6
                · rw [if_pos hc] at h
                  cases h
                  exact (FR.gs (FR.go (FR.gs (FR.rf _ _) (by decide)) ⟨rfl, by decide⟩) (by decide))
                · rw [if_neg hc] at h; cases h
              · rw [if_neg hc] at h; cases h
            · rw [if_neg hc] at h; cases h
        · rw [if_neg hc] at h; cases h
      · rw [if_neg hc] at h; cases h
    · rw [if_neg hc] at h; cases h
  · rw [if_neg hc] at h; cases h
set_option maxRecDepth 100000 in
theorem fr_Md_runs_l24 (c1 : Int) (c3 : Int) (K24_59 : Int → Gx → Option Gx) (W : List Nat) (hW : ∀ c ∈ ([] : List Nat), c ∈ W) (hK24_59 : ∀ (x4 : Int) (g : Gx) (g' : Gx), K24_59 x4 g = some g' → FR W g g') : ∀ (n24 : Nat) (v4 v5 : Int) (g : Gx) (g' : Gx), Md_runs_l24 c1 c3 K24_59 n24 v4 v5 g = some g' → FR W g g' := by
  intro n24
  induction n24 with
  | zero => intro v4 v5 g g' h; cases h
  | succ n24 ih24 =>
    intro v4 v5 g g' h
    rw [Md_runs_l24] at h
    by_cases hc : 6 ≤ v5
    · rw [if_pos hc] at h
      exact FR.tr (FR.rf _ _) (hK24_59 v4 g g' h)
    · rw [if_neg hc] at h
      obtain ⟨q3, hq, h⟩ := Option.bind_eq_some_iff.mp h
      refine FR.tr (FR.rf _ _) (FR.tr (FR.cl (fr_Md_can v5 c1 48 g q3.1 q3.2 hq) (sub_tr (by decide) hW)) ?_)
      by_cases hc : q3.1 = 0
      · rw [if_pos hc] at h
        exact FR.tr (FR.rf _ _) (ih24 (wr (v4 + 0)) (wr (v5 + 1)) q3.2 g' h)
      · rw [if_neg hc] at h
        exact FR.tr (FR.rf _ _) (ih24 (wr (v4 + 1)) (wr (v5 + 1)) q3.2 g' h)
set_option maxRecDepth 100000 in
theorem fr_Md_runs_l86 (c1 : Int) (c3 : Int) (c4 : Int) (K86_131 : Int → Gx → Option Gx) (W : List Nat) (hW : ∀ c ∈ ([] : List Nat), c ∈ W) (hK86_131 : ∀ (x6 : Int) (g : Gx) (g' : Gx), K86_131 x6 g = some g' → FR W g g') : ∀ (n86 : Nat) (v5 v6 : Int) (g : Gx) (g' : Gx), Md_runs_l86 c1 c3 c4 K86_131 n86 v5 v6 g = some g' → FR W g g' := by
  intro n86
  induction n86 with
  | zero => intro v5 v6 g g' h; cases h
  | succ n86 ih86 =>
    intro v5 v6 g g' h
    rw [Md_runs_l86] at h
    by_cases hc : 0 < v5
    · rw [if_pos hc] at h
      obtain ⟨q6, hq, h⟩ := Option.bind_eq_some_iff.mp h
      refine FR.tr (FR.rf _ _) (FR.tr (FR.cl (fr_Md_can v6 c1 48 g q6.1 q6.2 hq) (sub_tr (by decide) hW)) ?_)
      by_cases hc : q6.1 = 0
      · rw [if_pos hc] at h
        exact FR.tr (FR.rf _ _) (ih86 (wr (v5 - 0)) (wr (v6 + 1)) q6.2 g' h)
      · rw [if_neg hc] at h
        exact FR.tr (FR.rf _ _) (ih86 (wr (v5 - 1)) (wr (v6 + 1)) q6.2 g' h)
    · rw [if_neg hc] at h
      obtain ⟨q7, hq, h⟩ := Option.bind_eq_some_iff.mp h
      refine FR.tr (FR.rf _ _) (FR.tr (FR.cl (fr_Md_can v6 c1 48 g q7.1 q7.2 hq) (sub_tr (by decide) hW)) ?_)
      by_cases hc : ¬ q7.1 = 0
      · rw [if_pos hc] at h
        exact FR.tr (FR.rf _ _) (hK86_131 v6 q7.2 g' h)
      · rw [if_neg hc] at h
        obtain ⟨q8, hq, h⟩ := Option.bind_eq_some_iff.mp h
        refine FR.tr (FR.rf _ _) (FR.tr (FR.cl (fr_Md_can v6 c1 48 q7.2 q8.1 q8.2 hq) (sub_tr (by decide) hW)) ?_)
        by_cases hc : q8.1 = 0
        · rw [if_pos hc] at h
          exact FR.tr (FR.rf _ _) (ih86 (wr (v5 - 0)) (wr (v6 + 1)) q8.2 g' h)
        · rw [if_neg hc] at h
          exact FR.tr (FR.rf _ _) (ih86 (wr (v5 - 1)) (wr (v6 + 1)) q8.2 g' h)
set_option maxRecDepth 100000 in
theorem fr_Md_runs_l13 (c1 : Int) (K13_162 : Gx → Option Gx) (W : List Nat) (hW : ∀ c ∈ ([121, 122, 123, 6931, 6932] : List Nat), c ∈ W) (hK13_162 : ∀ (g : Gx) (g' : Gx), K13_162 g = some g' → FR W g g') : ∀ (n13 : Nat) (v3 v4 : Int) (g : Gx) (g' : Gx), Md_runs_l13 c1 K13_162 n13 v3 v4 g = some g' → FR W g g' := by
  intro n13
  induction n13 with
  | zero => intro v3 v4 g g' h; cases h
  | succ n13 ih13 =>
    intro v3 v4 g g' h
    rw [Md_runs_l13] at h
    by_cases hc : v4 ≤ 0
    · rw [if_pos hc] at h
      exact FR.tr (FR.rf _ _) (hK13_162 g g' h)
    · rw [if_neg hc] at h
      refine FR.tr (FR.rf _ _) (fr_Md_runs_l24 c1 v3 _ W (sub_tr (by decide) hW) ?_ fu 0 0 g g' h)
      · intro x4 g5 g' h
        by_cases hc : x4 ≤ 0
        · rw [if_pos hc] at h
          exact FR.tr (FR.rf _ _) (ih13 v3 x4 g5 g' h)
        · rw [if_neg hc] at h
          by_cases hc : x4 = 0
          · rw [if_pos hc] at h; cases h
          · rw [if_neg hc] at h
            refine FR.tr (FR.rf _ _) (fr_Md_runs_l86 c1 (wr ((wr (1103515245 * v3)) + 12345)) x4 _ W (sub_tr (by decide) hW) ?_ fu (jrem (jushr (wr ((wr (1103515245 * v3)) + 12345)) 16) x4) 0 g5 g' h)
            · intro x9 g10 g' h
              obtain ⟨g11, hq, h⟩ := Option.bind_eq_some_iff.mp h
              refine FR.tr (FR.rf _ _) (FR.tr (FR.cl (fr_Md_does x9 c1 g10 g11 hq) (sub_tr (by decide) hW)) ?_)
              by_cases hc : 0 ≤ (g11 92 43) ∧ (g11 92 43) < 48
              · rw [if_pos hc] at h
                exact FR.tr (FR.go (FR.gs (FR.rf _ _) (hW _ (by decide))) ⟨rfl, hW _ (by decide)⟩) (ih13 (wr ((wr (1103515245 * v3)) + 12345)) x4 (gset (gset g11 123 ((g11 92 43).toNat) x9) 92 43 (wr ((g11 92 43) + 1))) g' h)
              · rw [if_neg hc] at h; cases h
set_option maxRecDepth 100000 in
theorem fr_Md_runs (a1 a2 : Int) (g : Gx) (g' : Gx) (h : Md_runs a1 a2 g = some g') : FR [118, 119, 121, 122, 123, 6931, 6932] g g' := by
  rw [Md_runs] at h
  obtain ⟨g1, hq, h⟩ := Option.bind_eq_some_iff.mp h
  refine FR.tr (FR.rf _ _) (FR.tr (FR.cl (fr_Md_findLooks g g1 hq) (by decide)) ?_)
  obtain ⟨g2, hq, h⟩ := Option.bind_eq_some_iff.mp h
  refine FR.tr (FR.rf _ _) (FR.tr (FR.cl (fr_Md_begins g1 g2 hq) (by decide)) ?_)
  refine FR.tr (FR.rf _ _) (fr_Md_runs_l13 a1 _ [118, 119, 121, 122, 123, 6931, 6932] (by decide) ?_ fu a2 1 g2 g' h)
  · intro g12 g' h
    cases h
    exact (FR.rf _ _)
set_option maxRecDepth 100000 in
theorem fr_Md_run (a1 a2 a3 : Int) (g : Gx) (r : Int) (g' : Gx) (h : Md_run a1 a2 a3 g = some (r, g')) : FR [99, 100, 101, 102, 103, 104, 105, 110, 111, 112, 113, 114, 115, 116, 117, 118, 119, 121, 122, 123, 6896, 6897, 6904, 6905, 6906, 6908, 6914, 6923, 6924, 6931, 6932] g g' := by
  rw [Md_run] at h
  by_cases hc : (Md_isHistory a1) = 0
  · rw [if_pos hc] at h
    cases h
    exact (FR.rf _ _)
  · rw [if_neg hc] at h
    by_cases hc : ¬ (Md_in a3 0 1) = 0
    · rw [if_pos hc] at h
      obtain ⟨q1, hq, h⟩ := Option.bind_eq_some_iff.mp h
      refine FR.tr (FR.rf _ _) (FR.tr (FR.cl (fr_Md_lacksOne a1 g q1.1 q1.2 hq) (by decide)) ?_)
      by_cases hc : q1.1 = 0
      · rw [if_pos hc] at h
        obtain ⟨g2, hq, h⟩ := Option.bind_eq_some_iff.mp h
        refine FR.tr (FR.rf _ _) (FR.tr (FR.cl (fr_Md_runs a1 a2 q1.2 g2 hq) (by decide)) ?_)
        by_cases hc : ¬ a3 = 0
        · rw [if_pos hc] at h
          cases h
          exact (FR.rf _ _)
        · rw [if_neg hc] at h
          cases h
          exact (FR.rf _ _)
      · rw [if_neg hc] at h
        cases h
        exact (FR.rf _ _)
    · rw [if_neg hc] at h
      cases h
      exact (FR.rf _ _)
set_option maxRecDepth 100000 in
theorem fr_Op_step (a1 a2 a3 : Int) (g : Gx) (r : Int) (g' : Gx) (h : Op_step a1 a2 a3 g = some (r, g')) : FR [9, 11, 13, 15, 17, 19, 21, 23, 25, 27, 30, 32, 35, 37, 39, 41, 43, 45, 47, 49, 62, 64, 66, 1458, 1459, 1460, 2796, 2797, 2798, 2799, 2800, 2801, 3121, 3122, 3123, 3124, 3125, 3126, 3127, 3128, 4845, 4846] g g' := by
  rw [Op_step] at h
  by_cases hc : (Op_isHistory a1) = 0
  · rw [if_pos hc] at h
    cases h
    exact (FR.rf _ _)
  · rw [if_neg hc] at h
    by_cases hc : 0 ≤ a3
    · rw [if_pos hc] at h
      obtain ⟨q1, hq, h⟩ := Option.bind_eq_some_iff.mp h
      refine FR.tr (FR.rf _ _) (FR.tr (FR.cl (fr_Op_hindrance a1 g q1.1 q1.2 hq) (by decide)) ?_)
      by_cases hc : q1.1 = 0
      · rw [if_pos hc] at h
        obtain ⟨g2, hq, h⟩ := Option.bind_eq_some_iff.mp h
        refine FR.tr (FR.rf _ _) (FR.tr (FR.cl (fr_Rn_goByLots a1 a2 q1.2 g2 hq) (by decide)) ?_)
        by_cases hc : (Rn_stepCount g2) ≤ a3
        · rw [if_pos hc] at h
          cases h
          exact (FR.rf _ _)
        · rw [if_neg hc] at h
          cases h
          exact (FR.rf _ _)
      · rw [if_neg hc] at h
        cases h
        exact (FR.rf _ _)
    · rw [if_neg hc] at h
      cases h
      exact (FR.rf _ _)
set_option maxRecDepth 100000 in
theorem fr_Md_step (a1 a2 a3 : Int) (g : Gx) (r : Int) (g' : Gx) (h : Md_step a1 a2 a3 g = some (r, g')) : FR [99, 100, 101, 102, 103, 104, 105, 110, 111, 112, 113, 114, 115, 116, 117, 118, 119, 121, 122, 123, 6896, 6897, 6904, 6905, 6906, 6908, 6914, 6923, 6924, 6931, 6932] g g' := by
  rw [Md_step] at h
  by_cases hc : (Md_isHistory a1) = 0
  · rw [if_pos hc] at h
    cases h
    exact (FR.rf _ _)
  · rw [if_neg hc] at h
    by_cases hc : 0 ≤ a3
    · rw [if_pos hc] at h
      obtain ⟨q1, hq, h⟩ := Option.bind_eq_some_iff.mp h
      refine FR.tr (FR.rf _ _) (FR.tr (FR.cl (fr_Md_lacksOne a1 g q1.1 q1.2 hq) (by decide)) ?_)
      by_cases hc : q1.1 = 0
      · rw [if_pos hc] at h
        obtain ⟨g2, hq, h⟩ := Option.bind_eq_some_iff.mp h
        refine FR.tr (FR.rf _ _) (FR.tr (FR.cl (fr_Md_runs a1 a2 q1.2 g2 hq) (by decide)) ?_)
        by_cases hc : (g2 92 43) ≤ a3
        · rw [if_pos hc] at h
          cases h
          exact (FR.rf _ _)
        · rw [if_neg hc] at h
          by_cases hc : 0 ≤ a3 ∧ a3 < 48
          · rw [if_pos hc] at h
            cases h
            exact (FR.rf _ _)
          · rw [if_neg hc] at h; cases h
      · rw [if_neg hc] at h
        cases h
        exact (FR.rf _ _)
    · rw [if_neg hc] at h
      cases h
      exact (FR.rf _ _)
set_option maxRecDepth 100000 in
theorem fr_Rn_gotAhead_l13 (c1 : Int) (c3 : Int) (c4 : Int) (K13_82 : Int → Gx → Option (Int × Gx)) (W : List Nat) (hW : ∀ c ∈ ([] : List Nat), c ∈ W) (hK13_82 : ∀ (x6 : Int) (g : Gx) (r : Int) (g' : Gx), K13_82 x6 g = some (r, g') → FR W g g') : ∀ (n13 : Nat) (v5 v6 v7 : Int) (g : Gx) (r : Int) (g' : Gx), Rn_gotAhead_l13 c1 c3 c4 K13_82 n13 v5 v6 v7 g = some (r, g') → FR W g g' := by
  intro n13
  induction n13 with
  | zero => intro v5 v6 v7 g r g' h; cases h
  | succ n13 ih13 =>
    intro v5 v6 v7 g r g' h
    rw [Rn_gotAhead_l13] at h
    by_cases hc : v7 < 0
    · rw [if_pos hc] at h
      exact FR.tr (FR.rf _ _) (hK13_82 v6 g r g' h)
    · rw [if_neg hc] at h
      by_cases hc : (Op_has v5 (Op_getter (Hi_word c1 v7 g))) = 0
      · rw [if_pos hc] at h
        exact FR.tr (FR.rf _ _) (ih13 v5 v6 (wr (v7 + (-1))) g r g' h)
      · rw [if_neg hc] at h
        by_cases hc : (Rn_goes (Hi_word c1 v7 g) c3 c4) = 0
        · rw [if_pos hc] at h
          exact FR.tr (FR.rf _ _) (ih13 (jor v5 (jshl 1 (Op_sayer (Hi_word c1 v7 g)))) (wr (v6 + 0)) (wr (v7 + (-1))) g r g' h)
        · rw [if_neg hc] at h
          exact FR.tr (FR.rf _ _) (ih13 (jor v5 (jshl 1 (Op_sayer (Hi_word c1 v7 g)))) (wr (v6 + 1)) (wr (v7 + (-1))) g r g' h)
set_option maxRecDepth 100000 in
theorem fr_Rn_gotAhead (a1 a2 a3 a4 : Int) (g : Gx) (r : Int) (g' : Gx) (h : Rn_gotAhead a1 a2 a3 a4 g = some (r, g')) : FR [] g g' := by
  rw [Rn_gotAhead] at h
  refine FR.tr (FR.rf _ _) (fr_Rn_gotAhead_l13 a1 a3 a4 _ [] (by decide) ?_ fu (jshl 1 a3) 0 (wr (a2 - 1)) g r g' h)
  · intro x1 g2 r g' h
    cases h
    exact (FR.rf _ _)
set_option maxRecDepth 100000 in
theorem fr_Rn_longestEver_l9 (c1 : Int) (c2 : Int) (c3 : Int) (K9_68 : Int → Gx → Option (Int × Gx)) (W : List Nat) (hW : ∀ c ∈ ([] : List Nat), c ∈ W) (hK9_68 : ∀ (x4 : Int) (g : Gx) (r : Int) (g' : Gx), K9_68 x4 g = some (r, g') → FR W g g') : ∀ (n9 : Nat) (v4 v5 v6 : Int) (g : Gx) (r : Int) (g' : Gx), Rn_longestEver_l9 c1 c2 c3 K9_68 n9 v4 v5 v6 g = some (r, g') → FR W g g' := by
  intro n9
  induction n9 with
  | zero => intro v4 v5 v6 g r g' h; cases h
  | succ n9 ih9 =>
    intro v4 v5 v6 g r g' h
    rw [Rn_longestEver_l9] at h
    by_cases hc : (Hi_length c1 g) ≤ v6
    · rw [if_pos hc] at h
      exact FR.tr (FR.rf _ _) (hK9_68 v4 g r g' h)
    · rw [if_neg hc] at h
      by_cases hc : (Rn_goes (Hi_word c1 v6 g) c2 c3) = 0
      · rw [if_pos hc] at h
        exact FR.tr (FR.rf _ _) (ih9 v4 v5 (wr (v6 + 1)) g r g' h)
      · rw [if_neg hc] at h
        obtain ⟨q1, hq, h⟩ := Option.bind_eq_some_iff.mp h
        refine FR.tr (FR.rf _ _) (FR.tr (FR.cl (fr_Rn_gotAhead c1 v6 c2 c3 g q1.1 q1.2 hq) (sub_tr (by decide) hW)) ?_)
        exact FR.tr (FR.rf _ _) (ih9 (imax v4 (wr ((wr (v5 + 1)) - q1.1))) (wr (v5 + 1)) (wr (v6 + 1)) q1.2 r g' h)
set_option maxRecDepth 100000 in
theorem fr_Rn_longestEver (a1 a2 a3 : Int) (g : Gx) (r : Int) (g' : Gx) (h : Rn_longestEver a1 a2 a3 g = some (r, g')) : FR [] g g' := by
  rw [Rn_longestEver] at h
  refine FR.tr (FR.rf _ _) (fr_Rn_longestEver_l9 a1 a2 a3 _ [] (by decide) ?_ fu 0 0 0 g r g' h)
  · intro x2 g3 r g' h
    cases h
    exact (FR.rf _ _)
set_option maxRecDepth 100000 in
theorem fr_Op_longest (a1 a2 a3 : Int) (g : Gx) (r : Int) (g' : Gx) (h : Op_longest a1 a2 a3 g = some (r, g')) : FR [9, 11, 13, 15, 17, 19, 21, 23, 25, 27, 30, 32, 35, 37, 39, 41, 43, 45, 47, 49, 1458, 1459, 1460, 2796, 2797, 2798, 2799, 2800, 2801, 3121, 3122, 3123, 3124, 3125, 3126, 3127, 3128] g g' := by
  rw [Op_longest] at h
  by_cases hc : (Op_isHistory a1) = 0
  · rw [if_pos hc] at h
    cases h
    exact (FR.rf _ _)
  · rw [if_neg hc] at h
    by_cases hc : (Op_isTalker a2) = 0
    · rw [if_pos hc] at h
      cases h
      exact (FR.rf _ _)
    · rw [if_neg hc] at h
      by_cases hc : (Op_isTalker a3) = 0
      · rw [if_pos hc] at h
        cases h
        exact (FR.rf _ _)
      · rw [if_neg hc] at h
        by_cases hc : ¬ a2 = a3
        · rw [if_pos hc] at h
          obtain ⟨q1, hq, h⟩ := Option.bind_eq_some_iff.mp h
          refine FR.tr (FR.rf _ _) (FR.tr (FR.cl (fr_Op_hindrance a1 g q1.1 q1.2 hq) (by decide)) ?_)
          by_cases hc : q1.1 = 0
          · rw [if_pos hc] at h
            obtain ⟨q2, hq, h⟩ := Option.bind_eq_some_iff.mp h
            refine FR.tr (FR.rf _ _) (FR.tr (FR.cl (fr_Rn_longestEver a1 a2 a3 q1.2 q2.1 q2.2 hq) (by decide)) ?_)
            cases h
            exact (FR.rf _ _)
          · rw [if_neg hc] at h
            cases h
            exact (FR.rf _ _)
        · rw [if_neg hc] at h
          cases h
          exact (FR.rf _ _)
set_option maxRecDepth 100000 in
theorem fr_Md_findAheads_l28 (c1 : Int) (c2 : Int) (K28_199 : Gx → Option Gx) (W : List Nat) (hW : ∀ c ∈ ([124, 125] : List Nat), c ∈ W) (hK28_199 : ∀ (g : Gx) (g' : Gx), K28_199 g = some g' → FR W g g') : ∀ (n28 : Nat) (v3 : Int) (g : Gx) (g' : Gx), Md_findAheads_l28 c1 c2 K28_199 n28 v3 g = some g' → FR W g g' := by
  intro n28
  induction n28 with
  | zero => intro v3 g g' h; cases h
  | succ n28 ih28 =>
    intro v3 g g' h
    rw [Md_findAheads_l28] at h
    by_cases hc : c2 ≤ v3
    · rw [if_pos hc] at h
      exact FR.tr (FR.rf _ _) (hK28_199 g g' h)
    · rw [if_neg hc] at h
      obtain ⟨q1, hq, h⟩ := Option.bind_eq_some_iff.mp h
      refine FR.tr (FR.rf _ _) (FR.tr (FR.cl (fr_Md_code c1 v3 g q1.1 q1.2 hq) (sub_tr (by decide) hW)) ?_)
      by_cases hc : 0 ≤ v3 ∧ v3 < 24
      · rw [if_pos hc] at h
        by_cases hc : 0 ≤ v3 ∧ v3 < 24
        · rw [if_pos hc] at h
          obtain ⟨q2, hq, h⟩ := Option.bind_eq_some_iff.mp h
          refine FR.tr (FR.rf _ _) (FR.tr (FR.cl (fr_Md_code c1 c2 q1.2 q2.1 q2.2 hq) (sub_tr (by decide) hW)) ?_)
          obtain ⟨q3, hq, h⟩ := Option.bind_eq_some_iff.mp h
          refine FR.tr (FR.rf _ _) (FR.tr (FR.cl (fr_Md_code c1 c2 q2.2 q3.1 q3.2 hq) (sub_tr (by decide) hW)) ?_)
          by_cases hc : 0 ≤ c2 ∧ c2 < 24
          · rw [if_pos hc] at h
            obtain ⟨y4, hy4, h⟩ := lett_inv h
            by_cases hc : 0 ≤ c2 ∧ c2 < 24
            · rw [if_pos hc] at h
              by_cases hc : 0 ≤ c2 ∧ c2 < 24
              · rw [if_pos hc] at h
                obtain ⟨y5, hy5, h⟩ := lett_inv h
                by_cases hc : 0 ≤ c2 ∧ c2 < 24
                · rw [if_pos hc] at h
                  by_cases hc : 0 ≤ c2 ∧ c2 < 24
                  · rw [if_pos hc] at h
                    obtain ⟨y6, hy6, h⟩ := lett_inv h
                    by_cases hc : 0 ≤ c2 ∧ c2 < 24
                    · rw [if_pos hc] at h
                      by_cases hc : 0 ≤ c2 ∧ c2 < 24
                      · rw [if_pos hc] at h
                        by_cases hc : ¬ (Md_to q1.1) = (Md_to q3.1)
                        · rw [if_pos hc] at h
                          by_cases hc : 0 ≤ c2 ∧ c2 < 24
                          · rw [if_pos hc] at h
                            exact FR.tr (FR.gs (FR.gs (FR.gs (FR.gs (FR.rf _ _) (hW _ (by decide))) (hW _ (by decide))) (hW _ (by decide))) (hW _ (by decide))) (ih28 (wr (v3 + 1)) (gset (gset (gset (gset q3.2 124 c2.toNat (mor (q3.2 124 c2.toNat) y4)) 124 c2.toNat (mor ((gset q3.2 124 c2.toNat (mor (q3.2 124 c2.toNat) y4)) 124 c2.toNat) y5)) 125 c2.toNat (mor (q3.2 125 c2.toNat) y6)) 125 c2.toNat (mor ((gset (gset (gset q3.2 124 c2.toNat (mor (q3.2 124 c2.toNat) y4)) 124 c2.toNat (mor ((gset q3.2 124 c2.toNat (mor (q3.2 124 c2.toNat) y4)) 124 c2.toNat) y5)) 125 c2.toNat (mor (q3.2 125 c2.toNat) y6)) 125 c2.toNat) 0)) g' h)
                          · rw [if_neg hc] at h; cases h
                        · rw [if_neg hc] at h
                          by_cases hc : 0 ≤ c2 ∧ c2 < 24
                          · rw [if_pos hc] at h
                            exact FR.tr (FR.gs (FR.gs (FR.gs (FR.gs (FR.rf _ _) (hW _ (by decide))) (hW _ (by decide))) (hW _ (by decide))) (hW _ (by decide))) (ih28 (wr (v3 + 1)) (gset (gset (gset (gset q3.2 124 c2.toNat (mor (q3.2 124 c2.toNat) y4)) 124 c2.toNat (mor ((gset q3.2 124 c2.toNat (mor (q3.2 124 c2.toNat) y4)) 124 c2.toNat) y5)) 125 c2.toNat (mor (q3.2 125 c2.toNat) y6)) 125 c2.toNat (mor ((gset (gset (gset q3.2 124 c2.toNat (mor (q3.2 124 c2.toNat) y4)) 124 c2.toNat (mor ((gset q3.2 124 c2.toNat (mor (q3.2 124 c2.toNat) y4)) 124 c2.toNat) y5)) 125 c2.toNat (mor (q3.2 125 c2.toNat) y6)) 125 c2.toNat) (mor (q1.2 125 v3.toNat) (mshl 1 (wr ((wr (2 * v3)) + 1)))))) g' h)
                          · rw [if_neg hc] at h; cases h
                      · rw [if_neg hc] at h; cases h
                    · rw [if_neg hc] at h; cases h
                  · rw [if_neg hc] at h; cases h
                · rw [if_neg hc] at h; cases h
              · rw [if_neg hc] at h; cases h
            · rw [if_neg hc] at h; cases h
          · rw [if_neg hc] at h; cases h
        · rw [if_neg hc] at h; cases h
      · rw [if_neg hc] at h; cases h
set_option maxRecDepth 100000 in
theorem fr_Md_findAheads_l2 (c1 : Int) (K2_226 : Gx → Option Gx) (W : List Nat) (hW : ∀ c ∈ ([124, 125] : List Nat), c ∈ W) (hK2_226 : ∀ (g : Gx) (g' : Gx), K2_226 g = some g' → FR W g g') : ∀ (n2 : Nat) (v2 : Int) (g : Gx) (g' : Gx), Md_findAheads_l2 c1 K2_226 n2 v2 g = some g' → FR W g g' := by
  intro n2
  induction n2 with
  | zero => intro v2 g g' h; cases h
  | succ n2 ih2 =>
    intro v2 g g' h
    rw [Md_findAheads_l2] at h
    by_cases hc : 0 ≤ c1 ∧ c1 < 30
    · rw [if_pos hc] at h
      by_cases hc : (g 110 c1.toNat) ≤ v2
      · rw [if_pos hc] at h
        exact FR.tr (FR.rf _ _) (hK2_226 g g' h)
      · rw [if_neg hc] at h
        by_cases hc : 0 ≤ v2 ∧ v2 < 24
        · rw [if_pos hc] at h
          by_cases hc : 0 ≤ v2 ∧ v2 < 24
          · rw [if_pos hc] at h
            refine FR.tr (FR.gs (FR.gs (FR.rf _ _) (hW _ (by decide))) (hW _ (by decide))) (fr_Md_findAheads_l28 c1 v2 _ W (sub_tr (by decide) hW) ?_ fu 0 (gset (gset g 124 v2.toNat 0) 125 v2.toNat 0) g' h)
            · intro g7 g' h
              by_cases hc : 0 ≤ v2 ∧ v2 < 24
              · rw [if_pos hc] at h
                by_cases hc : 0 ≤ v2 ∧ v2 < 24
                · rw [if_pos hc] at h
                  by_cases hc : 0 ≤ v2 ∧ v2 < 24
                  · rw [if_pos hc] at h
                    exact FR.tr (FR.gs (FR.rf _ _) (hW _ (by decide))) (ih2 (wr (v2 + 1)) (gset g7 125 v2.toNat (mor (g7 125 v2.toNat) (mor (g7 124 v2.toNat) (mshl 1 (wr (2 * v2)))))) g' h)
                  · rw [if_neg hc] at h; cases h
                · rw [if_neg hc] at h; cases h
              · rw [if_neg hc] at h; cases h
          · rw [if_neg hc] at h; cases h
        · rw [if_neg hc] at h; cases h
    · rw [if_neg hc] at h; cases h
set_option maxRecDepth 100000 in
theorem fr_Md_findAheads (a1 : Int) (g : Gx) (g' : Gx) (h : Md_findAheads a1 g = some g') : FR [124, 125] g g' := by
  rw [Md_findAheads] at h
  refine FR.tr (FR.rf _ _) (fr_Md_findAheads_l2 a1 _ [124, 125] (by decide) ?_ fu 0 g g' h)
  · intro g8 g' h
    cases h
    exact (FR.rf _ _)
set_option maxRecDepth 100000 in
theorem fr_Md_longest_l106 (c1 : Int) (c2 : Int) (c3 : Int) (c5 : Int) (c6 : Int) (c7 : Int) (K106_190 : Int → Gx → Option (Int × Gx)) (W : List Nat) (hW : ∀ c ∈ ([] : List Nat), c ∈ W) (hK106_190 : ∀ (x8 : Int) (g : Gx) (r : Int) (g' : Gx), K106_190 x8 g = some (r, g') → FR W g g') : ∀ (n106 : Nat) (v8 v9 : Int) (g : Gx) (r : Int) (g' : Gx), Md_longest_l106 c1 c2 c3 c5 c6 c7 K106_190 n106 v8 v9 g = some (r, g') → FR W g g' := by
  intro n106
  induction n106 with
  | zero => intro v8 v9 g r g' h; cases h
  | succ n106 ih106 =>
    intro v8 v9 g r g' h
    rw [Md_longest_l106] at h
    by_cases hc : c7 ≤ v9
    · rw [if_pos hc] at h
      exact FR.tr (FR.rf _ _) (hK106_190 v8 g r g' h)
    · rw [if_neg hc] at h
      obtain ⟨q5, hq, h⟩ := Option.bind_eq_some_iff.mp h
      refine FR.tr (FR.rf _ _) (FR.tr (FR.cl (fr_Md_code c1 v9 g q5.1 q5.2 hq) (sub_tr (by decide) hW)) ?_)
      by_cases hc : ¬ (Md_from q5.1) = c2
      · rw [if_pos hc] at h
        exact FR.tr (FR.rf _ _) (ih106 (wr (v8 + 0)) (wr (v9 + 1)) q5.2 r g' h)
      · rw [if_neg hc] at h
        obtain ⟨q6, hq, h⟩ := Option.bind_eq_some_iff.mp h
        refine FR.tr (FR.rf _ _) (FR.tr (FR.cl (fr_Md_code c1 v9 q5.2 q6.1 q6.2 hq) (sub_tr (by decide) hW)) ?_)
        obtain ⟨y7, hy7, h⟩ := lett_inv h
        by_cases hc : y7 = 0
        · rw [if_pos hc] at h
          exact FR.tr (FR.rf _ _) (ih106 (wr (v8 + 0)) (wr (v9 + 1)) q6.2 r g' h)
        · rw [if_neg hc] at h
          by_cases hc : 0 ≤ c7 ∧ c7 < 24
          · rw [if_pos hc] at h
            by_cases hc : ¬ (mcmp (mand (mshr (q6.2 124 c7.toNat) (wr ((wr (2 * v9)) + 1))) 1) 1) = 0
            · rw [if_pos hc] at h
              exact FR.tr (FR.rf _ _) (ih106 (wr (v8 + 0)) (wr (v9 + 1)) q6.2 r g' h)
            · rw [if_neg hc] at h
              exact FR.tr (FR.rf _ _) (ih106 (wr (v8 + 1)) (wr (v9 + 1)) q6.2 r g' h)
          · rw [if_neg hc] at h; cases h
set_option maxRecDepth 100000 in
theorem fr_Md_longest_l58 (c1 : Int) (c2 : Int) (c3 : Int) (K58_218 : Int → Gx → Option (Int × Gx)) (W : List Nat) (hW : ∀ c ∈ ([] : List Nat), c ∈ W) (hK58_218 : ∀ (x5 : Int) (g : Gx) (r : Int) (g' : Gx), K58_218 x5 g = some (r, g') → FR W g g') : ∀ (n58 : Nat) (v5 v6 v7 : Int) (g : Gx) (r : Int) (g' : Gx), Md_longest_l58 c1 c2 c3 K58_218 n58 v5 v6 v7 g = some (r, g') → FR W g g' := by
  intro n58
  induction n58 with
  | zero => intro v5 v6 v7 g r g' h; cases h
  | succ n58 ih58 =>
    intro v5 v6 v7 g r g' h
    rw [Md_longest_l58] at h
    by_cases hc : 0 ≤ c1 ∧ c1 < 30
    · rw [if_pos hc] at h
      by_cases hc : (g 110 c1.toNat) ≤ v7
      · rw [if_pos hc] at h
        exact FR.tr (FR.rf _ _) (hK58_218 v5 g r g' h)
      · rw [if_neg hc] at h
        obtain ⟨q3, hq, h⟩ := Option.bind_eq_some_iff.mp h
        refine FR.tr (FR.rf _ _) (FR.tr (FR.cl (fr_Md_code c1 v7 g q3.1 q3.2 hq) (sub_tr (by decide) hW)) ?_)
        by_cases hc : ¬ (Md_from q3.1) = c2
        · rw [if_pos hc] at h
          exact FR.tr (FR.rf _ _) (ih58 v5 v6 (wr (v7 + 1)) q3.2 r g' h)
        · rw [if_neg hc] at h
          obtain ⟨q4, hq, h⟩ := Option.bind_eq_some_iff.mp h
          refine FR.tr (FR.rf _ _) (FR.tr (FR.cl (fr_Md_code c1 v7 q3.2 q4.1 q4.2 hq) (sub_tr (by decide) hW)) ?_)
          by_cases hc : ¬ (Md_to q4.1) = c3
          · rw [if_pos hc] at h
            exact FR.tr (FR.rf _ _) (ih58 v5 v6 (wr (v7 + 1)) q4.2 r g' h)
          · rw [if_neg hc] at h
            refine FR.tr (FR.rf _ _) (fr_Md_longest_l106 c1 c2 c3 v5 (wr (v6 + 1)) v7 _ W (sub_tr (by decide) hW) ?_ fu 0 0 q4.2 r g' h)
            · intro x8 g9 r g' h
              by_cases hc : (wr ((wr (v6 + 1)) - x8)) ≤ v5
              · rw [if_pos hc] at h
                exact FR.tr (FR.rf _ _) (ih58 v5 (wr (v6 + 1)) (wr (v7 + 1)) g9 r g' h)
              · rw [if_neg hc] at h
                exact FR.tr (FR.rf _ _) (ih58 (wr ((wr (v6 + 1)) - x8)) (wr (v6 + 1)) (wr (v7 + 1)) g9 r g' h)
    · rw [if_neg hc] at h; cases h
set_option maxRecDepth 100000 in
theorem fr_Md_longest (a1 a2 a3 : Int) (g : Gx) (r : Int) (g' : Gx) (h : Md_longest a1 a2 a3 g = some (r, g')) : FR [99, 100, 101, 102, 103, 104, 105, 110, 111, 112, 113, 114, 115, 116, 117, 124, 125, 6896, 6897, 6904, 6905, 6906, 6908, 6914, 6923, 6924] g g' := by
  rw [Md_longest] at h
  by_cases hc : (Md_isHistory a1) = 0
  · rw [if_pos hc] at h
    cases h
    exact (FR.rf _ _)
  · rw [if_neg hc] at h
    by_cases hc : (Md_isOne a2) = 0
    · rw [if_pos hc] at h
      cases h
      exact (FR.rf _ _)
    · rw [if_neg hc] at h
      by_cases hc : (Md_isOne a3) = 0
      · rw [if_pos hc] at h
        cases h
        exact (FR.rf _ _)
      · rw [if_neg hc] at h
        by_cases hc : ¬ a2 = a3
        · rw [if_pos hc] at h
          obtain ⟨q1, hq, h⟩ := Option.bind_eq_some_iff.mp h
          refine FR.tr (FR.rf _ _) (FR.tr (FR.cl (fr_Md_lacksOne a1 g q1.1 q1.2 hq) (by decide)) ?_)
          by_cases hc : q1.1 = 0
          · rw [if_pos hc] at h
            obtain ⟨g2, hq, h⟩ := Option.bind_eq_some_iff.mp h
            refine FR.tr (FR.rf _ _) (FR.tr (FR.cl (fr_Md_findAheads a1 q1.2 g2 hq) (by decide)) ?_)
            refine FR.tr (FR.rf _ _) (fr_Md_longest_l58 a1 a2 a3 _ [99, 100, 101, 102, 103, 104, 105, 110, 111, 112, 113, 114, 115, 116, 117, 124, 125, 6896, 6897, 6904, 6905, 6906, 6908, 6914, 6923, 6924] (by decide) ?_ fu 0 0 0 g2 r g' h)
            · intro x10 g11 r g' h
              cases h
              exact (FR.rf _ _)
          · rw [if_neg hc] at h
            cases h
            exact (FR.rf _ _)
        · rw [if_neg hc] at h
          cases h
          exact (FR.rf _ _)
set_option maxRecDepth 100000 in
theorem fr_Rn_chain_l22 (c1 : Int) (c2 : Int) (c3 : Int) (K22_78 : Int → Gx → Option (Int × Gx)) (W : List Nat) (hW : ∀ c ∈ ([] : List Nat), c ∈ W) (hK22_78 : ∀ (x4 : Int) (g : Gx) (r : Int) (g' : Gx), K22_78 x4 g = some (r, g') → FR W g g') : ∀ (n22 : Nat) (v4 v5 : Int) (g : Gx) (r : Int) (g' : Gx), Rn_chain_l22 c1 c2 c3 K22_78 n22 v4 v5 g = some (r, g') → FR W g g' := by
  intro n22
  induction n22 with
  | zero => intro v4 v5 g r g' h; cases h
  | succ n22 ih22 =>
    intro v4 v5 g r g' h
    rw [Rn_chain_l22] at h
    by_cases hc : c3 ≤ v5
    · rw [if_pos hc] at h
      exact FR.tr (FR.rf _ _) (hK22_78 v4 g r g' h)
    · rw [if_neg hc] at h
      by_cases hc : ¬ (Op_getter (Hi_word c1 v5 g)) = (Op_sayer (Hi_word c1 c3 g))
      · rw [if_pos hc] at h
        exact FR.tr (FR.rf _ _) (ih22 v4 (wr (v5 + 1)) g r g' h)
      · rw [if_neg hc] at h
        exact FR.tr (FR.rf _ _) (ih22 (imax v4 (rat g 68 24 v5)) (wr (v5 + 1)) g r g' h)
set_option maxRecDepth 100000 in
theorem fr_Rn_chain_l4 (c1 : Int) (K4_105 : Int → Gx → Option (Int × Gx)) (W : List Nat) (hW : ∀ c ∈ ([68] : List Nat), c ∈ W) (hK4_105 : ∀ (x2 : Int) (g : Gx) (r : Int) (g' : Gx), K4_105 x2 g = some (r, g') → FR W g g') : ∀ (n4 : Nat) (v2 v3 : Int) (g : Gx) (r : Int) (g' : Gx), Rn_chain_l4 c1 K4_105 n4 v2 v3 g = some (r, g') → FR W g g' := by
  intro n4
  induction n4 with
  | zero => intro v2 v3 g r g' h; cases h
  | succ n4 ih4 =>
    intro v2 v3 g r g' h
    rw [Rn_chain_l4] at h
    by_cases hc : (Hi_length c1 g) ≤ v3
    · rw [if_pos hc] at h
      exact FR.tr (FR.rf _ _) (hK4_105 v2 g r g' h)
    · rw [if_neg hc] at h
      refine FR.tr (FR.rf _ _) (fr_Rn_chain_l22 c1 v2 v3 _ W (sub_tr (by decide) hW) ?_ fu 0 0 g r g' h)
      · intro x1 g2 r g' h
        exact FR.tr (FR.rs (FR.rf _ _) (hW _ (by decide))) (ih4 (imax v2 (wr (x1 + 1))) (wr (v3 + 1)) (rset g2 68 24 v3 (wr (x1 + 1))) r g' h)
set_option maxRecDepth 100000 in
theorem fr_Rn_chain (a1 : Int) (g : Gx) (r : Int) (g' : Gx) (h : Rn_chain a1 g = some (r, g')) : FR [68] g g' := by
  rw [Rn_chain] at h
  refine FR.tr (FR.rf _ _) (fr_Rn_chain_l4 a1 _ [68] (by decide) ?_ fu 0 0 g r g' h)
  · intro x3 g4 r g' h
    cases h
    exact (FR.rf _ _)
set_option maxRecDepth 100000 in
theorem fr_Rn_goesWithOneAhead_l32 (c1 : Int) (c3 : Int) (c4 : Int) (K32_83 : Gx → Option (Int × Gx)) (W : List Nat) (hW : ∀ c ∈ ([] : List Nat), c ∈ W) (hK32_83 : ∀ (g : Gx) (r : Int) (g' : Gx), K32_83 g = some (r, g') → FR W g g') : ∀ (n32 : Nat) (v5 : Int) (g : Gx) (r : Int) (g' : Gx), Rn_goesWithOneAhead_l32 c1 c3 c4 K32_83 n32 v5 g = some (r, g') → FR W g g' := by
  intro n32
  induction n32 with
  | zero => intro v5 g r g' h; cases h
  | succ n32 ih32 =>
    intro v5 g r g' h
    rw [Rn_goesWithOneAhead_l32] at h
    by_cases hc : v5 < 0
    · rw [if_pos hc] at h
      exact FR.tr (FR.rf _ _) (hK32_83 g r g' h)
    · rw [if_neg hc] at h
      by_cases hc : ¬ (Rn_takesPart c3 (Hi_word c1 v5 g)) = 0
      · rw [if_pos hc] at h
        cases h
        exact (FR.rf _ _)
      · rw [if_neg hc] at h
        by_cases hc : (Rn_takesPart c4 (Hi_word c1 v5 g)) = 0
        · rw [if_pos hc] at h
          exact FR.tr (FR.rf _ _) (ih32 (wr (v5 + (-1))) g r g' h)
        · rw [if_neg hc] at h
          cases h
          exact (FR.rf _ _)
set_option maxRecDepth 100000 in
theorem fr_Rn_goesWithOneAhead (a1 a2 : Int) (g : Gx) (r : Int) (g' : Gx) (h : Rn_goesWithOneAhead a1 a2 g = some (r, g')) : FR [] g g' := by
  rw [Rn_goesWithOneAhead] at h
  refine FR.tr (FR.rf _ _) (fr_Rn_goesWithOneAhead_l32 a1 (Op_sayer (Hi_word a1 a2 g)) (Op_getter (Hi_word a1 a2 g)) _ [] (by decide) ?_ fu (wr (a2 - 1)) g r g' h)
  · intro g1 r g' h
    cases h
    exact (FR.rf _ _)
set_option maxRecDepth 100000 in
theorem fr_Rn_packed_l4 (c1 : Int) (K4_34 : Int → Gx → Option (Int × Gx)) (W : List Nat) (hW : ∀ c ∈ ([] : List Nat), c ∈ W) (hK4_34 : ∀ (x2 : Int) (g : Gx) (r : Int) (g' : Gx), K4_34 x2 g = some (r, g') → FR W g g') : ∀ (n4 : Nat) (v2 v3 : Int) (g : Gx) (r : Int) (g' : Gx), Rn_packed_l4 c1 K4_34 n4 v2 v3 g = some (r, g') → FR W g g' := by
  intro n4
  induction n4 with
  | zero => intro v2 v3 g r g' h; cases h
  | succ n4 ih4 =>
    intro v2 v3 g r g' h
    rw [Rn_packed_l4] at h
    by_cases hc : (Hi_length c1 g) ≤ v3
    · rw [if_pos hc] at h
      exact FR.tr (FR.rf _ _) (hK4_34 v2 g r g' h)
    · rw [if_neg hc] at h
      obtain ⟨q1, hq, h⟩ := Option.bind_eq_some_iff.mp h
      refine FR.tr (FR.rf _ _) (FR.tr (FR.cl (fr_Rn_goesWithOneAhead c1 v3 g q1.1 q1.2 hq) (sub_tr (by decide) hW)) ?_)
      by_cases hc : ¬ q1.1 = 0
      · rw [if_pos hc] at h
        exact FR.tr (FR.rf _ _) (ih4 v2 (wr (v3 + 1)) q1.2 r g' h)
      · rw [if_neg hc] at h
        exact FR.tr (FR.rf _ _) (ih4 (wr (v2 + 1)) (wr (v3 + 1)) q1.2 r g' h)
set_option maxRecDepth 100000 in
theorem fr_Rn_packed (a1 : Int) (g : Gx) (r : Int) (g' : Gx) (h : Rn_packed a1 g = some (r, g')) : FR [] g g' := by
  rw [Rn_packed] at h
  refine FR.tr (FR.rf _ _) (fr_Rn_packed_l4 a1 _ [] (by decide) ?_ fu 0 0 g r g' h)
  · intro x2 g3 r g' h
    cases h
    exact (FR.rf _ _)
set_option maxRecDepth 100000 in
theorem fr_Op_trips (a1 a2 : Int) (g : Gx) (r : Int) (g' : Gx) (h : Op_trips a1 a2 g = some (r, g')) : FR [9, 11, 13, 15, 17, 19, 21, 23, 25, 27, 30, 32, 35, 37, 39, 41, 43, 45, 47, 49, 68, 1458, 1459, 1460, 2796, 2797, 2798, 2799, 2800, 2801, 3121, 3122, 3123, 3124, 3125, 3126, 3127, 3128] g g' := by
  rw [Op_trips] at h
  by_cases hc : (Op_isHistory a1) = 0
  · rw [if_pos hc] at h
    cases h
    exact (FR.rf _ _)
  · rw [if_neg hc] at h
    by_cases hc : a2 < 0
    · rw [if_pos hc] at h
      cases h
      exact (FR.rf _ _)
    · rw [if_neg hc] at h
      by_cases hc : a2 ≤ 1
      · rw [if_pos hc] at h
        obtain ⟨q1, hq, h⟩ := Option.bind_eq_some_iff.mp h
        refine FR.tr (FR.rf _ _) (FR.tr (FR.cl (fr_Op_hindrance a1 g q1.1 q1.2 hq) (by decide)) ?_)
        by_cases hc : q1.1 = 0
        · rw [if_pos hc] at h
          by_cases hc : ¬ a2 = 0
          · rw [if_pos hc] at h
            obtain ⟨q2, hq, h⟩ := Option.bind_eq_some_iff.mp h
            refine FR.tr (FR.rf _ _) (FR.tr (FR.cl (fr_Rn_packed a1 q1.2 q2.1 q2.2 hq) (by decide)) ?_)
            cases h
            exact (FR.rf _ _)
          · rw [if_neg hc] at h
            obtain ⟨q3, hq, h⟩ := Option.bind_eq_some_iff.mp h
            refine FR.tr (FR.rf _ _) (FR.tr (FR.cl (fr_Rn_chain a1 q1.2 q3.1 q3.2 hq) (by decide)) ?_)
            cases h
            exact (FR.rf _ _)
        · rw [if_neg hc] at h
          cases h
          exact (FR.rf _ _)
      · rw [if_neg hc] at h
        cases h
        exact (FR.rf _ _)
set_option maxRecDepth 100000 in
theorem fr_Md_chainOf_l24 (c1 : Int) (c2 : Int) (c3 : Int) (K24_112 : Gx → Option (Int × Gx)) (W : List Nat) (hW : ∀ c ∈ ([126] : List Nat), c ∈ W) (hK24_112 : ∀ (g : Gx) (r : Int) (g' : Gx), K24_112 g = some (r, g') → FR W g g') : ∀ (n24 : Nat) (v4 : Int) (g : Gx) (r : Int) (g' : Gx), Md_chainOf_l24 c1 c2 c3 K24_112 n24 v4 g = some (r, g') → FR W g g' := by
  intro n24
  induction n24 with
  | zero => intro v4 g r g' h; cases h
  | succ n24 ih24 =>
    intro v4 g r g' h
    rw [Md_chainOf_l24] at h
    by_cases hc : c3 ≤ v4
    · rw [if_pos hc] at h
      exact FR.tr (FR.rf _ _) (hK24_112 g r g' h)
    · rw [if_neg hc] at h
      obtain ⟨q1, hq, h⟩ := Option.bind_eq_some_iff.mp h
      refine FR.tr (FR.rf _ _) (FR.tr (FR.cl (fr_Md_code c1 v4 g q1.1 q1.2 hq) (sub_tr (by decide) hW)) ?_)
      obtain ⟨q2, hq, h⟩ := Option.bind_eq_some_iff.mp h
      refine FR.tr (FR.rf _ _) (FR.tr (FR.cl (fr_Md_code c1 c3 q1.2 q2.1 q2.2 hq) (sub_tr (by decide) hW)) ?_)
      obtain ⟨y3, hy3, h⟩ := lett_inv h
      by_cases hc : y3 = 0
      · rw [if_pos hc] at h
        by_cases hc : 0 ≤ c3 ∧ c3 < 24
        · rw [if_pos hc] at h
          by_cases hc : 0 ≤ c3 ∧ c3 < 24
          · rw [if_pos hc] at h
            exact FR.tr (FR.gs (FR.rf _ _) (hW _ (by decide))) (ih24 (wr (v4 + 1)) (gset q2.2 126 c3.toNat (q2.2 126 c3.toNat)) r g' h)
          · rw [if_neg hc] at h; cases h
        · rw [if_neg hc] at h; cases h
      · rw [if_neg hc] at h
        by_cases hc : 0 ≤ v4 ∧ v4 < 24
        · rw [if_pos hc] at h
          by_cases hc : 0 ≤ c3 ∧ c3 < 24
          · rw [if_pos hc] at h
            by_cases hc : (wr ((q2.2 126 v4.toNat) + 1)) ≤ (q2.2 126 c3.toNat)
            · rw [if_pos hc] at h
              by_cases hc : 0 ≤ c3 ∧ c3 < 24
              · rw [if_pos hc] at h
                by_cases hc : 0 ≤ c3 ∧ c3 < 24
                · rw [if_pos hc] at h
                  exact FR.tr (FR.gs (FR.rf _ _) (hW _ (by decide))) (ih24 (wr (v4 + 1)) (gset q2.2 126 c3.toNat (q2.2 126 c3.toNat)) r g' h)
                · rw [if_neg hc] at h; cases h
              · rw [if_neg hc] at h; cases h
            · rw [if_neg hc] at h
              by_cases hc : 0 ≤ v4 ∧ v4 < 24
              · rw [if_pos hc] at h
                by_cases hc : 0 ≤ c3 ∧ c3 < 24
                · rw [if_pos hc] at h
                  exact FR.tr (FR.gs (FR.rf _ _) (hW _ (by decide))) (ih24 (wr (v4 + 1)) (gset q2.2 126 c3.toNat (wr ((q2.2 126 v4.toNat) + 1))) r g' h)
                · rw [if_neg hc] at h; cases h
              · rw [if_neg hc] at h; cases h
          · rw [if_neg hc] at h; cases h
        · rw [if_neg hc] at h; cases h
set_option maxRecDepth 100000 in
theorem fr_Md_chainOf_l4 (c1 : Int) (K4_139 : Int → Gx → Option (Int × Gx)) (W : List Nat) (hW : ∀ c ∈ ([126] : List Nat), c ∈ W) (hK4_139 : ∀ (x2 : Int) (g : Gx) (r : Int) (g' : Gx), K4_139 x2 g = some (r, g') → FR W g g') : ∀ (n4 : Nat) (v2 v3 : Int) (g : Gx) (r : Int) (g' : Gx), Md_chainOf_l4 c1 K4_139 n4 v2 v3 g = some (r, g') → FR W g g' := by
  intro n4
  induction n4 with
  | zero => intro v2 v3 g r g' h; cases h
  | succ n4 ih4 =>
    intro v2 v3 g r g' h
    rw [Md_chainOf_l4] at h
    by_cases hc : 0 ≤ c1 ∧ c1 < 30
    · rw [if_pos hc] at h
      by_cases hc : (g 110 c1.toNat) ≤ v3
      · rw [if_pos hc] at h
        exact FR.tr (FR.rf _ _) (hK4_139 v2 g r g' h)
      · rw [if_neg hc] at h
        by_cases hc : 0 ≤ v3 ∧ v3 < 24
        · rw [if_pos hc] at h
          refine FR.tr (FR.gs (FR.rf _ _) (hW _ (by decide))) (fr_Md_chainOf_l24 c1 v2 v3 _ W (sub_tr (by decide) hW) ?_ fu 0 (gset g 126 v3.toNat 1) r g' h)
          · intro g4 r g' h
            by_cases hc : 0 ≤ v3 ∧ v3 < 24
            · rw [if_pos hc] at h
              by_cases hc : (g4 126 v3.toNat) ≤ v2
              · rw [if_pos hc] at h
                exact FR.tr (FR.rf _ _) (ih4 v2 (wr (v3 + 1)) g4 r g' h)
              · rw [if_neg hc] at h
                by_cases hc : 0 ≤ v3 ∧ v3 < 24
                · rw [if_pos hc] at h
                  exact FR.tr (FR.rf _ _) (ih4 (g4 126 v3.toNat) (wr (v3 + 1)) g4 r g' h)
                · rw [if_neg hc] at h; cases h
            · rw [if_neg hc] at h; cases h
        · rw [if_neg hc] at h; cases h
    · rw [if_neg hc] at h; cases h
set_option maxRecDepth 100000 in
theorem fr_Md_chainOf (a1 : Int) (g : Gx) (r : Int) (g' : Gx) (h : Md_chainOf a1 g = some (r, g')) : FR [126] g g' := by
  rw [Md_chainOf] at h
  refine FR.tr (FR.rf _ _) (fr_Md_chainOf_l4 a1 _ [126] (by decide) ?_ fu 0 0 g r g' h)
  · intro x5 g6 r g' h
    cases h
    exact (FR.rf _ _)
set_option maxRecDepth 100000 in
theorem fr_Md_packedOf_l41 (c1 : Int) (c2 : Int) (c3 : Int) (c4 : Int) (c5 : Int) (K41_112 : Int → Gx → Option (Int × Gx)) (W : List Nat) (hW : ∀ c ∈ ([] : List Nat), c ∈ W) (hK41_112 : ∀ (x6 : Int) (g : Gx) (r : Int) (g' : Gx), K41_112 x6 g = some (r, g') → FR W g g') : ∀ (n41 : Nat) (v6 : Int) (g : Gx) (r : Int) (g' : Gx), Md_packedOf_l41 c1 c2 c3 c4 c5 K41_112 n41 v6 g = some (r, g') → FR W g g' := by
  intro n41
  induction n41 with
  | zero => intro v6 g r g' h; cases h
  | succ n41 ih41 =>
    intro v6 g r g' h
    rw [Md_packedOf_l41] at h
    by_cases hc : v6 < 0
    · rw [if_pos hc] at h
      exact FR.tr (FR.rf _ _) (hK41_112 v6 g r g' h)
    · rw [if_neg hc] at h
      obtain ⟨q3, hq, h⟩ := Option.bind_eq_some_iff.mp h
      refine FR.tr (FR.rf _ _) (FR.tr (FR.cl (fr_Md_code c1 v6 g q3.1 q3.2 hq) (sub_tr (by decide) hW)) ?_)
      by_cases hc : (Md_from q3.1) = c4
      · rw [if_pos hc] at h
        exact FR.tr (FR.rf _ _) (hK41_112 v6 q3.2 r g' h)
      · rw [if_neg hc] at h
        obtain ⟨q4, hq, h⟩ := Option.bind_eq_some_iff.mp h
        refine FR.tr (FR.rf _ _) (FR.tr (FR.cl (fr_Md_code c1 v6 q3.2 q4.1 q4.2 hq) (sub_tr (by decide) hW)) ?_)
        by_cases hc : (Md_to q4.1) = c4
        · rw [if_pos hc] at h
          exact FR.tr (FR.rf _ _) (hK41_112 v6 q4.2 r g' h)
        · rw [if_neg hc] at h
          obtain ⟨q5, hq, h⟩ := Option.bind_eq_some_iff.mp h
          refine FR.tr (FR.rf _ _) (FR.tr (FR.cl (fr_Md_code c1 v6 q4.2 q5.1 q5.2 hq) (sub_tr (by decide) hW)) ?_)
          by_cases hc : (Md_from q5.1) = c5
          · rw [if_pos hc] at h
            exact FR.tr (FR.rf _ _) (hK41_112 v6 q5.2 r g' h)
          · rw [if_neg hc] at h
            obtain ⟨q6, hq, h⟩ := Option.bind_eq_some_iff.mp h
            refine FR.tr (FR.rf _ _) (FR.tr (FR.cl (fr_Md_code c1 v6 q5.2 q6.1 q6.2 hq) (sub_tr (by decide) hW)) ?_)
            by_cases hc : (Md_to q6.1) = c5
            · rw [if_pos hc] at h
              exact FR.tr (FR.rf _ _) (hK41_112 v6 q6.2 r g' h)
            · rw [if_neg hc] at h
              exact FR.tr (FR.rf _ _) (ih41 (wr (v6 + (-1))) q6.2 r g' h)
set_option maxRecDepth 100000 in
theorem fr_Md_packedOf_l4 (c1 : Int) (K4_173 : Int → Gx → Option (Int × Gx)) (W : List Nat) (hW : ∀ c ∈ ([] : List Nat), c ∈ W) (hK4_173 : ∀ (x2 : Int) (g : Gx) (r : Int) (g' : Gx), K4_173 x2 g = some (r, g') → FR W g g') : ∀ (n4 : Nat) (v2 v3 : Int) (g : Gx) (r : Int) (g' : Gx), Md_packedOf_l4 c1 K4_173 n4 v2 v3 g = some (r, g') → FR W g g' := by
  intro n4
  induction n4 with
  | zero => intro v2 v3 g r g' h; cases h
  | succ n4 ih4 =>
    intro v2 v3 g r g' h
    rw [Md_packedOf_l4] at h
    by_cases hc : 0 ≤ c1 ∧ c1 < 30
    · rw [if_pos hc] at h
      by_cases hc : (g 110 c1.toNat) ≤ v3
      · rw [if_pos hc] at h
        exact FR.tr (FR.rf _ _) (hK4_173 v2 g r g' h)
      · rw [if_neg hc] at h
        obtain ⟨q1, hq, h⟩ := Option.bind_eq_some_iff.mp h
        refine FR.tr (FR.rf _ _) (FR.tr (FR.cl (fr_Md_code c1 v3 g q1.1 q1.2 hq) (sub_tr (by decide) hW)) ?_)
        obtain ⟨q2, hq, h⟩ := Option.bind_eq_some_iff.mp h
        refine FR.tr (FR.rf _ _) (FR.tr (FR.cl (fr_Md_code c1 v3 q1.2 q2.1 q2.2 hq) (sub_tr (by decide) hW)) ?_)
        refine FR.tr (FR.rf _ _) (fr_Md_packedOf_l41 c1 v2 v3 (Md_from q1.1) (Md_to q2.1) _ W (sub_tr (by decide) hW) ?_ fu (wr (v3 - 1)) q2.2 r g' h)
        · intro x7 g8 r g' h
          by_cases hc : x7 < 0
          · rw [if_pos hc] at h
            exact FR.tr (FR.rf _ _) (ih4 (wr (v2 + 1)) (wr (v3 + 1)) g8 r g' h)
          · rw [if_neg hc] at h
            obtain ⟨q9, hq, h⟩ := Option.bind_eq_some_iff.mp h
            refine FR.tr (FR.rf _ _) (FR.tr (FR.cl (fr_Md_code c1 x7 g8 q9.1 q9.2 hq) (sub_tr (by decide) hW)) ?_)
            by_cases hc : ¬ (Md_from q9.1) = (Md_from q1.1)
            · rw [if_pos hc] at h
              exact FR.tr (FR.rf _ _) (ih4 (wr (v2 + 1)) (wr (v3 + 1)) q9.2 r g' h)
            · rw [if_neg hc] at h
              obtain ⟨q10, hq, h⟩ := Option.bind_eq_some_iff.mp h
              refine FR.tr (FR.rf _ _) (FR.tr (FR.cl (fr_Md_code c1 x7 q9.2 q10.1 q10.2 hq) (sub_tr (by decide) hW)) ?_)
              obtain ⟨y11, hy11, h⟩ := lett_inv h
              by_cases hc : y11 = 0
              · rw [if_pos hc] at h
                exact FR.tr (FR.rf _ _) (ih4 (wr (v2 + 1)) (wr (v3 + 1)) q10.2 r g' h)
              · rw [if_neg hc] at h
                exact FR.tr (FR.rf _ _) (ih4 (wr (v2 + 0)) (wr (v3 + 1)) q10.2 r g' h)
    · rw [if_neg hc] at h; cases h
set_option maxRecDepth 100000 in
theorem fr_Md_packedOf (a1 : Int) (g : Gx) (r : Int) (g' : Gx) (h : Md_packedOf a1 g = some (r, g')) : FR [] g g' := by
  rw [Md_packedOf] at h
  refine FR.tr (FR.rf _ _) (fr_Md_packedOf_l4 a1 _ [] (by decide) ?_ fu 0 0 g r g' h)
  · intro x12 g13 r g' h
    cases h
    exact (FR.rf _ _)
set_option maxRecDepth 100000 in
theorem fr_Md_trips (a1 a2 : Int) (g : Gx) (r : Int) (g' : Gx) (h : Md_trips a1 a2 g = some (r, g')) : FR [99, 100, 101, 102, 103, 104, 105, 110, 111, 112, 113, 114, 115, 116, 117, 126, 6896, 6897, 6904, 6905, 6906, 6908, 6914, 6923, 6924] g g' := by
  rw [Md_trips] at h
  by_cases hc : (Md_isHistory a1) = 0
  · rw [if_pos hc] at h
    cases h
    exact (FR.rf _ _)
  · rw [if_neg hc] at h
    by_cases hc : ¬ (Md_in a2 0 1) = 0
    · rw [if_pos hc] at h
      obtain ⟨q1, hq, h⟩ := Option.bind_eq_some_iff.mp h
      refine FR.tr (FR.rf _ _) (FR.tr (FR.cl (fr_Md_lacksOne a1 g q1.1 q1.2 hq) (by decide)) ?_)
      by_cases hc : q1.1 = 0
      · rw [if_pos hc] at h
        by_cases hc : ¬ a2 = 0
        · rw [if_pos hc] at h
          obtain ⟨q2, hq, h⟩ := Option.bind_eq_some_iff.mp h
          refine FR.tr (FR.rf _ _) (FR.tr (FR.cl (fr_Md_packedOf a1 q1.2 q2.1 q2.2 hq) (by decide)) ?_)
          cases h
          exact (FR.rf _ _)
        · rw [if_neg hc] at h
          obtain ⟨q3, hq, h⟩ := Option.bind_eq_some_iff.mp h
          refine FR.tr (FR.rf _ _) (FR.tr (FR.cl (fr_Md_chainOf a1 q1.2 q3.1 q3.2 hq) (by decide)) ?_)
          cases h
          exact (FR.rf _ _)
      · rw [if_neg hc] at h
        cases h
        exact (FR.rf _ _)
    · rw [if_neg hc] at h
      cases h
      exact (FR.rf _ _)
set_option maxRecDepth 100000 in
theorem fr_Rn_goWithLost_l14 (c1 : Int) (c2 : Int) (K14_171 : Int → Gx → Option Gx) (W : List Nat) (hW : ∀ c ∈ ([4848] : List Nat), c ∈ W) (hK14_171 : ∀ (x4 : Int) (g : Gx) (g' : Gx), K14_171 x4 g = some g' → FR W g g') : ∀ (n14 : Nat) (v4 v5 v6 : Int) (g : Gx) (g' : Gx), Rn_goWithLost_l14 c1 c2 K14_171 n14 v4 v5 v6 g = some g' → FR W g g' := by
  intro n14
  induction n14 with
  | zero => intro v4 v5 v6 g g' h; cases h
  | succ n14 ih14 =>
    intro v4 v5 v6 g g' h
    rw [Rn_goWithLost_l14] at h
    by_cases hc : (Hi_length c1 g) ≤ v6
    · rw [if_pos hc] at h
      exact FR.tr (FR.rf _ _) (hK14_171 v4 g g' h)
    · rw [if_neg hc] at h
      obtain ⟨y1, hy1, h⟩ := lett_inv h
      obtain ⟨y2, hy2, h⟩ := lett_inv h
      obtain ⟨y3, hy3, h⟩ := lett_inv h
      obtain ⟨y4, hy4, h⟩ := lett_inv h
      obtain ⟨y5, hy5, h⟩ := lett_inv h
      by_cases hc : y3 = 0
      · rw [if_pos hc] at h
        exact FR.tr (FR.go (FR.rf _ _) ⟨rfl, hW _ (by decide)⟩) (ih14 (jor y1 y5) y2 (wr (v6 + 1)) (gset g 60 8 (wr ((g 60 8) + 0))) g' h)
      · rw [if_neg hc] at h
        by_cases hc : ¬ y4 = 0
        · rw [if_pos hc] at h
          exact FR.tr (FR.go (FR.rf _ _) ⟨rfl, hW _ (by decide)⟩) (ih14 (jor y1 y5) y2 (wr (v6 + 1)) (gset g 60 8 (wr ((g 60 8) + 0))) g' h)
        · rw [if_neg hc] at h
          exact FR.tr (FR.go (FR.rf _ _) ⟨rfl, hW _ (by decide)⟩) (ih14 (jor y1 y5) y2 (wr (v6 + 1)) (gset g 60 8 (wr ((g 60 8) + 1))) g' h)
set_option maxRecDepth 100000 in
theorem fr_Rn_goWithLost (a1 a2 a3 : Int) (g : Gx) (g' : Gx) (h : Rn_goWithLost a1 a2 a3 g = some g') : FR [4847, 4848] g g' := by
  rw [Rn_goWithLost] at h
  refine FR.tr (FR.go (FR.rf _ _) ⟨rfl, by decide⟩) (fr_Rn_goWithLost_l14 a1 a2 _ [4847, 4848] (by decide) ?_ fu 0 a3 0 (gset g 60 8 0) g' h)
  · intro x6 g7 g' h
    cases h
    exact (FR.go (FR.rf _ _) ⟨rfl, by decide⟩)
set_option maxRecDepth 100000 in
theorem fr_Op_lost (a1 a2 a3 a4 : Int) (g : Gx) (r : Int) (g' : Gx) (h : Op_lost a1 a2 a3 a4 g = some (r, g')) : FR [9, 11, 13, 15, 17, 19, 21, 23, 25, 27, 30, 32, 35, 37, 39, 41, 43, 45, 47, 49, 1458, 1459, 1460, 2796, 2797, 2798, 2799, 2800, 2801, 3121, 3122, 3123, 3124, 3125, 3126, 3127, 3128, 4847, 4848] g g' := by
  rw [Op_lost] at h
  by_cases hc : (Op_isHistory a1) = 0
  · rw [if_pos hc] at h
    cases h
    exact (FR.rf _ _)
  · rw [if_neg hc] at h
    by_cases hc : (Op_isTalker a2) = 0
    · rw [if_pos hc] at h
      cases h
      exact (FR.rf _ _)
    · rw [if_neg hc] at h
      by_cases hc : a3 < 0
      · rw [if_pos hc] at h
        cases h
        exact (FR.rf _ _)
      · rw [if_neg hc] at h
        by_cases hc : a4 < 0
        · rw [if_pos hc] at h
          cases h
          exact (FR.rf _ _)
        · rw [if_neg hc] at h
          by_cases hc : a4 ≤ 1
          · rw [if_pos hc] at h
            obtain ⟨q1, hq, h⟩ := Option.bind_eq_some_iff.mp h
            refine FR.tr (FR.rf _ _) (FR.tr (FR.cl (fr_Op_hindrance a1 g q1.1 q1.2 hq) (by decide)) ?_)
            by_cases hc : q1.1 = 0
            · rw [if_pos hc] at h
              obtain ⟨g2, hq, h⟩ := Option.bind_eq_some_iff.mp h
              refine FR.tr (FR.rf _ _) (FR.tr (FR.cl (fr_Rn_goWithLost a1 a2 a3 q1.2 g2 hq) (by decide)) ?_)
              by_cases hc : ¬ a4 = 0
              · rw [if_pos hc] at h
                cases h
                exact (FR.rf _ _)
              · rw [if_neg hc] at h
                cases h
                exact (FR.rf _ _)
            · rw [if_neg hc] at h
              cases h
              exact (FR.rf _ _)
          · rw [if_neg hc] at h
            cases h
            exact (FR.rf _ _)
set_option maxRecDepth 100000 in
theorem fr_Md_lost_l69 (c1 : Int) (c2 : Int) (c3 : Int) (c4 : Int) (K69_114 : Int → Gx → Option (Int × Gx)) (W : List Nat) (hW : ∀ c ∈ ([121, 122, 6932] : List Nat), c ∈ W) (hK69_114 : ∀ (x6 : Int) (g : Gx) (r : Int) (g' : Gx), K69_114 x6 g = some (r, g') → FR W g g') : ∀ (n69 : Nat) (v6 v7 : Int) (g : Gx) (r : Int) (g' : Gx), Md_lost_l69 c1 c2 c3 c4 K69_114 n69 v6 v7 g = some (r, g') → FR W g g' := by
  intro n69
  induction n69 with
  | zero => intro v6 v7 g r g' h; cases h
  | succ n69 ih69 =>
    intro v6 v7 g r g' h
    rw [Md_lost_l69] at h
    by_cases hc : 6 ≤ v7
    · rw [if_pos hc] at h
      exact FR.tr (FR.rf _ _) (hK69_114 v6 g r g' h)
    · rw [if_neg hc] at h
      obtain ⟨y4, hy4, h⟩ := lett_inv h
      obtain ⟨q5, hq, h⟩ := Option.bind_eq_some_iff.mp h
      refine FR.tr (FR.rf _ _) (FR.tr (FR.cl (fr_Md_can v7 c1 y4 g q5.1 q5.2 hq) (sub_tr (by decide) hW)) ?_)
      by_cases hc : q5.1 = 0
      · rw [if_pos hc] at h
        exact FR.tr (FR.rf _ _) (ih69 v6 (wr (v7 + 1)) q5.2 r g' h)
      · rw [if_neg hc] at h
        obtain ⟨g6, hq, h⟩ := Option.bind_eq_some_iff.mp h
        refine FR.tr (FR.rf _ _) (FR.tr (FR.cl (fr_Md_does v7 c1 q5.2 g6 hq) (sub_tr (by decide) hW)) ?_)
        exact FR.tr (FR.rf _ _) (ih69 1 (wr (v7 + 1)) g6 r g' h)
set_option maxRecDepth 100000 in
theorem fr_Md_lost_l58 (c1 : Int) (c2 : Int) (c3 : Int) (c4 : Int) (K58_117 : Gx → Option (Int × Gx)) (W : List Nat) (hW : ∀ c ∈ ([121, 122, 6932] : List Nat), c ∈ W) (hK58_117 : ∀ (g : Gx) (r : Int) (g' : Gx), K58_117 g = some (r, g') → FR W g g') : ∀ (n58 : Nat) (v6 : Int) (g : Gx) (r : Int) (g' : Gx), Md_lost_l58 c1 c2 c3 c4 K58_117 n58 v6 g = some (r, g') → FR W g g' := by
  intro n58
  induction n58 with
  | zero => intro v6 g r g' h; cases h
  | succ n58 ih58 =>
    intro v6 g r g' h
    rw [Md_lost_l58] at h
    by_cases hc : v6 = 0
    · rw [if_pos hc] at h
      exact FR.tr (FR.rf _ _) (hK58_117 g r g' h)
    · rw [if_neg hc] at h
      refine FR.tr (FR.rf _ _) (fr_Md_lost_l69 c1 c2 c3 c4 _ W (sub_tr (by decide) hW) ?_ fu 0 0 g r g' h)
      · intro x7 g8 r g' h
        exact FR.tr (FR.rf _ _) (ih58 x7 g8 r g' h)
set_option maxRecDepth 100000 in
theorem fr_Md_lost_l126 (c1 : Int) (c2 : Int) (c4 : Int) (c8 : Int) (K126_180 : Int → Gx → Option (Int × Gx)) (W : List Nat) (hW : ∀ c ∈ ([] : List Nat), c ∈ W) (hK126_180 : ∀ (x7 : Int) (g : Gx) (r : Int) (g' : Gx), K126_180 x7 g = some (r, g') → FR W g g') : ∀ (n126 : Nat) (v7 v9 : Int) (g : Gx) (r : Int) (g' : Gx), Md_lost_l126 c1 c2 c4 c8 K126_180 n126 v7 v9 g = some (r, g') → FR W g g' := by
  intro n126
  induction n126 with
  | zero => intro v7 v9 g r g' h; cases h
  | succ n126 ih126 =>
    intro v7 v9 g r g' h
    rw [Md_lost_l126] at h
    by_cases hc : 6 ≤ v9
    · rw [if_pos hc] at h
      exact FR.tr (FR.rf _ _) (hK126_180 v7 g r g' h)
    · rw [if_neg hc] at h
      by_cases hc : v9 = c2
      · rw [if_pos hc] at h
        exact FR.tr (FR.rf _ _) (ih126 (jor v7 0) (wr (v9 + 1)) g r g' h)
      · rw [if_neg hc] at h
        by_cases hc : 0 ≤ v9 ∧ v9 < 6
        · rw [if_pos hc] at h
          by_cases hc : 0 ≤ (wr ((wr (6 * c1)) + v9)) ∧ (wr ((wr (6 * c1)) + v9)) < 180
          · rw [if_pos hc] at h
            by_cases hc : (g 118 (wr ((wr (6 * c1)) + v9)).toNat) ≤ (g 121 v9.toNat)
            · rw [if_pos hc] at h
              exact FR.tr (FR.rf _ _) (ih126 (jor v7 0) (wr (v9 + 1)) g r g' h)
            · rw [if_neg hc] at h
              exact FR.tr (FR.rf _ _) (ih126 (jor v7 (jshl 1 v9)) (wr (v9 + 1)) g r g' h)
          · rw [if_neg hc] at h; cases h
        · rw [if_neg hc] at h; cases h
set_option maxRecDepth 100000 in
theorem fr_Md_lost_l183 (c4 : Int) (c7 : Int) (K183_208 : Int → Gx → Option (Int × Gx)) (W : List Nat) (hW : ∀ c ∈ ([] : List Nat), c ∈ W) (hK183_208 : ∀ (x8 : Int) (g : Gx) (r : Int) (g' : Gx), K183_208 x8 g = some (r, g') → FR W g g') : ∀ (n183 : Nat) (v8 v9 : Int) (g : Gx) (r : Int) (g' : Gx), Md_lost_l183 c4 c7 K183_208 n183 v8 v9 g = some (r, g') → FR W g g' := by
  intro n183
  induction n183 with
  | zero => intro v8 v9 g r g' h; cases h
  | succ n183 ih183 =>
    intro v8 v9 g r g' h
    rw [Md_lost_l183] at h
    by_cases hc : 36 ≤ v9
    · rw [if_pos hc] at h
      exact FR.tr (FR.rf _ _) (hK183_208 v8 g r g' h)
    · rw [if_neg hc] at h
      by_cases hc : 0 ≤ v9 ∧ v9 < 36
      · rw [if_pos hc] at h
        exact FR.tr (FR.rf _ _) (ih183 (wr (v8 + (g 122 v9.toNat))) (wr (v9 + 1)) g r g' h)
      · rw [if_neg hc] at h; cases h
set_option maxRecDepth 100000 in
theorem fr_Md_lost (a1 a2 a3 a4 : Int) (g : Gx) (r : Int) (g' : Gx) (h : Md_lost a1 a2 a3 a4 g = some (r, g')) : FR [99, 100, 101, 102, 103, 104, 105, 110, 111, 112, 113, 114, 115, 116, 117, 118, 119, 121, 122, 6896, 6897, 6904, 6905, 6906, 6908, 6914, 6923, 6924, 6931, 6932] g g' := by
  rw [Md_lost] at h
  by_cases hc : (Md_isHistory a1) = 0
  · rw [if_pos hc] at h
    cases h
    exact (FR.rf _ _)
  · rw [if_neg hc] at h
    by_cases hc : (Md_isOne a2) = 0
    · rw [if_pos hc] at h
      cases h
      exact (FR.rf _ _)
    · rw [if_neg hc] at h
      by_cases hc : a3 < 0
      · rw [if_pos hc] at h
        cases h
        exact (FR.rf _ _)
      · rw [if_neg hc] at h
        by_cases hc : ¬ (Md_in a4 0 1) = 0
        · rw [if_pos hc] at h
          obtain ⟨q1, hq, h⟩ := Option.bind_eq_some_iff.mp h
          refine FR.tr (FR.rf _ _) (FR.tr (FR.cl (fr_Md_lacksOne a1 g q1.1 q1.2 hq) (by decide)) ?_)
          by_cases hc : q1.1 = 0
          · rw [if_pos hc] at h
            obtain ⟨g2, hq, h⟩ := Option.bind_eq_some_iff.mp h
            refine FR.tr (FR.rf _ _) (FR.tr (FR.cl (fr_Md_findLooks q1.2 g2 hq) (by decide)) ?_)
            obtain ⟨g3, hq, h⟩ := Option.bind_eq_some_iff.mp h
            refine FR.tr (FR.rf _ _) (FR.tr (FR.cl (fr_Md_begins g2 g3 hq) (by decide)) ?_)
            refine FR.tr (FR.rf _ _) (fr_Md_lost_l58 a1 a2 a3 a4 _ [99, 100, 101, 102, 103, 104, 105, 110, 111, 112, 113, 114, 115, 116, 117, 118, 119, 121, 122, 6896, 6897, 6904, 6905, 6906, 6908, 6914, 6923, 6924, 6931, 6932] (by decide) ?_ fu 1 g3 r g' h)
            · intro g9 r g' h
              refine FR.tr (FR.rf _ _) (fr_Md_lost_l126 a1 a2 a4 0 _ [99, 100, 101, 102, 103, 104, 105, 110, 111, 112, 113, 114, 115, 116, 117, 118, 119, 121, 122, 6896, 6897, 6904, 6905, 6906, 6908, 6914, 6923, 6924, 6931, 6932] (by decide) ?_ fu 0 0 g9 r g' h)
              · intro x10 g11 r g' h
                refine FR.tr (FR.rf _ _) (fr_Md_lost_l183 a4 x10 _ [99, 100, 101, 102, 103, 104, 105, 110, 111, 112, 113, 114, 115, 116, 117, 118, 119, 121, 122, 6896, 6897, 6904, 6905, 6906, 6908, 6914, 6923, 6924, 6931, 6932] (by decide) ?_ fu 0 0 g11 r g' h)
                · intro x12 g13 r g' h
                  by_cases hc : ¬ a4 = 0
                  · rw [if_pos hc] at h
                    cases h
                    exact (FR.rf _ _)
                  · rw [if_neg hc] at h
                    cases h
                    exact (FR.rf _ _)
          · rw [if_neg hc] at h
            cases h
            exact (FR.rf _ _)
        · rw [if_neg hc] at h
          cases h
          exact (FR.rf _ _)
set_option maxRecDepth 100000 in
theorem fr_Pg_rowsBeginningAs_l30 (c1 : Int) (c2 : Int) (c3 : Int) (c4 : Int) (c5 : Int) (c6 : Int) (K30_63 : Int → Gx → Option (Int × Gx)) (W : List Nat) (hW : ∀ c ∈ ([] : List Nat), c ∈ W) (hK30_63 : ∀ (x7 : Int) (g : Gx) (r : Int) (g' : Gx), K30_63 x7 g = some (r, g') → FR W g g') : ∀ (n30 : Nat) (v7 : Int) (g : Gx) (r : Int) (g' : Gx), Pg_rowsBeginningAs_l30 c1 c2 c3 c4 c5 c6 K30_63 n30 v7 g = some (r, g') → FR W g g' := by
  intro n30
  induction n30 with
  | zero => intro v7 g r g' h; cases h
  | succ n30 ih30 =>
    intro v7 g r g' h
    rw [Pg_rowsBeginningAs_l30] at h
    by_cases hc : c6 ≤ v7
    · rw [if_pos hc] at h
      exact FR.tr (FR.rf _ _) (hK30_63 v7 g r g' h)
    · rw [if_neg hc] at h
      by_cases hc : ¬ (Pg_act c5 v7 c3 g) = (Pg_act c1 v7 c3 g)
      · rw [if_pos hc] at h
        exact FR.tr (FR.rf _ _) (hK30_63 v7 g r g' h)
      · rw [if_neg hc] at h
        exact FR.tr (FR.rf _ _) (ih30 (wr (v7 + 1)) g r g' h)
set_option maxRecDepth 100000 in
theorem fr_Pg_rowsBeginningAs_l6 (c1 : Int) (c2 : Int) (c3 : Int) (K6_88 : Int → Gx → Option (Int × Gx)) (W : List Nat) (hW : ∀ c ∈ ([] : List Nat), c ∈ W) (hK6_88 : ∀ (x4 : Int) (g : Gx) (r : Int) (g' : Gx), K6_88 x4 g = some (r, g') → FR W g g') : ∀ (n6 : Nat) (v4 v5 : Int) (g : Gx) (r : Int) (g' : Gx), Pg_rowsBeginningAs_l6 c1 c2 c3 K6_88 n6 v4 v5 g = some (r, g') → FR W g g' := by
  intro n6
  induction n6 with
  | zero => intro v4 v5 g r g' h; cases h
  | succ n6 ih6 =>
    intro v4 v5 g r g' h
    rw [Pg_rowsBeginningAs_l6] at h
    by_cases hc : (g 69 7) ≤ v5
    · rw [if_pos hc] at h
      exact FR.tr (FR.rf _ _) (hK6_88 v4 g r g' h)
    · rw [if_neg hc] at h
      refine FR.tr (FR.rf _ _) (fr_Pg_rowsBeginningAs_l30 c1 c2 c3 v4 v5 (imin c2 (Pg_length v5 g)) _ W (sub_tr (by decide) hW) ?_ fu 0 g r g' h)
      · intro x1 g2 r g' h
        by_cases hc : ¬ x1 = c2
        · rw [if_pos hc] at h
          exact FR.tr (FR.rf _ _) (ih6 (jor v4 0) (wr (v5 + 1)) g2 r g' h)
        · rw [if_neg hc] at h
          exact FR.tr (FR.rf _ _) (ih6 (jor v4 (jshl 1 v5)) (wr (v5 + 1)) g2 r g' h)
set_option maxRecDepth 100000 in
theorem fr_Pg_rowsBeginningAs (a1 a2 a3 : Int) (g : Gx) (r : Int) (g' : Gx) (h : Pg_rowsBeginningAs a1 a2 a3 g = some (r, g')) : FR [] g g' := by
  rw [Pg_rowsBeginningAs] at h
  refine FR.tr (FR.rf _ _) (fr_Pg_rowsBeginningAs_l6 a1 a2 a3 _ [] (by decide) ?_ fu 0 0 g r g' h)
  · intro x3 g4 r g' h
    cases h
    exact (FR.rf _ _)
set_option maxRecDepth 100000 in
theorem fr_Pg_looksBeginningAs_l36 (c1 : Int) (c2 : Int) (c3 : Int) (c4 : Int) (c5 : Int) (c6 : Int) (K36_71 : Int → Gx → Option (Int × Gx)) (W : List Nat) (hW : ∀ c ∈ ([] : List Nat), c ∈ W) (hK36_71 : ∀ (x7 : Int) (g : Gx) (r : Int) (g' : Gx), K36_71 x7 g = some (r, g') → FR W g g') : ∀ (n36 : Nat) (v7 : Int) (g : Gx) (r : Int) (g' : Gx), Pg_looksBeginningAs_l36 c1 c2 c3 c4 c5 c6 K36_71 n36 v7 g = some (r, g') → FR W g g' := by
  intro n36
  induction n36 with
  | zero => intro v7 g r g' h; cases h
  | succ n36 ih36 =>
    intro v7 g r g' h
    rw [Pg_looksBeginningAs_l36] at h
    by_cases hc : c6 ≤ v7
    · rw [if_pos hc] at h
      exact FR.tr (FR.rf _ _) (hK36_71 v7 g r g' h)
    · rw [if_neg hc] at h
      by_cases hc : ¬ (Lk_act c5 v7 g) = (Pg_act c1 v7 c3 g)
      · rw [if_pos hc] at h
        exact FR.tr (FR.rf _ _) (hK36_71 v7 g r g' h)
      · rw [if_neg hc] at h
        exact FR.tr (FR.rf _ _) (ih36 (wr (v7 + 1)) g r g' h)
set_option maxRecDepth 100000 in
theorem fr_Pg_looksBeginningAs_l6 (c1 : Int) (c2 : Int) (c3 : Int) (K6_96 : Int → Gx → Option (Int × Gx)) (W : List Nat) (hW : ∀ c ∈ ([] : List Nat), c ∈ W) (hK6_96 : ∀ (x4 : Int) (g : Gx) (r : Int) (g' : Gx), K6_96 x4 g = some (r, g') → FR W g g') : ∀ (n6 : Nat) (v4 v5 : Int) (g : Gx) (r : Int) (g' : Gx), Pg_looksBeginningAs_l6 c1 c2 c3 K6_96 n6 v4 v5 g = some (r, g') → FR W g g' := by
  intro n6
  induction n6 with
  | zero => intro v4 v5 g r g' h; cases h
  | succ n6 ih6 =>
    intro v4 v5 g r g' h
    rw [Pg_looksBeginningAs_l6] at h
    by_cases hc : (Hi_size g) ≤ v5
    · rw [if_pos hc] at h
      exact FR.tr (FR.rf _ _) (hK6_96 v4 g r g' h)
    · rw [if_neg hc] at h
      refine FR.tr (FR.rf _ _) (fr_Pg_looksBeginningAs_l36 c1 c2 c3 v4 v5 (imin c2 (Lk_length v5 g)) _ W (sub_tr (by decide) hW) ?_ fu 0 g r g' h)
      · intro x1 g2 r g' h
        by_cases hc : ¬ x1 = c2
        · rw [if_pos hc] at h
          exact FR.tr (FR.rf _ _) (ih6 (jor v4 0) (wr (v5 + 1)) g2 r g' h)
        · rw [if_neg hc] at h
          exact FR.tr (FR.rf _ _) (ih6 (jor v4 (jshl 1 v5)) (wr (v5 + 1)) g2 r g' h)
set_option maxRecDepth 100000 in
theorem fr_Pg_looksBeginningAs (a1 a2 a3 : Int) (g : Gx) (r : Int) (g' : Gx) (h : Pg_looksBeginningAs a1 a2 a3 g = some (r, g')) : FR [] g g' := by
  rw [Pg_looksBeginningAs] at h
  refine FR.tr (FR.rf _ _) (fr_Pg_looksBeginningAs_l6 a1 a2 a3 _ [] (by decide) ?_ fu 0 0 g r g' h)
  · intro x3 g4 r g' h
    cases h
    exact (FR.rf _ _)
set_option maxRecDepth 100000 in
theorem fr_Pg_rowsDo_l3 (c1 : Int) (c2 : Int) (c3 : Int) (c4 : Int) (K3_52 : Gx → Option (Int × Gx)) (W : List Nat) (hW : ∀ c ∈ ([] : List Nat), c ∈ W) (hK3_52 : ∀ (g : Gx) (r : Int) (g' : Gx), K3_52 g = some (r, g') → FR W g g') : ∀ (n3 : Nat) (v5 : Int) (g : Gx) (r : Int) (g' : Gx), Pg_rowsDo_l3 c1 c2 c3 c4 K3_52 n3 v5 g = some (r, g') → FR W g g' := by
  intro n3
  induction n3 with
  | zero => intro v5 g r g' h; cases h
  | succ n3 ih3 =>
    intro v5 g r g' h
    rw [Pg_rowsDo_l3] at h
    by_cases hc : (g 69 7) ≤ v5
    · rw [if_pos hc] at h
      exact FR.tr (FR.rf _ _) (hK3_52 g r g' h)
    · rw [if_neg hc] at h
      by_cases hc : (Op_has c1 v5) = 0
      · rw [if_pos hc] at h
        exact FR.tr (FR.rf _ _) (ih3 (wr (v5 + 1)) g r g' h)
      · rw [if_neg hc] at h
        by_cases hc : (Pg_length v5 g) ≤ c2
        · rw [if_pos hc] at h
          exact FR.tr (FR.rf _ _) (ih3 (wr (v5 + 1)) g r g' h)
        · rw [if_neg hc] at h
          by_cases hc : ¬ (Pg_act v5 c2 c4 g) = c3
          · rw [if_pos hc] at h
            exact FR.tr (FR.rf _ _) (ih3 (wr (v5 + 1)) g r g' h)
          · rw [if_neg hc] at h
            cases h
            exact (FR.rf _ _)
set_option maxRecDepth 100000 in
theorem fr_Pg_rowsDo (a1 a2 a3 a4 : Int) (g : Gx) (r : Int) (g' : Gx) (h : Pg_rowsDo a1 a2 a3 a4 g = some (r, g')) : FR [] g g' := by
  rw [Pg_rowsDo] at h
  refine FR.tr (FR.rf _ _) (fr_Pg_rowsDo_l3 a1 a2 a3 a4 _ [] (by decide) ?_ fu 0 g r g' h)
  · intro g1 r g' h
    cases h
    exact (FR.rf _ _)
set_option maxRecDepth 100000 in
theorem fr_Pg_rowsGetAll_l3 (c1 : Int) (c2 : Int) (c3 : Int) (c4 : Int) (K3_66 : Gx → Option (Int × Gx)) (W : List Nat) (hW : ∀ c ∈ ([] : List Nat), c ∈ W) (hK3_66 : ∀ (g : Gx) (r : Int) (g' : Gx), K3_66 g = some (r, g') → FR W g g') : ∀ (n3 : Nat) (v5 : Int) (g : Gx) (r : Int) (g' : Gx), Pg_rowsGetAll_l3 c1 c2 c3 c4 K3_66 n3 v5 g = some (r, g') → FR W g g' := by
  intro n3
  induction n3 with
  | zero => intro v5 g r g' h; cases h
  | succ n3 ih3 =>
    intro v5 g r g' h
    rw [Pg_rowsGetAll_l3] at h
    by_cases hc : (Hi_size g) ≤ v5
    · rw [if_pos hc] at h
      exact FR.tr (FR.rf _ _) (hK3_66 g r g' h)
    · rw [if_neg hc] at h
      by_cases hc : (Op_has c2 v5) = 0
      · rw [if_pos hc] at h
        exact FR.tr (FR.rf _ _) (ih3 (wr (v5 + 1)) g r g' h)
      · rw [if_neg hc] at h
        by_cases hc : (Lk_gets v5 c3 g) = 0
        · rw [if_pos hc] at h
          exact FR.tr (FR.rf _ _) (ih3 (wr (v5 + 1)) g r g' h)
        · rw [if_neg hc] at h
          obtain ⟨q1, hq, h⟩ := Option.bind_eq_some_iff.mp h
          refine FR.tr (FR.rf _ _) (FR.tr (FR.cl (fr_Pg_rowsDo c1 c3 (Lk_act v5 c3 g) c4 g q1.1 q1.2 hq) (sub_tr (by decide) hW)) ?_)
          by_cases hc : ¬ q1.1 = 0
          · rw [if_pos hc] at h
            exact FR.tr (FR.rf _ _) (ih3 (wr (v5 + 1)) q1.2 r g' h)
          · rw [if_neg hc] at h
            cases h
            exact (FR.rf _ _)
set_option maxRecDepth 100000 in
theorem fr_Pg_rowsGetAll (a1 a2 a3 a4 : Int) (g : Gx) (r : Int) (g' : Gx) (h : Pg_rowsGetAll a1 a2 a3 a4 g = some (r, g')) : FR [] g g' := by
  rw [Pg_rowsGetAll] at h
  refine FR.tr (FR.rf _ _) (fr_Pg_rowsGetAll_l3 a1 a2 a3 a4 _ [] (by decide) ?_ fu 0 g r g' h)
  · intro g2 r g' h
    cases h
    exact (FR.rf _ _)
set_option maxRecDepth 100000 in
theorem fr_Pg_looksDo_l3 (c1 : Int) (c2 : Int) (c3 : Int) (K3_59 : Gx → Option (Int × Gx)) (W : List Nat) (hW : ∀ c ∈ ([] : List Nat), c ∈ W) (hK3_59 : ∀ (g : Gx) (r : Int) (g' : Gx), K3_59 g = some (r, g') → FR W g g') : ∀ (n3 : Nat) (v4 : Int) (g : Gx) (r : Int) (g' : Gx), Pg_looksDo_l3 c1 c2 c3 K3_59 n3 v4 g = some (r, g') → FR W g g' := by
  intro n3
  induction n3 with
  | zero => intro v4 g r g' h; cases h
  | succ n3 ih3 =>
    intro v4 g r g' h
    rw [Pg_looksDo_l3] at h
    by_cases hc : (Hi_size g) ≤ v4
    · rw [if_pos hc] at h
      exact FR.tr (FR.rf _ _) (hK3_59 g r g' h)
    · rw [if_neg hc] at h
      by_cases hc : (Op_has c1 v4) = 0
      · rw [if_pos hc] at h
        exact FR.tr (FR.rf _ _) (ih3 (wr (v4 + 1)) g r g' h)
      · rw [if_neg hc] at h
        by_cases hc : (Lk_length v4 g) ≤ c2
        · rw [if_pos hc] at h
          exact FR.tr (FR.rf _ _) (ih3 (wr (v4 + 1)) g r g' h)
        · rw [if_neg hc] at h
          by_cases hc : ¬ (Lk_act v4 c2 g) = c3
          · rw [if_pos hc] at h
            exact FR.tr (FR.rf _ _) (ih3 (wr (v4 + 1)) g r g' h)
          · rw [if_neg hc] at h
            cases h
            exact (FR.rf _ _)
set_option maxRecDepth 100000 in
theorem fr_Pg_looksDo (a1 a2 a3 : Int) (g : Gx) (r : Int) (g' : Gx) (h : Pg_looksDo a1 a2 a3 g = some (r, g')) : FR [] g g' := by
  rw [Pg_looksDo] at h
  refine FR.tr (FR.rf _ _) (fr_Pg_looksDo_l3 a1 a2 a3 _ [] (by decide) ?_ fu 0 g r g' h)
  · intro g1 r g' h
    cases h
    exact (FR.rf _ _)
set_option maxRecDepth 100000 in
theorem fr_Pg_looksSayAll_l3 (c1 : Int) (c2 : Int) (c3 : Int) (c4 : Int) (K3_57 : Gx → Option (Int × Gx)) (W : List Nat) (hW : ∀ c ∈ ([] : List Nat), c ∈ W) (hK3_57 : ∀ (g : Gx) (r : Int) (g' : Gx), K3_57 g = some (r, g') → FR W g g') : ∀ (n3 : Nat) (v5 : Int) (g : Gx) (r : Int) (g' : Gx), Pg_looksSayAll_l3 c1 c2 c3 c4 K3_57 n3 v5 g = some (r, g') → FR W g g' := by
  intro n3
  induction n3 with
  | zero => intro v5 g r g' h; cases h
  | succ n3 ih3 =>
    intro v5 g r g' h
    rw [Pg_looksSayAll_l3] at h
    by_cases hc : (g 69 7) ≤ v5
    · rw [if_pos hc] at h
      exact FR.tr (FR.rf _ _) (hK3_57 g r g' h)
    · rw [if_neg hc] at h
      by_cases hc : (Op_has c1 v5) = 0
      · rw [if_pos hc] at h
        exact FR.tr (FR.rf _ _) (ih3 (wr (v5 + 1)) g r g' h)
      · rw [if_neg hc] at h
        by_cases hc : (Pg_saysAt v5 c3 g) = 0
        · rw [if_pos hc] at h
          exact FR.tr (FR.rf _ _) (ih3 (wr (v5 + 1)) g r g' h)
        · rw [if_neg hc] at h
          obtain ⟨q1, hq, h⟩ := Option.bind_eq_some_iff.mp h
          refine FR.tr (FR.rf _ _) (FR.tr (FR.cl (fr_Pg_looksDo c2 c3 (Pg_act v5 c3 c4 g) g q1.1 q1.2 hq) (sub_tr (by decide) hW)) ?_)
          by_cases hc : ¬ q1.1 = 0
          · rw [if_pos hc] at h
            exact FR.tr (FR.rf _ _) (ih3 (wr (v5 + 1)) q1.2 r g' h)
          · rw [if_neg hc] at h
            cases h
            exact (FR.rf _ _)
set_option maxRecDepth 100000 in
theorem fr_Pg_looksSayAll (a1 a2 a3 a4 : Int) (g : Gx) (r : Int) (g' : Gx) (h : Pg_looksSayAll a1 a2 a3 a4 g = some (r, g')) : FR [] g g' := by
  rw [Pg_looksSayAll] at h
  refine FR.tr (FR.rf _ _) (fr_Pg_looksSayAll_l3 a1 a2 a3 a4 _ [] (by decide) ?_ fu 0 g r g' h)
  · intro g2 r g' h
    cases h
    exact (FR.rf _ _)
set_option maxRecDepth 100000 in
theorem fr_Pg_looksOnlySay_l2 (c1 : Int) (c2 : Int) (K2_41 : Gx → Option (Int × Gx)) (W : List Nat) (hW : ∀ c ∈ ([] : List Nat), c ∈ W) (hK2_41 : ∀ (g : Gx) (r : Int) (g' : Gx), K2_41 g = some (r, g') → FR W g g') : ∀ (n2 : Nat) (v3 : Int) (g : Gx) (r : Int) (g' : Gx), Pg_looksOnlySay_l2 c1 c2 K2_41 n2 v3 g = some (r, g') → FR W g g' := by
  intro n2
  induction n2 with
  | zero => intro v3 g r g' h; cases h
  | succ n2 ih2 =>
    intro v3 g r g' h
    rw [Pg_looksOnlySay_l2] at h
    by_cases hc : (Hi_size g) ≤ v3
    · rw [if_pos hc] at h
      exact FR.tr (FR.rf _ _) (hK2_41 g r g' h)
    · rw [if_neg hc] at h
      by_cases hc : (Op_has c1 v3) = 0
      · rw [if_pos hc] at h
        exact FR.tr (FR.rf _ _) (ih2 (wr (v3 + 1)) g r g' h)
      · rw [if_neg hc] at h
        by_cases hc : ¬ (Lk_says v3 c2 g) = 0
        · rw [if_pos hc] at h
          exact FR.tr (FR.rf _ _) (ih2 (wr (v3 + 1)) g r g' h)
        · rw [if_neg hc] at h
          cases h
          exact (FR.rf _ _)
set_option maxRecDepth 100000 in
theorem fr_Pg_looksOnlySay (a1 a2 : Int) (g : Gx) (r : Int) (g' : Gx) (h : Pg_looksOnlySay a1 a2 g = some (r, g')) : FR [] g g' := by
  rw [Pg_looksOnlySay] at h
  refine FR.tr (FR.rf _ _) (fr_Pg_looksOnlySay_l2 a1 a2 _ [] (by decide) ?_ fu 0 g r g' h)
  · intro g1 r g' h
    cases h
    exact (FR.rf _ _)
set_option maxRecDepth 100000 in
theorem fr_Pg_rowsSay_l2 (c1 : Int) (c2 : Int) (K2_35 : Gx → Option (Int × Gx)) (W : List Nat) (hW : ∀ c ∈ ([] : List Nat), c ∈ W) (hK2_35 : ∀ (g : Gx) (r : Int) (g' : Gx), K2_35 g = some (r, g') → FR W g g') : ∀ (n2 : Nat) (v3 : Int) (g : Gx) (r : Int) (g' : Gx), Pg_rowsSay_l2 c1 c2 K2_35 n2 v3 g = some (r, g') → FR W g g' := by
  intro n2
  induction n2 with
  | zero => intro v3 g r g' h; cases h
  | succ n2 ih2 =>
    intro v3 g r g' h
    rw [Pg_rowsSay_l2] at h
    by_cases hc : (g 69 7) ≤ v3
    · rw [if_pos hc] at h
      exact FR.tr (FR.rf _ _) (hK2_35 g r g' h)
    · rw [if_neg hc] at h
      by_cases hc : (Op_has c1 v3) = 0
      · rw [if_pos hc] at h
        exact FR.tr (FR.rf _ _) (ih2 (wr (v3 + 1)) g r g' h)
      · rw [if_neg hc] at h
        by_cases hc : (Pg_saysAt v3 c2 g) = 0
        · rw [if_pos hc] at h
          exact FR.tr (FR.rf _ _) (ih2 (wr (v3 + 1)) g r g' h)
        · rw [if_neg hc] at h
          cases h
          exact (FR.rf _ _)
set_option maxRecDepth 100000 in
theorem fr_Pg_rowsSay (a1 a2 : Int) (g : Gx) (r : Int) (g' : Gx) (h : Pg_rowsSay a1 a2 g = some (r, g')) : FR [] g g' := by
  rw [Pg_rowsSay] at h
  refine FR.tr (FR.rf _ _) (fr_Pg_rowsSay_l2 a1 a2 _ [] (by decide) ?_ fu 0 g r g' h)
  · intro g1 r g' h
    cases h
    exact (FR.rf _ _)
set_option maxRecDepth 100000 in
theorem fr_Pg_isBreach (a1 a2 a3 : Int) (g : Gx) (r : Int) (g' : Gx) (h : Pg_isBreach a1 a2 a3 g = some (r, g')) : FR [] g g' := by
  rw [Pg_isBreach] at h
  obtain ⟨q1, hq, h⟩ := Option.bind_eq_some_iff.mp h
  refine FR.tr (FR.rf _ _) (FR.tr (FR.cl (fr_Pg_rowsBeginningAs a1 a2 a3 g q1.1 q1.2 hq) (by decide)) ?_)
  obtain ⟨q2, hq, h⟩ := Option.bind_eq_some_iff.mp h
  refine FR.tr (FR.rf _ _) (FR.tr (FR.cl (fr_Pg_looksBeginningAs a1 a2 a3 q1.2 q2.1 q2.2 hq) (by decide)) ?_)
  by_cases hc : ¬ q2.1 = 0
  · rw [if_pos hc] at h
    obtain ⟨q3, hq, h⟩ := Option.bind_eq_some_iff.mp h
    refine FR.tr (FR.rf _ _) (FR.tr (FR.cl (fr_Pg_rowsGetAll q1.1 q2.1 a2 a3 q2.2 q3.1 q3.2 hq) (by decide)) ?_)
    by_cases hc : q3.1 = 0
    · rw [if_pos hc] at h
      cases h
      exact (FR.rf _ _)
    · rw [if_neg hc] at h
      obtain ⟨q4, hq, h⟩ := Option.bind_eq_some_iff.mp h
      refine FR.tr (FR.rf _ _) (FR.tr (FR.cl (fr_Pg_looksSayAll q1.1 q2.1 a2 a3 q3.2 q4.1 q4.2 hq) (by decide)) ?_)
      by_cases hc : q4.1 = 0
      · rw [if_pos hc] at h
        cases h
        exact (FR.rf _ _)
      · rw [if_neg hc] at h
        obtain ⟨q5, hq, h⟩ := Option.bind_eq_some_iff.mp h
        refine FR.tr (FR.rf _ _) (FR.tr (FR.cl (fr_Pg_looksOnlySay q2.1 a2 q4.2 q5.1 q5.2 hq) (by decide)) ?_)
        by_cases hc : q5.1 = 0
        · rw [if_pos hc] at h
          cases h
          exact (FR.rf _ _)
        · rw [if_neg hc] at h
          obtain ⟨q6, hq, h⟩ := Option.bind_eq_some_iff.mp h
          refine FR.tr (FR.rf _ _) (FR.tr (FR.cl (fr_Pg_rowsSay q1.1 a2 q5.2 q6.1 q6.2 hq) (by decide)) ?_)
          by_cases hc : ¬ q6.1 = 0
          · rw [if_pos hc] at h
            cases h
            exact (FR.rf _ _)
          · rw [if_neg hc] at h
            cases h
            exact (FR.rf _ _)
  · rw [if_neg hc] at h
    cases h
    exact (FR.rf _ _)
set_option maxRecDepth 100000 in
theorem fr_Pg_firstBreach_l18 (c1 : Int) (c2 : Int) (K18_53 : Gx → Option (Int × Gx)) (W : List Nat) (hW : ∀ c ∈ ([] : List Nat), c ∈ W) (hK18_53 : ∀ (g : Gx) (r : Int) (g' : Gx), K18_53 g = some (r, g') → FR W g g') : ∀ (n18 : Nat) (v3 : Int) (g : Gx) (r : Int) (g' : Gx), Pg_firstBreach_l18 c1 c2 K18_53 n18 v3 g = some (r, g') → FR W g g' := by
  intro n18
  induction n18 with
  | zero => intro v3 g r g' h; cases h
  | succ n18 ih18 =>
    intro v3 g r g' h
    rw [Pg_firstBreach_l18] at h
    by_cases hc : (g 69 7) ≤ v3
    · rw [if_pos hc] at h
      exact FR.tr (FR.rf _ _) (hK18_53 g r g' h)
    · rw [if_neg hc] at h
      by_cases hc : (Pg_length v3 g) < c2
      · rw [if_pos hc] at h
        exact FR.tr (FR.rf _ _) (ih18 (wr (v3 + 1)) g r g' h)
      · rw [if_neg hc] at h
        obtain ⟨q2, hq, h⟩ := Option.bind_eq_some_iff.mp h
        refine FR.tr (FR.rf _ _) (FR.tr (FR.cl (fr_Pg_isBreach v3 c2 c1 g q2.1 q2.2 hq) (sub_tr (by decide) hW)) ?_)
        by_cases hc : q2.1 = 0
        · rw [if_pos hc] at h
          exact FR.tr (FR.rf _ _) (ih18 (wr (v3 + 1)) q2.2 r g' h)
        · rw [if_neg hc] at h
          cases h
          exact (FR.rf _ _)
set_option maxRecDepth 100000 in
theorem fr_Pg_firstBreach_l10 (c1 : Int) (K10_59 : Gx → Option (Int × Gx)) (W : List Nat) (hW : ∀ c ∈ ([] : List Nat), c ∈ W) (hK10_59 : ∀ (g : Gx) (r : Int) (g' : Gx), K10_59 g = some (r, g') → FR W g g') : ∀ (n10 : Nat) (v2 : Int) (g : Gx) (r : Int) (g' : Gx), Pg_firstBreach_l10 c1 K10_59 n10 v2 g = some (r, g') → FR W g g' := by
  intro n10
  induction n10 with
  | zero => intro v2 g r g' h; cases h
  | succ n10 ih10 =>
    intro v2 g r g' h
    rw [Pg_firstBreach_l10] at h
    by_cases hc : 24 < v2
    · rw [if_pos hc] at h
      exact FR.tr (FR.rf _ _) (hK10_59 g r g' h)
    · rw [if_neg hc] at h
      refine FR.tr (FR.rf _ _) (fr_Pg_firstBreach_l18 c1 v2 _ W (sub_tr (by decide) hW) ?_ fu 0 g r g' h)
      · intro g3 r g' h
        exact FR.tr (FR.rf _ _) (ih10 (wr (v2 + 1)) g3 r g' h)
set_option maxRecDepth 100000 in
theorem fr_Pg_firstBreach (a1 : Int) (g : Gx) (r : Int) (g' : Gx) (h : Pg_firstBreach a1 g = some (r, g')) : FR [52, 54] g g' := by
  rw [Pg_firstBreach] at h
  obtain ⟨g1, hq, h⟩ := Option.bind_eq_some_iff.mp h
  refine FR.tr (FR.rf _ _) (FR.tr (FR.cl (fr_Lk_load a1 g g1 hq) (by decide)) ?_)
  refine FR.tr (FR.rf _ _) (fr_Pg_firstBreach_l10 a1 _ [52, 54] (by decide) ?_ fu 0 g1 r g' h)
  · intro g4 r g' h
    cases h
    exact (FR.rf _ _)
set_option maxRecDepth 100000 in
theorem fr_Op_fits (a1 : Int) (g : Gx) (r : Int) (g' : Gx) (h : Op_fits a1 g = some (r, g')) : FR [9, 11, 13, 15, 17, 19, 21, 23, 25, 27, 30, 32, 35, 37, 39, 41, 43, 45, 47, 49, 52, 54, 71, 73, 75, 77, 1458, 1459, 1460, 2796, 2797, 2798, 2799, 2800, 2801, 3121, 3122, 3123, 3124, 3125, 3126, 3127, 3128, 5423, 5424, 5425] g g' := by
  rw [Op_fits] at h
  by_cases hc : ¬ (Op_isTalker a1) = 0
  · rw [if_pos hc] at h
    obtain ⟨q1, hq, h⟩ := Option.bind_eq_some_iff.mp h
    refine FR.tr (FR.rf _ _) (FR.tr (FR.cl (fr_Pg_firstFault g q1.1 q1.2 hq) (by decide)) ?_)
    by_cases hc : q1.1 = (-1)
    · rw [if_pos hc] at h
      obtain ⟨q2, hq, h⟩ := Option.bind_eq_some_iff.mp h
      refine FR.tr (FR.rf _ _) (FR.tr (FR.cl (fr_Op_hindrance 0 q1.2 q2.1 q2.2 hq) (by decide)) ?_)
      by_cases hc : q2.1 = 0
      · rw [if_pos hc] at h
        obtain ⟨q3, hq, h⟩ := Option.bind_eq_some_iff.mp h
        refine FR.tr (FR.rf _ _) (FR.tr (FR.cl (fr_Pg_firstBreach a1 q2.2 q3.1 q3.2 hq) (by decide)) ?_)
        by_cases hc : ¬ q3.1 = (-1)
        · rw [if_pos hc] at h
          cases h
          exact (FR.rf _ _)
        · rw [if_neg hc] at h
          cases h
          exact (FR.rf _ _)
      · rw [if_neg hc] at h
        cases h
        exact (FR.rf _ _)
    · rw [if_neg hc] at h
      cases h
      exact (FR.rf _ _)
  · rw [if_neg hc] at h
    cases h
    exact (FR.rf _ _)
set_option maxRecDepth 100000 in
theorem fr_Md_lacksEither (g : Gx) (r : Int) (g' : Gx) (h : Md_lacksEither g = some (r, g')) : FR [99, 100, 101, 102, 103, 104, 105, 106, 107, 108, 109, 110, 111, 112, 113, 114, 115, 116, 117, 6896, 6897, 6904, 6905, 6906, 6908, 6909, 6914, 6923, 6924] g g' := by
  rw [Md_lacksEither] at h
  obtain ⟨q1, hq, h⟩ := Option.bind_eq_some_iff.mp h
  refine FR.tr (FR.rf _ _) (FR.tr (FR.cl (fr_Md_readsProgram g q1.1 q1.2 hq) (by decide)) ?_)
  by_cases hc : ¬ q1.1 = (-1)
  · rw [if_pos hc] at h
    cases h
    exact (FR.rf _ _)
  · rw [if_neg hc] at h
    obtain ⟨q2, hq, h⟩ := Option.bind_eq_some_iff.mp h
    refine FR.tr (FR.rf _ _) (FR.tr (FR.cl (fr_Md_without q1.2 q2.1 q2.2 hq) (by decide)) ?_)
    cases h
    exact (FR.rf _ _)
set_option maxRecDepth 100000 in
theorem fr_Md_rowAt (a1 a2 a3 : Int) (g : Gx) (r : Int) (g' : Gx) (h : Md_rowAt a1 a2 a3 g = some (r, g')) : FR [] g g' := by
  rw [Md_rowAt] at h
  by_cases hc : 0 ≤ a2 ∧ a2 < 8
  · rw [if_pos hc] at h
    by_cases hc : a3 < (g 106 a2.toNat)
    · rw [if_pos hc] at h
      by_cases hc : 0 ≤ (wr ((wr (30 * a2)) + a3)) ∧ (wr ((wr (30 * a2)) + a3)) < 240
      · rw [if_pos hc] at h
        by_cases hc : ¬ (g 107 (wr ((wr (30 * a2)) + a3)).toNat) = 33
        · rw [if_pos hc] at h
          by_cases hc : 0 ≤ (wr ((wr (30 * a2)) + a3)) ∧ (wr ((wr (30 * a2)) + a3)) < 240
          · rw [if_pos hc] at h
            by_cases hc : 0 ≤ (wr ((wr (30 * a2)) + a3)) ∧ (wr ((wr (30 * a2)) + a3)) < 240
            · rw [if_pos hc] at h
              cases h
              exact (FR.rf _ _)
            · rw [if_neg hc] at h; cases h
          · rw [if_neg hc] at h; cases h
        · rw [if_neg hc] at h
          by_cases hc : 0 ≤ (wr ((wr (30 * a2)) + a3)) ∧ (wr ((wr (30 * a2)) + a3)) < 240
          · rw [if_pos hc] at h
            by_cases hc : 0 ≤ (wr ((wr (30 * a2)) + a3)) ∧ (wr ((wr (30 * a2)) + a3)) < 240
            · rw [if_pos hc] at h
              cases h
              exact (FR.rf _ _)
            · rw [if_neg hc] at h; cases h
          · rw [if_neg hc] at h; cases h
      · rw [if_neg hc] at h; cases h
    · rw [if_neg hc] at h
      cases h
      exact (FR.rf _ _)
  · rw [if_neg hc] at h; cases h
set_option maxRecDepth 100000 in
theorem fr_Md_alike_l37 (c1 : Int) (c2 : Int) (c3 : Int) (c4 : Int) (K37_81 : Int → Gx → Option (Int × Gx)) (W : List Nat) (hW : ∀ c ∈ ([] : List Nat), c ∈ W) (hK37_81 : ∀ (x5 : Int) (g : Gx) (r : Int) (g' : Gx), K37_81 x5 g = some (r, g') → FR W g g') : ∀ (n37 : Nat) (v5 v6 : Int) (g : Gx) (r : Int) (g' : Gx), Md_alike_l37 c1 c2 c3 c4 K37_81 n37 v5 v6 g = some (r, g') → FR W g g' := by
  intro n37
  induction n37 with
  | zero => intro v5 v6 g r g' h; cases h
  | succ n37 ih37 =>
    intro v5 v6 g r g' h
    rw [Md_alike_l37] at h
    by_cases hc : c4 ≤ v6
    · rw [if_pos hc] at h
      exact FR.tr (FR.rf _ _) (hK37_81 v5 g r g' h)
    · rw [if_neg hc] at h
      by_cases hc : v5 = 0
      · rw [if_pos hc] at h
        exact FR.tr (FR.rf _ _) (hK37_81 v5 g r g' h)
      · rw [if_neg hc] at h
        obtain ⟨q1, hq, h⟩ := Option.bind_eq_some_iff.mp h
        refine FR.tr (FR.rf _ _) (FR.tr (FR.cl (fr_Md_rowAt c1 c2 v6 g q1.1 q1.2 hq) (sub_tr (by decide) hW)) ?_)
        obtain ⟨q2, hq, h⟩ := Option.bind_eq_some_iff.mp h
        refine FR.tr (FR.rf _ _) (FR.tr (FR.cl (fr_Md_lookAt c1 c3 v6 q1.2 q2.1 q2.2 hq) (sub_tr (by decide) hW)) ?_)
        by_cases hc : ¬ q1.1 = q2.1
        · rw [if_pos hc] at h
          exact FR.tr (FR.rf _ _) (ih37 0 (wr (v6 + 1)) q2.2 r g' h)
        · rw [if_neg hc] at h
          exact FR.tr (FR.rf _ _) (ih37 1 (wr (v6 + 1)) q2.2 r g' h)
set_option maxRecDepth 100000 in
theorem fr_Md_alike (a1 a2 a3 a4 : Int) (g : Gx) (r : Int) (g' : Gx) (h : Md_alike a1 a2 a3 a4 g = some (r, g')) : FR [] g g' := by
  rw [Md_alike] at h
  by_cases hc : 0 ≤ a2 ∧ a2 < 8
  · rw [if_pos hc] at h
    by_cases hc : (g 106 a2.toNat) < a4
    · rw [if_pos hc] at h
      refine FR.tr (FR.rf _ _) (fr_Md_alike_l37 a1 a2 a3 a4 _ [] (by decide) ?_ fu 0 0 g r g' h)
      · intro x3 g4 r g' h
        by_cases hc : x3 = 0 ∨ x3 = 1
        · rw [if_pos hc] at h; cases h
          exact (FR.rf _ _)
        · rw [if_neg hc] at h; cases h
    · rw [if_neg hc] at h
      by_cases hc : 0 ≤ (wr ((wr (6 * a3)) + a1)) ∧ (wr ((wr (6 * a3)) + a1)) < 180
      · rw [if_pos hc] at h
        by_cases hc : (g 118 (wr ((wr (6 * a3)) + a1)).toNat) < a4
        · rw [if_pos hc] at h
          refine FR.tr (FR.rf _ _) (fr_Md_alike_l37 a1 a2 a3 a4 _ [] (by decide) ?_ fu 0 0 g r g' h)
          · intro x5 g6 r g' h
            by_cases hc : x5 = 0 ∨ x5 = 1
            · rw [if_pos hc] at h; cases h
              exact (FR.rf _ _)
            · rw [if_neg hc] at h; cases h
        · rw [if_neg hc] at h
          refine FR.tr (FR.rf _ _) (fr_Md_alike_l37 a1 a2 a3 a4 _ [] (by decide) ?_ fu 1 0 g r g' h)
          · intro x7 g8 r g' h
            by_cases hc : x7 = 0 ∨ x7 = 1
            · rw [if_pos hc] at h; cases h
              exact (FR.rf _ _)
            · rw [if_neg hc] at h; cases h
      · rw [if_neg hc] at h; cases h
  · rw [if_neg hc] at h; cases h
set_option maxRecDepth 100000 in
theorem fr_Md_rowsCan_l6 (c1 : Int) (c2 : Int) (c3 : Int) (c4 : Int) (K6_58 : Int → Gx → Option (Int × Gx)) (W : List Nat) (hW : ∀ c ∈ ([] : List Nat), c ∈ W) (hK6_58 : ∀ (x5 : Int) (g : Gx) (r : Int) (g' : Gx), K6_58 x5 g = some (r, g') → FR W g g') : ∀ (n6 : Nat) (v5 v6 : Int) (g : Gx) (r : Int) (g' : Gx), Md_rowsCan_l6 c1 c2 c3 c4 K6_58 n6 v5 v6 g = some (r, g') → FR W g g' := by
  intro n6
  induction n6 with
  | zero => intro v5 v6 g r g' h; cases h
  | succ n6 ih6 =>
    intro v5 v6 g r g' h
    rw [Md_rowsCan_l6] at h
    by_cases hc : (g 92 21) ≤ v6
    · rw [if_pos hc] at h
      exact FR.tr (FR.rf _ _) (hK6_58 v5 g r g' h)
    · rw [if_neg hc] at h
      by_cases hc : ¬ v5 = 0
      · rw [if_pos hc] at h
        exact FR.tr (FR.rf _ _) (ih6 1 (wr (v6 + 1)) g r g' h)
      · rw [if_neg hc] at h
        obtain ⟨q1, hq, h⟩ := Option.bind_eq_some_iff.mp h
        refine FR.tr (FR.rf _ _) (FR.tr (FR.cl (fr_Md_alike c1 v6 c2 c3 g q1.1 q1.2 hq) (sub_tr (by decide) hW)) ?_)
        by_cases hc : q1.1 = 0
        · rw [if_pos hc] at h
          exact FR.tr (FR.rf _ _) (ih6 0 (wr (v6 + 1)) q1.2 r g' h)
        · rw [if_neg hc] at h
          obtain ⟨q2, hq, h⟩ := Option.bind_eq_some_iff.mp h
          refine FR.tr (FR.rf _ _) (FR.tr (FR.cl (fr_Md_rowAt c1 v6 c3 q1.2 q2.1 q2.2 hq) (sub_tr (by decide) hW)) ?_)
          by_cases hc : ¬ q2.1 = c4
          · rw [if_pos hc] at h
            exact FR.tr (FR.rf _ _) (ih6 0 (wr (v6 + 1)) q2.2 r g' h)
          · rw [if_neg hc] at h
            exact FR.tr (FR.rf _ _) (ih6 1 (wr (v6 + 1)) q2.2 r g' h)
set_option maxRecDepth 100000 in
theorem fr_Md_rowsCan (a1 a2 a3 a4 : Int) (g : Gx) (r : Int) (g' : Gx) (h : Md_rowsCan a1 a2 a3 a4 g = some (r, g')) : FR [] g g' := by
  rw [Md_rowsCan] at h
  refine FR.tr (FR.rf _ _) (fr_Md_rowsCan_l6 a1 a2 a3 a4 _ [] (by decide) ?_ fu 0 0 g r g' h)
  · intro x3 g4 r g' h
    by_cases hc : x3 = 0 ∨ x3 = 1
    · rw [if_pos hc] at h; cases h
      exact (FR.rf _ _)
    · rw [if_neg hc] at h; cases h
set_option maxRecDepth 100000 in
theorem fr_Md_looksCan_l6 (c1 : Int) (c2 : Int) (c3 : Int) (c4 : Int) (K6_58 : Int → Gx → Option (Int × Gx)) (W : List Nat) (hW : ∀ c ∈ ([] : List Nat), c ∈ W) (hK6_58 : ∀ (x5 : Int) (g : Gx) (r : Int) (g' : Gx), K6_58 x5 g = some (r, g') → FR W g g') : ∀ (n6 : Nat) (v5 v6 : Int) (g : Gx) (r : Int) (g' : Gx), Md_looksCan_l6 c1 c2 c3 c4 K6_58 n6 v5 v6 g = some (r, g') → FR W g g' := by
  intro n6
  induction n6 with
  | zero => intro v5 v6 g r g' h; cases h
  | succ n6 ih6 =>
    intro v5 v6 g r g' h
    rw [Md_looksCan_l6] at h
    by_cases hc : (g 92 26) ≤ v6
    · rw [if_pos hc] at h
      exact FR.tr (FR.rf _ _) (hK6_58 v5 g r g' h)
    · rw [if_neg hc] at h
      by_cases hc : ¬ v5 = 0
      · rw [if_pos hc] at h
        exact FR.tr (FR.rf _ _) (ih6 1 (wr (v6 + 1)) g r g' h)
      · rw [if_neg hc] at h
        obtain ⟨q1, hq, h⟩ := Option.bind_eq_some_iff.mp h
        refine FR.tr (FR.rf _ _) (FR.tr (FR.cl (fr_Md_alike c1 c2 v6 c3 g q1.1 q1.2 hq) (sub_tr (by decide) hW)) ?_)
        by_cases hc : q1.1 = 0
        · rw [if_pos hc] at h
          exact FR.tr (FR.rf _ _) (ih6 0 (wr (v6 + 1)) q1.2 r g' h)
        · rw [if_neg hc] at h
          obtain ⟨q2, hq, h⟩ := Option.bind_eq_some_iff.mp h
          refine FR.tr (FR.rf _ _) (FR.tr (FR.cl (fr_Md_lookAt c1 v6 c3 q1.2 q2.1 q2.2 hq) (sub_tr (by decide) hW)) ?_)
          by_cases hc : ¬ q2.1 = c4
          · rw [if_pos hc] at h
            exact FR.tr (FR.rf _ _) (ih6 0 (wr (v6 + 1)) q2.2 r g' h)
          · rw [if_neg hc] at h
            exact FR.tr (FR.rf _ _) (ih6 1 (wr (v6 + 1)) q2.2 r g' h)
set_option maxRecDepth 100000 in
theorem fr_Md_looksCan (a1 a2 a3 a4 : Int) (g : Gx) (r : Int) (g' : Gx) (h : Md_looksCan a1 a2 a3 a4 g = some (r, g')) : FR [] g g' := by
  rw [Md_looksCan] at h
  refine FR.tr (FR.rf _ _) (fr_Md_looksCan_l6 a1 a2 a3 a4 _ [] (by decide) ?_ fu 0 0 g r g' h)
  · intro x3 g4 r g' h
    by_cases hc : x3 = 0 ∨ x3 = 1
    · rw [if_pos hc] at h; cases h
      exact (FR.rf _ _)
    · rw [if_neg hc] at h; cases h
set_option maxRecDepth 100000 in
theorem fr_Md_fitsAt_l12 (c1 : Int) (c2 : Int) (c3 : Int) (c4 : Int) (K12_138 : Int → Int → Int → Gx → Option (Int × Gx)) (W : List Nat) (hW : ∀ c ∈ ([] : List Nat), c ∈ W) (hK12_138 : ∀ (x5 x6 x7 : Int) (g : Gx) (r : Int) (g' : Gx), K12_138 x5 x6 x7 g = some (r, g') → FR W g g') : ∀ (n12 : Nat) (v5 v6 v7 v8 : Int) (g : Gx) (r : Int) (g' : Gx), Md_fitsAt_l12 c1 c2 c3 c4 K12_138 n12 v5 v6 v7 v8 g = some (r, g') → FR W g g' := by
  intro n12
  induction n12 with
  | zero => intro v5 v6 v7 v8 g r g' h; cases h
  | succ n12 ih12 =>
    intro v5 v6 v7 v8 g r g' h
    rw [Md_fitsAt_l12] at h
    by_cases hc : (g 92 26) ≤ v8
    · rw [if_pos hc] at h
      exact FR.tr (FR.rf _ _) (hK12_138 v5 v6 v7 g r g' h)
    · rw [if_neg hc] at h
      obtain ⟨q1, hq, h⟩ := Option.bind_eq_some_iff.mp h
      refine FR.tr (FR.rf _ _) (FR.tr (FR.cl (fr_Md_alike c1 c2 v8 c4 g q1.1 q1.2 hq) (sub_tr (by decide) hW)) ?_)
      by_cases hc : q1.1 = 0
      · rw [if_pos hc] at h
        exact FR.tr (FR.rf _ _) (ih12 v5 v6 v7 (wr (v8 + 1)) q1.2 r g' h)
      · rw [if_neg hc] at h
        obtain ⟨q2, hq, h⟩ := Option.bind_eq_some_iff.mp h
        refine FR.tr (FR.rf _ _) (FR.tr (FR.cl (fr_Md_lookAt c1 v8 c4 q1.2 q2.1 q2.2 hq) (sub_tr (by decide) hW)) ?_)
        obtain ⟨y3, hy3, h⟩ := lett_inv h
        obtain ⟨y4, hy4, h⟩ := lett_inv h
        by_cases hc : v5 = 0
        · rw [if_pos hc] at h
          exact FR.tr (FR.rf _ _) (ih12 0 y3 y4 (wr (v8 + 1)) q2.2 r g' h)
        · rw [if_neg hc] at h
          by_cases hc : q2.1 < 20000
          · rw [if_pos hc] at h
            exact FR.tr (FR.rf _ _) (ih12 1 y3 y4 (wr (v8 + 1)) q2.2 r g' h)
          · rw [if_neg hc] at h
            obtain ⟨q5, hq, h⟩ := Option.bind_eq_some_iff.mp h
            refine FR.tr (FR.rf _ _) (FR.tr (FR.cl (fr_Md_rowsCan c1 c3 c4 q2.1 q2.2 q5.1 q5.2 hq) (sub_tr (by decide) hW)) ?_)
            by_cases hc : q5.1 = 0
            · rw [if_pos hc] at h
              exact FR.tr (FR.rf _ _) (ih12 0 y3 y4 (wr (v8 + 1)) q5.2 r g' h)
            · rw [if_neg hc] at h
              exact FR.tr (FR.rf _ _) (ih12 1 y3 y4 (wr (v8 + 1)) q5.2 r g' h)
set_option maxRecDepth 100000 in
theorem fr_Md_fitsAt_l144 (c1 : Int) (c2 : Int) (c3 : Int) (c4 : Int) (c6 : Int) (c7 : Int) (K144_250 : Int → Int → Gx → Option (Int × Gx)) (W : List Nat) (hW : ∀ c ∈ ([] : List Nat), c ∈ W) (hK144_250 : ∀ (x5 x8 : Int) (g : Gx) (r : Int) (g' : Gx), K144_250 x5 x8 g = some (r, g') → FR W g g') : ∀ (n144 : Nat) (v5 v8 v9 : Int) (g : Gx) (r : Int) (g' : Gx), Md_fitsAt_l144 c1 c2 c3 c4 c6 c7 K144_250 n144 v5 v8 v9 g = some (r, g') → FR W g g' := by
  intro n144
  induction n144 with
  | zero => intro v5 v8 v9 g r g' h; cases h
  | succ n144 ih144 =>
    intro v5 v8 v9 g r g' h
    rw [Md_fitsAt_l144] at h
    by_cases hc : (g 92 21) ≤ v9
    · rw [if_pos hc] at h
      exact FR.tr (FR.rf _ _) (hK144_250 v5 v8 g r g' h)
    · rw [if_neg hc] at h
      obtain ⟨q10, hq, h⟩ := Option.bind_eq_some_iff.mp h
      refine FR.tr (FR.rf _ _) (FR.tr (FR.cl (fr_Md_alike c1 v9 c3 c4 g q10.1 q10.2 hq) (sub_tr (by decide) hW)) ?_)
      by_cases hc : q10.1 = 0
      · rw [if_pos hc] at h
        exact FR.tr (FR.rf _ _) (ih144 v5 v8 (wr (v9 + 1)) q10.2 r g' h)
      · rw [if_neg hc] at h
        obtain ⟨q11, hq, h⟩ := Option.bind_eq_some_iff.mp h
        refine FR.tr (FR.rf _ _) (FR.tr (FR.cl (fr_Md_rowAt c1 v9 c4 q10.2 q11.1 q11.2 hq) (sub_tr (by decide) hW)) ?_)
        obtain ⟨y12, hy12, h⟩ := lett_inv h
        by_cases hc : v5 = 0
        · rw [if_pos hc] at h
          exact FR.tr (FR.rf _ _) (ih144 0 y12 (wr (v9 + 1)) q11.2 r g' h)
        · rw [if_neg hc] at h
          by_cases hc : (Md_in q11.1 10000 19999) = 0
          · rw [if_pos hc] at h
            exact FR.tr (FR.rf _ _) (ih144 1 y12 (wr (v9 + 1)) q11.2 r g' h)
          · rw [if_neg hc] at h
            obtain ⟨q13, hq, h⟩ := Option.bind_eq_some_iff.mp h
            refine FR.tr (FR.rf _ _) (FR.tr (FR.cl (fr_Md_looksCan c1 c2 c4 q11.1 q11.2 q13.1 q13.2 hq) (sub_tr (by decide) hW)) ?_)
            by_cases hc : q13.1 = 0
            · rw [if_pos hc] at h
              exact FR.tr (FR.rf _ _) (ih144 0 y12 (wr (v9 + 1)) q13.2 r g' h)
            · rw [if_neg hc] at h
              exact FR.tr (FR.rf _ _) (ih144 1 y12 (wr (v9 + 1)) q13.2 r g' h)
set_option maxRecDepth 100000 in
theorem fr_Md_fitsAt (a1 a2 a3 a4 : Int) (g : Gx) (r : Int) (g' : Gx) (h : Md_fitsAt a1 a2 a3 a4 g = some (r, g')) : FR [] g g' := by
  rw [Md_fitsAt] at h
  refine FR.tr (FR.rf _ _) (fr_Md_fitsAt_l12 a1 a2 a3 a4 _ [] (by decide) ?_ fu 1 0 0 0 g r g' h)
  · intro x6 x7 x8 g9 r g' h
    refine FR.tr (FR.rf _ _) (fr_Md_fitsAt_l144 a1 a2 a3 a4 x7 x8 _ [] (by decide) ?_ fu x6 0 0 g9 r g' h)
    · intro x14 x15 g16 r g' h
      by_cases hc : x14 = 0
      · rw [if_pos hc] at h
        cases h
        exact (FR.rf _ _)
      · rw [if_neg hc] at h
        by_cases hc : x7 = 0
        · rw [if_pos hc] at h
          cases h
          exact (FR.rf _ _)
        · rw [if_neg hc] at h
          by_cases hc : ¬ x8 = 0
          · rw [if_pos hc] at h
            cases h
            exact (FR.rf _ _)
          · rw [if_neg hc] at h
            by_cases hc : x15 = 0
            · rw [if_pos hc] at h
              cases h
              exact (FR.rf _ _)
            · rw [if_neg hc] at h
              cases h
              exact (FR.rf _ _)
set_option maxRecDepth 100000 in
theorem fr_Md_breachOf_l25 (c1 : Int) (c2 : Int) (c3 : Int) (K25_66 : Gx → Option (Int × Gx)) (W : List Nat) (hW : ∀ c ∈ ([] : List Nat), c ∈ W) (hK25_66 : ∀ (g : Gx) (r : Int) (g' : Gx), K25_66 g = some (r, g') → FR W g g') : ∀ (n25 : Nat) (v4 : Int) (g : Gx) (r : Int) (g' : Gx), Md_breachOf_l25 c1 c2 c3 K25_66 n25 v4 g = some (r, g') → FR W g g' := by
  intro n25
  induction n25 with
  | zero => intro v4 g r g' h; cases h
  | succ n25 ih25 =>
    intro v4 g r g' h
    rw [Md_breachOf_l25] at h
    by_cases hc : (g 92 26) ≤ v4
    · rw [if_pos hc] at h
      exact FR.tr (FR.rf _ _) (hK25_66 g r g' h)
    · rw [if_neg hc] at h
      obtain ⟨q2, hq, h⟩ := Option.bind_eq_some_iff.mp h
      refine FR.tr (FR.rf _ _) (FR.tr (FR.cl (fr_Md_alike c1 c3 v4 c2 g q2.1 q2.2 hq) (sub_tr (by decide) hW)) ?_)
      by_cases hc : q2.1 = 0
      · rw [if_pos hc] at h
        exact FR.tr (FR.rf _ _) (ih25 (wr (v4 + 1)) q2.2 r g' h)
      · rw [if_neg hc] at h
        obtain ⟨q3, hq, h⟩ := Option.bind_eq_some_iff.mp h
        refine FR.tr (FR.rf _ _) (FR.tr (FR.cl (fr_Md_fitsAt c1 c3 v4 c2 q2.2 q3.1 q3.2 hq) (sub_tr (by decide) hW)) ?_)
        by_cases hc : ¬ q3.1 = 0
        · rw [if_pos hc] at h
          exact FR.tr (FR.rf _ _) (ih25 (wr (v4 + 1)) q3.2 r g' h)
        · rw [if_neg hc] at h
          cases h
          exact (FR.rf _ _)
set_option maxRecDepth 100000 in
theorem fr_Md_breachOf_l14 (c1 : Int) (c2 : Int) (K14_72 : Gx → Option (Int × Gx)) (W : List Nat) (hW : ∀ c ∈ ([] : List Nat), c ∈ W) (hK14_72 : ∀ (g : Gx) (r : Int) (g' : Gx), K14_72 g = some (r, g') → FR W g g') : ∀ (n14 : Nat) (v3 : Int) (g : Gx) (r : Int) (g' : Gx), Md_breachOf_l14 c1 c2 K14_72 n14 v3 g = some (r, g') → FR W g g' := by
  intro n14
  induction n14 with
  | zero => intro v3 g r g' h; cases h
  | succ n14 ih14 =>
    intro v3 g r g' h
    rw [Md_breachOf_l14] at h
    by_cases hc : (g 92 21) ≤ v3
    · rw [if_pos hc] at h
      exact FR.tr (FR.rf _ _) (hK14_72 g r g' h)
    · rw [if_neg hc] at h
      refine FR.tr (FR.rf _ _) (fr_Md_breachOf_l25 c1 c2 v3 _ W (sub_tr (by decide) hW) ?_ fu 0 g r g' h)
      · intro g4 r g' h
        exact FR.tr (FR.rf _ _) (ih14 (wr (v3 + 1)) g4 r g' h)
set_option maxRecDepth 100000 in
theorem fr_Md_breachOf_l6 (c1 : Int) (K6_78 : Gx → Option (Int × Gx)) (W : List Nat) (hW : ∀ c ∈ ([] : List Nat), c ∈ W) (hK6_78 : ∀ (g : Gx) (r : Int) (g' : Gx), K6_78 g = some (r, g') → FR W g g') : ∀ (n6 : Nat) (v2 : Int) (g : Gx) (r : Int) (g' : Gx), Md_breachOf_l6 c1 K6_78 n6 v2 g = some (r, g') → FR W g g' := by
  intro n6
  induction n6 with
  | zero => intro v2 g r g' h; cases h
  | succ n6 ih6 =>
    intro v2 g r g' h
    rw [Md_breachOf_l6] at h
    by_cases hc : 25 ≤ v2
    · rw [if_pos hc] at h
      exact FR.tr (FR.rf _ _) (hK6_78 g r g' h)
    · rw [if_neg hc] at h
      refine FR.tr (FR.rf _ _) (fr_Md_breachOf_l14 c1 v2 _ W (sub_tr (by decide) hW) ?_ fu 0 g r g' h)
      · intro g5 r g' h
        exact FR.tr (FR.rf _ _) (ih6 (wr (v2 + 1)) g5 r g' h)
set_option maxRecDepth 100000 in
theorem fr_Md_breachOf (a1 : Int) (g : Gx) (r : Int) (g' : Gx) (h : Md_breachOf a1 g = some (r, g')) : FR [118, 119] g g' := by
  rw [Md_breachOf] at h
  obtain ⟨g1, hq, h⟩ := Option.bind_eq_some_iff.mp h
  refine FR.tr (FR.rf _ _) (FR.tr (FR.cl (fr_Md_findLooks g g1 hq) (by decide)) ?_)
  refine FR.tr (FR.rf _ _) (fr_Md_breachOf_l6 a1 _ [118, 119] (by decide) ?_ fu 0 g1 r g' h)
  · intro g6 r g' h
    cases h
    exact (FR.rf _ _)
set_option maxRecDepth 100000 in
theorem fr_Md_fits (a1 : Int) (g : Gx) (r : Int) (g' : Gx) (h : Md_fits a1 g = some (r, g')) : FR [99, 100, 101, 102, 103, 104, 105, 106, 107, 108, 109, 110, 111, 112, 113, 114, 115, 116, 117, 118, 119, 6896, 6897, 6904, 6905, 6906, 6908, 6909, 6914, 6923, 6924] g g' := by
  rw [Md_fits] at h
  by_cases hc : ¬ (Md_isOne a1) = 0
  · rw [if_pos hc] at h
    obtain ⟨q1, hq, h⟩ := Option.bind_eq_some_iff.mp h
    refine FR.tr (FR.rf _ _) (FR.tr (FR.cl (fr_Md_lacksEither g q1.1 q1.2 hq) (by decide)) ?_)
    by_cases hc : q1.1 = 0
    · rw [if_pos hc] at h
      obtain ⟨q2, hq, h⟩ := Option.bind_eq_some_iff.mp h
      refine FR.tr (FR.rf _ _) (FR.tr (FR.cl (fr_Md_breachOf a1 q1.2 q2.1 q2.2 hq) (by decide)) ?_)
      by_cases hc : ¬ q2.1 = (-1)
      · rw [if_pos hc] at h
        cases h
        exact (FR.rf _ _)
      · rw [if_neg hc] at h
        cases h
        exact (FR.rf _ _)
    · rw [if_neg hc] at h
      cases h
      exact (FR.rf _ _)
  · rw [if_neg hc] at h
    cases h
    exact (FR.rf _ _)
set_option maxRecDepth 100000 in
theorem fr_Op_breach (a1 : Int) (g : Gx) (r : Int) (g' : Gx) (h : Op_breach a1 g = some (r, g')) : FR [9, 11, 13, 15, 17, 19, 21, 23, 25, 27, 30, 32, 35, 37, 39, 41, 43, 45, 47, 49, 52, 54, 71, 73, 75, 77, 1458, 1459, 1460, 2796, 2797, 2798, 2799, 2800, 2801, 3121, 3122, 3123, 3124, 3125, 3126, 3127, 3128, 5423, 5424, 5425] g g' := by
  rw [Op_breach] at h
  by_cases hc : ¬ (Op_isTalker a1) = 0
  · rw [if_pos hc] at h
    obtain ⟨q1, hq, h⟩ := Option.bind_eq_some_iff.mp h
    refine FR.tr (FR.rf _ _) (FR.tr (FR.cl (fr_Pg_firstFault g q1.1 q1.2 hq) (by decide)) ?_)
    by_cases hc : q1.1 = (-1)
    · rw [if_pos hc] at h
      obtain ⟨q2, hq, h⟩ := Option.bind_eq_some_iff.mp h
      refine FR.tr (FR.rf _ _) (FR.tr (FR.cl (fr_Op_hindrance 0 q1.2 q2.1 q2.2 hq) (by decide)) ?_)
      by_cases hc : q2.1 = 0
      · rw [if_pos hc] at h
        obtain ⟨q3, hq, h⟩ := Option.bind_eq_some_iff.mp h
        refine FR.tr (FR.rf _ _) (FR.tr (FR.cl (fr_Pg_firstBreach a1 q2.2 q3.1 q3.2 hq) (by decide)) ?_)
        cases h
        exact (FR.rf _ _)
      · rw [if_neg hc] at h
        cases h
        exact (FR.rf _ _)
    · rw [if_neg hc] at h
      cases h
      exact (FR.rf _ _)
  · rw [if_neg hc] at h
    cases h
    exact (FR.rf _ _)
set_option maxRecDepth 100000 in
theorem fr_Md_breach (a1 : Int) (g : Gx) (r : Int) (g' : Gx) (h : Md_breach a1 g = some (r, g')) : FR [99, 100, 101, 102, 103, 104, 105, 106, 107, 108, 109, 110, 111, 112, 113, 114, 115, 116, 117, 118, 119, 6896, 6897, 6904, 6905, 6906, 6908, 6909, 6914, 6923, 6924] g g' := by
  rw [Md_breach] at h
  by_cases hc : ¬ (Md_isOne a1) = 0
  · rw [if_pos hc] at h
    obtain ⟨q1, hq, h⟩ := Option.bind_eq_some_iff.mp h
    refine FR.tr (FR.rf _ _) (FR.tr (FR.cl (fr_Md_lacksEither g q1.1 q1.2 hq) (by decide)) ?_)
    by_cases hc : q1.1 = 0
    · rw [if_pos hc] at h
      obtain ⟨q2, hq, h⟩ := Option.bind_eq_some_iff.mp h
      refine FR.tr (FR.rf _ _) (FR.tr (FR.cl (fr_Md_breachOf a1 q1.2 q2.1 q2.2 hq) (by decide)) ?_)
      cases h
      exact (FR.rf _ _)
    · rw [if_neg hc] at h
      cases h
      exact (FR.rf _ _)
  · rw [if_neg hc] at h
    cases h
    exact (FR.rf _ _)
set_option maxRecDepth 100000 in
theorem fr_Op_found (a1 : Int) (g : Gx) (r : Int) (g' : Gx) (h : Op_found a1 g = (r, g')) : FR [1012] g g' := by
  rw [Op_found] at h
  cases h
  exact (FR.go (FR.rf _ _) ⟨rfl, by decide⟩)
set_option maxRecDepth 100000 in
theorem fr_Bd_append (a1 : Int) (g : Gx) (r : Int) (g' : Gx) (h : Bd_append a1 g = (r, g')) : FR [80, 5996] g g' := by
  rw [Bd_append] at h
  by_cases hc : 40 ≤ (g 78 4)
  · rw [if_pos hc] at h
    cases h
    exact (FR.rf _ _)
  · rw [if_neg hc] at h
    by_cases hc : ¬ (Bd_mayBe a1) = 0
    · rw [if_pos hc] at h
      cases h
      exact (FR.go (FR.rs (FR.rf _ _) (by decide)) ⟨rfl, by decide⟩)
    · rw [if_neg hc] at h
      cases h
      exact (FR.rf _ _)
set_option maxRecDepth 100000 in
theorem fr_Op_log_l29 (c1 : Int) (K29_66 : Int → Gx → Option (Int × Gx)) (W : List Nat) (hW : ∀ c ∈ ([80, 5996] : List Nat), c ∈ W) (hK29_66 : ∀ (x2 : Int) (g : Gx) (r : Int) (g' : Gx), K29_66 x2 g = some (r, g') → FR W g g') : ∀ (n29 : Nat) (v2 : Int) (g : Gx) (r : Int) (g' : Gx), Op_log_l29 c1 K29_66 n29 v2 g = some (r, g') → FR W g g' := by
  intro n29
  induction n29 with
  | zero => intro v2 g r g' h; cases h
  | succ n29 ih29 =>
    intro v2 g r g' h
    rw [Op_log_l29] at h
    by_cases hc : (Sh_size c1 g) ≤ v2
    · rw [if_pos hc] at h
      exact FR.tr (FR.rf _ _) (hK29_66 v2 g r g' h)
    · rw [if_neg hc] at h
      obtain ⟨q1, hq, h⟩ := lett_inv h
      refine FR.tr (FR.rf _ _) (FR.tr (FR.cl (fr_Bd_append (Sh_item c1 v2 g) g q1.1 q1.2 hq.symm) (sub_tr (by decide) hW)) ?_)
      by_cases hc : q1.1 = 0
      · rw [if_pos hc] at h
        exact FR.tr (FR.rf _ _) (hK29_66 v2 q1.2 r g' h)
      · rw [if_neg hc] at h
        exact FR.tr (FR.rf _ _) (ih29 (wr (v2 + 1)) q1.2 r g' h)
set_option maxRecDepth 100000 in
theorem fr_Op_log (a1 : Int) (g : Gx) (r : Int) (g' : Gx) (h : Op_log a1 g = some (r, g')) : FR [80, 1012, 5996] g g' := by
  rw [Op_log] at h
  by_cases hc : ¬ (Op_isSheet a1) = 0
  · rw [if_pos hc] at h
    by_cases hc : (Sh_isLost a1 g) = 0
    · rw [if_pos hc] at h
      refine FR.tr (FR.rf _ _) (fr_Op_log_l29 a1 _ [80, 1012, 5996] (by decide) ?_ fu 0 g r g' h)
      · intro x2 g3 r g' h
        cases h
        exact (FR.rf _ _)
    · rw [if_neg hc] at h
      obtain ⟨q4, hq, h⟩ := lett_inv h
      refine FR.tr (FR.rf _ _) (FR.tr (FR.cl (fr_Op_found 1 g q4.1 q4.2 hq.symm) (by decide)) ?_)
      cases h
      exact (FR.rf _ _)
  · rw [if_neg hc] at h
    cases h
    exact (FR.rf _ _)
set_option maxRecDepth 100000 in
theorem fr_Md_met (a1 : Int) (g : Gx) (r : Int) (g' : Gx) (h : Md_met a1 g = (r, g')) : FR [6892] g g' := by
  rw [Md_met] at h
  cases h
  exact (FR.go (FR.rf _ _) ⟨rfl, by decide⟩)
set_option maxRecDepth 100000 in
theorem fr_Md_log_l29 (c1 : Int) (K29_162 : Int → Gx → Option (Int × Gx)) (W : List Nat) (hW : ∀ c ∈ ([127, 6936] : List Nat), c ∈ W) (hK29_162 : ∀ (x2 : Int) (g : Gx) (r : Int) (g' : Gx), K29_162 x2 g = some (r, g') → FR W g g') : ∀ (n29 : Nat) (v2 v3 : Int) (g : Gx) (r : Int) (g' : Gx), Md_log_l29 c1 K29_162 n29 v2 v3 g = some (r, g') → FR W g g' := by
  intro n29
  induction n29 with
  | zero => intro v2 v3 g r g' h; cases h
  | succ n29 ih29 =>
    intro v2 v3 g r g' h
    rw [Md_log_l29] at h
    by_cases hc : v3 = 0
    · rw [if_pos hc] at h
      exact FR.tr (FR.rf _ _) (hK29_162 v2 g r g' h)
    · rw [if_neg hc] at h
      by_cases hc : 0 ≤ c1 ∧ c1 < 4
      · rw [if_pos hc] at h
        by_cases hc : (g 94 c1.toNat) ≤ v2
        · rw [if_pos hc] at h
          exact FR.tr (FR.rf _ _) (hK29_162 v2 g r g' h)
        · rw [if_neg hc] at h
          by_cases hc : 40 ≤ (g 92 48)
          · rw [if_pos hc] at h
            exact FR.tr (FR.rf _ _) (hK29_162 v2 g r g' h)
          · rw [if_neg hc] at h
            by_cases hc : 0 ≤ (wr ((wr (60 * c1)) + v2)) ∧ (wr ((wr (60 * c1)) + v2)) < 240
            · rw [if_pos hc] at h
              obtain ⟨y1, hy1, h⟩ := lett_inv h
              by_cases hc : y1 = 0
              · rw [if_pos hc] at h
                exact FR.tr (FR.rf _ _) (ih29 v2 y1 g r g' h)
              · rw [if_neg hc] at h
                by_cases hc : 0 ≤ (g 92 48) ∧ (g 92 48) < 40
                · rw [if_pos hc] at h
                  exact FR.tr (FR.go (FR.gs (FR.rf _ _) (hW _ (by decide))) ⟨rfl, hW _ (by decide)⟩) (ih29 (wr (v2 + 1)) y1 (gset (gset g 127 ((g 92 48).toNat) (g 95 (wr ((wr (60 * c1)) + v2)).toNat)) 92 48 (wr ((g 92 48) + 1))) r g' h)
                · rw [if_neg hc] at h; cases h
            · rw [if_neg hc] at h; cases h
      · rw [if_neg hc] at h; cases h
set_option maxRecDepth 100000 in
theorem fr_Md_log (a1 : Int) (g : Gx) (r : Int) (g' : Gx) (h : Md_log a1 g = some (r, g')) : FR [127, 6892, 6936] g g' := by
  rw [Md_log] at h
  by_cases hc : ¬ (Md_isSheet a1) = 0
  · rw [if_pos hc] at h
    by_cases hc : 0 ≤ a1 ∧ a1 < 4
    · rw [if_pos hc] at h
      by_cases hc : 0 ≤ (g 93 a1.toNat)
      · rw [if_pos hc] at h
        refine FR.tr (FR.rf _ _) (fr_Md_log_l29 a1 _ [127, 6892, 6936] (by decide) ?_ fu 0 1 g r g' h)
        · intro x2 g3 r g' h
          cases h
          exact (FR.rf _ _)
      · rw [if_neg hc] at h
        obtain ⟨q4, hq, h⟩ := lett_inv h
        refine FR.tr (FR.rf _ _) (FR.tr (FR.cl (fr_Md_met 1 g q4.1 q4.2 hq.symm) (by decide)) ?_)
        cases h
        exact (FR.rf _ _)
    · rw [if_neg hc] at h; cases h
  · rw [if_neg hc] at h
    cases h
    exact (FR.rf _ _)
set_option maxRecDepth 100000 in
theorem fr_Bd_empty (g : Gx) (r : Int) (g' : Gx) (h : Bd_empty g = (r, g')) : FR [5996] g g' := by
  rw [Bd_empty] at h
  cases h
  exact (FR.go (FR.rf _ _) ⟨rfl, by decide⟩)
set_option maxRecDepth 100000 in
theorem fr_Op_clear (g : Gx) (r : Int) (g' : Gx) (h : Op_clear g = (r, g')) : FR [5996] g g' := by
  rw [Op_clear] at h
  obtain ⟨q1, hq, h⟩ := lett_inv h
  refine FR.tr (FR.rf _ _) (FR.tr (FR.cl (fr_Bd_empty g q1.1 q1.2 hq.symm) (by decide)) ?_)
  cases h
  exact (FR.rf _ _)
set_option maxRecDepth 100000 in
theorem fr_Md_clear (g : Gx) (r : Int) (g' : Gx) (h : Md_clear g = (r, g')) : FR [6936] g g' := by
  rw [Md_clear] at h
  cases h
  exact (FR.go (FR.rf _ _) ⟨rfl, by decide⟩)
set_option maxRecDepth 100000 in
theorem fr_Bd_bears_l15 (c1 : Int) (c2 : Int) (c3 : Int) (K15_79 : Gx → Option (Int × Gx)) (W : List Nat) (hW : ∀ c ∈ ([84] : List Nat), c ∈ W) (hK15_79 : ∀ (g : Gx) (r : Int) (g' : Gx), K15_79 g = some (r, g') → FR W g g') : ∀ (n15 : Nat) (v4 : Int) (g : Gx) (r : Int) (g' : Gx), Bd_bears_l15 c1 c2 c3 K15_79 n15 v4 g = some (r, g') → FR W g g' := by
  intro n15
  induction n15 with
  | zero => intro v4 g r g' h; cases h
  | succ n15 ih15 =>
    intro v4 g r g' h
    rw [Bd_bears_l15] at h
    by_cases hc : (Hi_length c1 g) ≤ v4
    · rw [if_pos hc] at h
      exact FR.tr (FR.rf _ _) (hK15_79 g r g' h)
    · rw [if_neg hc] at h
      by_cases hc : ¬ (jdiv (Hi_word c1 v4 g) 100) = c3
      · rw [if_pos hc] at h
        exact FR.tr (FR.rf _ _) (ih15 (wr (v4 + 1)) g r g' h)
      · rw [if_neg hc] at h
        by_cases hc : ¬ (Hi_word c1 v4 g) = c2
        · rw [if_pos hc] at h
          cases h
          exact (FR.rs (FR.rf _ _) (hW _ (by decide)))
        · rw [if_neg hc] at h
          cases h
          exact (FR.rs (FR.rf _ _) (hW _ (by decide)))
set_option maxRecDepth 100000 in
theorem fr_Bd_bears (a1 a2 : Int) (g : Gx) (r : Int) (g' : Gx) (h : Bd_bears a1 a2 g = some (r, g')) : FR [84] g g' := by
  rw [Bd_bears] at h
  refine FR.tr (FR.rf _ _) (fr_Bd_bears_l15 a1 a2 (jdiv a2 100) _ [84] (by decide) ?_ fu (rat g 84 60 (jdiv a2 100)) g r g' h)
  · intro g1 r g' h
    cases h
    exact (FR.rf _ _)
set_option maxRecDepth 100000 in
theorem fr_Bd_compare_l23 (c1 : Int) (K23_53 : Int → Gx → Option Gx) (W : List Nat) (hW : ∀ c ∈ ([84] : List Nat), c ∈ W) (hK23_53 : ∀ (x2 : Int) (g : Gx) (g' : Gx), K23_53 x2 g = some g' → FR W g g') : ∀ (n23 : Nat) (v2 : Int) (g : Gx) (g' : Gx), Bd_compare_l23 c1 K23_53 n23 v2 g = some g' → FR W g g' := by
  intro n23
  induction n23 with
  | zero => intro v2 g g' h; cases h
  | succ n23 ih23 =>
    intro v2 g g' h
    rw [Bd_compare_l23] at h
    by_cases hc : (g 78 4) ≤ v2
    · rw [if_pos hc] at h
      exact FR.tr (FR.rf _ _) (hK23_53 v2 g g' h)
    · rw [if_neg hc] at h
      obtain ⟨q1, hq, h⟩ := Option.bind_eq_some_iff.mp h
      refine FR.tr (FR.rf _ _) (FR.tr (FR.cl (fr_Bd_bears c1 (rat g 80 40 v2) g q1.1 q1.2 hq) (sub_tr (by decide) hW)) ?_)
      by_cases hc : q1.1 = 0
      · rw [if_pos hc] at h
        exact FR.tr (FR.rf _ _) (hK23_53 v2 q1.2 g' h)
      · rw [if_neg hc] at h
        exact FR.tr (FR.rf _ _) (ih23 (wr (v2 + 1)) q1.2 g' h)
set_option maxRecDepth 100000 in
theorem fr_Bd_compare_l2 (K2_68 : Gx → Option Gx) (W : List Nat) (hW : ∀ c ∈ ([82, 84] : List Nat), c ∈ W) (hK2_68 : ∀ (g : Gx) (g' : Gx), K2_68 g = some g' → FR W g g') : ∀ (n2 : Nat) (v1 : Int) (g : Gx) (g' : Gx), Bd_compare_l2 K2_68 n2 v1 g = some g' → FR W g g' := by
  intro n2
  induction n2 with
  | zero => intro v1 g g' h; cases h
  | succ n2 ih2 =>
    intro v1 g g' h
    rw [Bd_compare_l2] at h
    by_cases hc : (Hi_size g) ≤ v1
    · rw [if_pos hc] at h
      exact FR.tr (FR.rf _ _) (hK2_68 g g' h)
    · rw [if_neg hc] at h
      refine FR.tr (FR.rl (FR.rf _ _) (hW _ (by decide))) (fr_Bd_compare_l23 v1 _ W (sub_tr (by decide) hW) ?_ fu 0 (rfill g 84 60 0) g' h)
      · intro x2 g3 g' h
        exact FR.tr (FR.rs (FR.rf _ _) (hW _ (by decide))) (ih2 (wr (v1 + 1)) (rset g3 82 30 v1 x2) g' h)
set_option maxRecDepth 100000 in
theorem fr_Bd_compare (g : Gx) (g' : Gx) (h : Bd_compare g = some g') : FR [82, 84] g g' := by
  rw [Bd_compare] at h
  refine FR.tr (FR.rf _ _) (fr_Bd_compare_l2 _ [82, 84] (by decide) ?_ fu 0 g g' h)
  · intro g4 g' h
    cases h
    exact (FR.rf _ _)
set_option maxRecDepth 100000 in
theorem fr_Bd_leftBy_l4 (c1 : Int) (K4_43 : Int → Gx → Option (Int × Gx)) (W : List Nat) (hW : ∀ c ∈ ([] : List Nat), c ∈ W) (hK4_43 : ∀ (x2 : Int) (g : Gx) (r : Int) (g' : Gx), K4_43 x2 g = some (r, g') → FR W g g') : ∀ (n4 : Nat) (v2 v3 : Int) (g : Gx) (r : Int) (g' : Gx), Bd_leftBy_l4 c1 K4_43 n4 v2 v3 g = some (r, g') → FR W g g' := by
  intro n4
  induction n4 with
  | zero => intro v2 v3 g r g' h; cases h
  | succ n4 ih4 =>
    intro v2 v3 g r g' h
    rw [Bd_leftBy_l4] at h
    by_cases hc : (Hi_size g) ≤ v3
    · rw [if_pos hc] at h
      exact FR.tr (FR.rf _ _) (hK4_43 v2 g r g' h)
    · rw [if_neg hc] at h
      by_cases hc : (rat g 82 30 v3) < c1
      · rw [if_pos hc] at h
        exact FR.tr (FR.rf _ _) (ih4 (jor v2 0) (wr (v3 + 1)) g r g' h)
      · rw [if_neg hc] at h
        exact FR.tr (FR.rf _ _) (ih4 (jor v2 (jshl 1 v3)) (wr (v3 + 1)) g r g' h)
set_option maxRecDepth 100000 in
theorem fr_Bd_leftBy (a1 : Int) (g : Gx) (r : Int) (g' : Gx) (h : Bd_leftBy a1 g = some (r, g')) : FR [] g g' := by
  rw [Bd_leftBy] at h
  refine FR.tr (FR.rf _ _) (fr_Bd_leftBy_l4 a1 _ [] (by decide) ?_ fu 0 0 g r g' h)
  · intro x1 g2 r g' h
    cases h
    exact (FR.rf _ _)
set_option maxRecDepth 100000 in
theorem fr_Op_left (a1 : Int) (g : Gx) (r : Int) (g' : Gx) (h : Op_left a1 g = some (r, g')) : FR [9, 11, 13, 15, 17, 19, 21, 23, 25, 27, 30, 32, 35, 37, 39, 41, 43, 45, 47, 49, 82, 84, 1458, 1459, 1460, 2796, 2797, 2798, 2799, 2800, 2801, 3121, 3122, 3123, 3124, 3125, 3126, 3127, 3128] g g' := by
  rw [Op_left] at h
  by_cases hc : a1 < 0
  · rw [if_pos hc] at h
    cases h
    exact (FR.rf _ _)
  · rw [if_neg hc] at h
    by_cases hc : a1 ≤ (Bd_size g)
    · rw [if_pos hc] at h
      obtain ⟨q1, hq, h⟩ := Option.bind_eq_some_iff.mp h
      refine FR.tr (FR.rf _ _) (FR.tr (FR.cl (fr_Op_hindrance 0 g q1.1 q1.2 hq) (by decide)) ?_)
      by_cases hc : q1.1 = 0
      · rw [if_pos hc] at h
        obtain ⟨g2, hq, h⟩ := Option.bind_eq_some_iff.mp h
        refine FR.tr (FR.rf _ _) (FR.tr (FR.cl (fr_Bd_compare q1.2 g2 hq) (by decide)) ?_)
        obtain ⟨q3, hq, h⟩ := Option.bind_eq_some_iff.mp h
        refine FR.tr (FR.rf _ _) (FR.tr (FR.cl (fr_Bd_leftBy a1 g2 q3.1 q3.2 hq) (by decide)) ?_)
        cases h
        exact (FR.rf _ _)
      · rw [if_neg hc] at h
        cases h
        exact (FR.rf _ _)
    · rw [if_neg hc] at h
      cases h
      exact (FR.rf _ _)
set_option maxRecDepth 100000 in
theorem fr_Md_isLeft_l5 (c1 : Int) (c2 : Int) (c3 : Int) (K5_26 : Gx → Option (Int × Gx)) (W : List Nat) (hW : ∀ c ∈ ([122] : List Nat), c ∈ W) (hK5_26 : ∀ (g : Gx) (r : Int) (g' : Gx), K5_26 g = some (r, g') → FR W g g') : ∀ (n5 : Nat) (v4 : Int) (g : Gx) (r : Int) (g' : Gx), Md_isLeft_l5 c1 c2 c3 K5_26 n5 v4 g = some (r, g') → FR W g g' := by
  intro n5
  induction n5 with
  | zero => intro v4 g r g' h; cases h
  | succ n5 ih5 =>
    intro v4 g r g' h
    rw [Md_isLeft_l5] at h
    by_cases hc : 36 ≤ v4
    · rw [if_pos hc] at h
      exact FR.tr (FR.rf _ _) (hK5_26 g r g' h)
    · rw [if_neg hc] at h
      by_cases hc : 0 ≤ v4 ∧ v4 < 36
      · rw [if_pos hc] at h
        exact FR.tr (FR.gs (FR.rf _ _) (hW _ (by decide))) (ih5 (wr (v4 + 1)) (gset g 122 v4.toNat 0) r g' h)
      · rw [if_neg hc] at h; cases h
set_option maxRecDepth 100000 in
theorem fr_Md_isLeft_l63 (c1 : Int) (c2 : Int) (c4 : Int) (c5 : Int) (K63_125 : Int → Gx → Option (Int × Gx)) (W : List Nat) (hW : ∀ c ∈ ([] : List Nat), c ∈ W) (hK63_125 : ∀ (x7 : Int) (g : Gx) (r : Int) (g' : Gx), K63_125 x7 g = some (r, g') → FR W g g') : ∀ (n63 : Nat) (v6 v7 : Int) (g : Gx) (r : Int) (g' : Gx), Md_isLeft_l63 c1 c2 c4 c5 K63_125 n63 v6 v7 g = some (r, g') → FR W g g' := by
  intro n63
  induction n63 with
  | zero => intro v6 v7 g r g' h; cases h
  | succ n63 ih63 =>
    intro v6 v7 g r g' h
    rw [Md_isLeft_l63] at h
    by_cases hc : 0 ≤ c1 ∧ c1 < 30
    · rw [if_pos hc] at h
      by_cases hc : (g 110 c1.toNat) ≤ v7
      · rw [if_pos hc] at h
        exact FR.tr (FR.rf _ _) (hK63_125 v7 g r g' h)
      · rw [if_neg hc] at h
        obtain ⟨q2, hq, h⟩ := Option.bind_eq_some_iff.mp h
        refine FR.tr (FR.rf _ _) (FR.tr (FR.cl (fr_Md_code c1 v7 g q2.1 q2.2 hq) (sub_tr (by decide) hW)) ?_)
        by_cases hc : ¬ (Md_queueOf q2.1) = c5
        · rw [if_pos hc] at h
          obtain ⟨q3, hq, h⟩ := Option.bind_eq_some_iff.mp h
          refine FR.tr (FR.rf _ _) (FR.tr (FR.cl (fr_Md_code c1 v7 q2.2 q3.1 q3.2 hq) (sub_tr (by decide) hW)) ?_)
          by_cases hc : ¬ (Md_queueOf q3.1) = c5
          · rw [if_pos hc] at h
            exact FR.tr (FR.rf _ _) (ih63 (wr (v6 - 0)) (wr (v7 + 1)) q3.2 r g' h)
          · rw [if_neg hc] at h
            exact FR.tr (FR.rf _ _) (ih63 (wr (v6 - 1)) (wr (v7 + 1)) q3.2 r g' h)
        · rw [if_neg hc] at h
          by_cases hc : v6 ≤ 0
          · rw [if_pos hc] at h
            exact FR.tr (FR.rf _ _) (hK63_125 v7 q2.2 r g' h)
          · rw [if_neg hc] at h
            obtain ⟨q4, hq, h⟩ := Option.bind_eq_some_iff.mp h
            refine FR.tr (FR.rf _ _) (FR.tr (FR.cl (fr_Md_code c1 v7 q2.2 q4.1 q4.2 hq) (sub_tr (by decide) hW)) ?_)
            by_cases hc : ¬ (Md_queueOf q4.1) = c5
            · rw [if_pos hc] at h
              exact FR.tr (FR.rf _ _) (ih63 (wr (v6 - 0)) (wr (v7 + 1)) q4.2 r g' h)
            · rw [if_neg hc] at h
              exact FR.tr (FR.rf _ _) (ih63 (wr (v6 - 1)) (wr (v7 + 1)) q4.2 r g' h)
    · rw [if_neg hc] at h; cases h
set_option maxRecDepth 100000 in
theorem fr_Md_isLeft_l29 (c1 : Int) (c2 : Int) (K29_176 : Int → Gx → Option (Int × Gx)) (W : List Nat) (hW : ∀ c ∈ ([122] : List Nat), c ∈ W) (hK29_176 : ∀ (x3 : Int) (g : Gx) (r : Int) (g' : Gx), K29_176 x3 g = some (r, g') → FR W g g') : ∀ (n29 : Nat) (v3 v4 : Int) (g : Gx) (r : Int) (g' : Gx), Md_isLeft_l29 c1 c2 K29_176 n29 v3 v4 g = some (r, g') → FR W g g' := by
  intro n29
  induction n29 with
  | zero => intro v3 v4 g r g' h; cases h
  | succ n29 ih29 =>
    intro v3 v4 g r g' h
    rw [Md_isLeft_l29] at h
    by_cases hc : c2 ≤ v4
    · rw [if_pos hc] at h
      exact FR.tr (FR.rf _ _) (hK29_176 v3 g r g' h)
    · rw [if_neg hc] at h
      by_cases hc : v3 = 0
      · rw [if_pos hc] at h
        exact FR.tr (FR.rf _ _) (hK29_176 v3 g r g' h)
      · rw [if_neg hc] at h
        by_cases hc : 0 ≤ v4 ∧ v4 < 40
        · rw [if_pos hc] at h
          by_cases hc : 0 ≤ (Md_queueOf (g 127 v4.toNat)) ∧ (Md_queueOf (g 127 v4.toNat)) < 36
          · rw [if_pos hc] at h
            refine FR.tr (FR.rf _ _) (fr_Md_isLeft_l63 c1 c2 v4 (Md_queueOf (g 127 v4.toNat)) _ W (sub_tr (by decide) hW) ?_ fu (g 122 (Md_queueOf (g 127 v4.toNat)).toNat) 0 g r g' h)
            · intro x5 g6 r g' h
              by_cases hc : 0 ≤ c1 ∧ c1 < 30
              · rw [if_pos hc] at h
                by_cases hc : (g6 110 c1.toNat) ≤ x5
                · rw [if_pos hc] at h
                  by_cases hc : 0 ≤ (Md_queueOf (g 127 v4.toNat)) ∧ (Md_queueOf (g 127 v4.toNat)) < 36
                  · rw [if_pos hc] at h
                    by_cases hc : 0 ≤ (Md_queueOf (g 127 v4.toNat)) ∧ (Md_queueOf (g 127 v4.toNat)) < 36
                    · rw [if_pos hc] at h
                      exact FR.tr (FR.gs (FR.rf _ _) (hW _ (by decide))) (ih29 0 (wr (v4 + 1)) (gset g6 122 ((Md_queueOf (g 127 v4.toNat)).toNat) (wr ((g6 122 (Md_queueOf (g 127 v4.toNat)).toNat) + 1))) r g' h)
                    · rw [if_neg hc] at h; cases h
                  · rw [if_neg hc] at h; cases h
                · rw [if_neg hc] at h
                  obtain ⟨q7, hq, h⟩ := Option.bind_eq_some_iff.mp h
                  refine FR.tr (FR.rf _ _) (FR.tr (FR.cl (fr_Md_code c1 x5 g6 q7.1 q7.2 hq) (sub_tr (by decide) hW)) ?_)
                  by_cases hc : 0 ≤ v4 ∧ v4 < 40
                  · rw [if_pos hc] at h
                    obtain ⟨y8, hy8, h⟩ := lett_inv h
                    by_cases hc : 0 ≤ (Md_queueOf (g 127 v4.toNat)) ∧ (Md_queueOf (g 127 v4.toNat)) < 36
                    · rw [if_pos hc] at h
                      by_cases hc : 0 ≤ (Md_queueOf (g 127 v4.toNat)) ∧ (Md_queueOf (g 127 v4.toNat)) < 36
                      · rw [if_pos hc] at h
                        exact FR.tr (FR.gs (FR.rf _ _) (hW _ (by decide))) (ih29 y8 (wr (v4 + 1)) (gset q7.2 122 ((Md_queueOf (g 127 v4.toNat)).toNat) (wr ((q7.2 122 (Md_queueOf (g 127 v4.toNat)).toNat) + 1))) r g' h)
                      · rw [if_neg hc] at h; cases h
                    · rw [if_neg hc] at h; cases h
                  · rw [if_neg hc] at h; cases h
              · rw [if_neg hc] at h; cases h
          · rw [if_neg hc] at h; cases h
        · rw [if_neg hc] at h; cases h
set_option maxRecDepth 100000 in
theorem fr_Md_isLeft (a1 a2 : Int) (g : Gx) (r : Int) (g' : Gx) (h : Md_isLeft a1 a2 g = some (r, g')) : FR [122] g g' := by
  rw [Md_isLeft] at h
  refine FR.tr (FR.rf _ _) (fr_Md_isLeft_l5 a1 a2 1 _ [122] (by decide) ?_ fu 0 g r g' h)
  · intro g1 r g' h
    refine FR.tr (FR.rf _ _) (fr_Md_isLeft_l29 a1 a2 _ [122] (by decide) ?_ fu 1 0 g1 r g' h)
    · intro x9 g10 r g' h
      by_cases hc : x9 = 0 ∨ x9 = 1
      · rw [if_pos hc] at h; cases h
        exact (FR.rf _ _)
      · rw [if_neg hc] at h; cases h
