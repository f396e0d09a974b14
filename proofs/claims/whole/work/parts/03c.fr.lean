/-! What the methods leave as it was. Printed by wip/gen/gen_parts.py. -/
set_option maxRecDepth 100000 in
theorem fr_Md_leftBy_l4 (c1 : Int) (K4_37 : Int → Gx → Option (Int × Gx)) (W : List Nat) (hW : ∀ c ∈ ([122] : List Nat), c ∈ W) (hK4_37 : ∀ (x2 : Int) (g : Gx) (r : Int) (g' : Gx), K4_37 x2 g = some (r, g') → FR W g g') : ∀ (n4 : Nat) (v2 v3 : Int) (g : Gx) (r : Int) (g' : Gx), Md_leftBy_l4 c1 K4_37 n4 v2 v3 g = some (r, g') → FR W g g' := by
  intro n4
  induction n4 with
  | zero => intro v2 v3 g r g' h; cases h
  | succ n4 ih4 =>
    intro v2 v3 g r g' h
    rw [Md_leftBy_l4] at h
    by_cases hc : (g 92 26) ≤ v3
    · rw [if_pos hc] at h
      exact FR.tr (FR.rf _ _) (hK4_37 v2 g r g' h)
    · rw [if_neg hc] at h
      obtain ⟨q1, hq, h⟩ := Option.bind_eq_some_iff.mp h
      refine FR.tr (FR.rf _ _) (FR.tr (FR.cl (fr_Md_isLeft v3 c1 g q1.1 q1.2 hq) (sub_tr (by decide) hW)) ?_)
      by_cases hc : q1.1 = 0
      · rw [if_pos hc] at h
        exact FR.tr (FR.rf _ _) (ih4 (jor v2 0) (wr (v3 + 1)) q1.2 r g' h)
      · rw [if_neg hc] at h
        exact FR.tr (FR.rf _ _) (ih4 (jor v2 (jshl 1 v3)) (wr (v3 + 1)) q1.2 r g' h)
set_option maxRecDepth 100000 in
theorem fr_Md_leftBy (a1 : Int) (g : Gx) (r : Int) (g' : Gx) (h : Md_leftBy a1 g = some (r, g')) : FR [122] g g' := by
  rw [Md_leftBy] at h
  refine FR.tr (FR.rf _ _) (fr_Md_leftBy_l4 a1 _ [122] (by decide) ?_ fu 0 0 g r g' h)
  · intro x2 g3 r g' h
    cases h
    exact (FR.rf _ _)
set_option maxRecDepth 100000 in
theorem fr_Md_left (a1 : Int) (g : Gx) (r : Int) (g' : Gx) (h : Md_left a1 g = some (r, g')) : FR [99, 100, 101, 102, 103, 104, 105, 110, 111, 112, 113, 114, 115, 116, 117, 122, 6896, 6897, 6904, 6905, 6906, 6908, 6914, 6923, 6924] g g' := by
  rw [Md_left] at h
  by_cases hc : ¬ (Md_in a1 0 (g 92 48)) = 0
  · rw [if_pos hc] at h
    obtain ⟨q1, hq, h⟩ := Option.bind_eq_some_iff.mp h
    refine FR.tr (FR.rf _ _) (FR.tr (FR.cl (fr_Md_without g q1.1 q1.2 hq) (by decide)) ?_)
    by_cases hc : q1.1 = 0
    · rw [if_pos hc] at h
      obtain ⟨q2, hq, h⟩ := Option.bind_eq_some_iff.mp h
      refine FR.tr (FR.rf _ _) (FR.tr (FR.cl (fr_Md_leftBy a1 q1.2 q2.1 q2.2 hq) (by decide)) ?_)
      cases h
      exact (FR.rf _ _)
    · rw [if_neg hc] at h
      cases h
      exact (FR.rf _ _)
  · rw [if_neg hc] at h
    cases h
    exact (FR.rf _ _)
set_option maxRecDepth 100000 in
theorem fr_Bd_mostBorne_l4 (K4_34 : Int → Gx → Option (Int × Gx)) (W : List Nat) (hW : ∀ c ∈ ([] : List Nat), c ∈ W) (hK4_34 : ∀ (x1 : Int) (g : Gx) (r : Int) (g' : Gx), K4_34 x1 g = some (r, g') → FR W g g') : ∀ (n4 : Nat) (v1 v2 : Int) (g : Gx) (r : Int) (g' : Gx), Bd_mostBorne_l4 K4_34 n4 v1 v2 g = some (r, g') → FR W g g' := by
  intro n4
  induction n4 with
  | zero => intro v1 v2 g r g' h; cases h
  | succ n4 ih4 =>
    intro v1 v2 g r g' h
    rw [Bd_mostBorne_l4] at h
    by_cases hc : (Hi_size g) ≤ v2
    · rw [if_pos hc] at h
      exact FR.tr (FR.rf _ _) (hK4_34 v1 g r g' h)
    · rw [if_neg hc] at h
      exact FR.tr (FR.rf _ _) (ih4 (imax v1 (rat g 82 30 v2)) (wr (v2 + 1)) g r g' h)
set_option maxRecDepth 100000 in
theorem fr_Bd_mostBorne (g : Gx) (r : Int) (g' : Gx) (h : Bd_mostBorne g = some (r, g')) : FR [] g g' := by
  rw [Bd_mostBorne] at h
  refine FR.tr (FR.rf _ _) (fr_Bd_mostBorne_l4 _ [] (by decide) ?_ fu 0 0 g r g' h)
  · intro x1 g2 r g' h
    cases h
    exact (FR.rf _ _)
set_option maxRecDepth 100000 in
theorem fr_Bd_firstOut (g : Gx) (r : Int) (g' : Gx) (h : Bd_firstOut g = some (r, g')) : FR [] g g' := by
  rw [Bd_firstOut] at h
  obtain ⟨q1, hq, h⟩ := Option.bind_eq_some_iff.mp h
  refine FR.tr (FR.rf _ _) (FR.tr (FR.cl (fr_Bd_mostBorne g q1.1 q1.2 hq) (by decide)) ?_)
  by_cases hc : (q1.2 78 4) ≤ q1.1
  · rw [if_pos hc] at h
    cases h
    exact (FR.rf _ _)
  · rw [if_neg hc] at h
    cases h
    exact (FR.rf _ _)
set_option maxRecDepth 100000 in
theorem fr_Bd_blamed (g : Gx) (r : Int) (g' : Gx) (h : Bd_blamed g = some (r, g')) : FR [] g g' := by
  rw [Bd_blamed] at h
  obtain ⟨q1, hq, h⟩ := Option.bind_eq_some_iff.mp h
  refine FR.tr (FR.rf _ _) (FR.tr (FR.cl (fr_Bd_mostBorne g q1.1 q1.2 hq) (by decide)) ?_)
  by_cases hc : (q1.2 78 4) ≤ q1.1
  · rw [if_pos hc] at h
    cases h
    exact (FR.rf _ _)
  · rw [if_neg hc] at h
    cases h
    exact (FR.rf _ _)
set_option maxRecDepth 100000 in
theorem fr_Op_out (a1 : Int) (g : Gx) (r : Int) (g' : Gx) (h : Op_out a1 g = some (r, g')) : FR [9, 11, 13, 15, 17, 19, 21, 23, 25, 27, 30, 32, 35, 37, 39, 41, 43, 45, 47, 49, 82, 84, 1458, 1459, 1460, 2796, 2797, 2798, 2799, 2800, 2801, 3121, 3122, 3123, 3124, 3125, 3126, 3127, 3128] g g' := by
  rw [Op_out] at h
  by_cases hc : a1 < 0
  · rw [if_pos hc] at h
    cases h
    exact (FR.rf _ _)
  · rw [if_neg hc] at h
    by_cases hc : a1 ≤ 1
    · rw [if_pos hc] at h
      obtain ⟨q1, hq, h⟩ := Option.bind_eq_some_iff.mp h
      refine FR.tr (FR.rf _ _) (FR.tr (FR.cl (fr_Op_hindrance 0 g q1.1 q1.2 hq) (by decide)) ?_)
      by_cases hc : q1.1 = 0
      · rw [if_pos hc] at h
        obtain ⟨g2, hq, h⟩ := Option.bind_eq_some_iff.mp h
        refine FR.tr (FR.rf _ _) (FR.tr (FR.cl (fr_Bd_compare q1.2 g2 hq) (by decide)) ?_)
        by_cases hc : ¬ a1 = 0
        · rw [if_pos hc] at h
          obtain ⟨q3, hq, h⟩ := Option.bind_eq_some_iff.mp h
          refine FR.tr (FR.rf _ _) (FR.tr (FR.cl (fr_Bd_blamed g2 q3.1 q3.2 hq) (by decide)) ?_)
          cases h
          exact (FR.rf _ _)
        · rw [if_neg hc] at h
          obtain ⟨q4, hq, h⟩ := Option.bind_eq_some_iff.mp h
          refine FR.tr (FR.rf _ _) (FR.tr (FR.cl (fr_Bd_firstOut g2 q4.1 q4.2 hq) (by decide)) ?_)
          cases h
          exact (FR.rf _ _)
      · rw [if_neg hc] at h
        cases h
        exact (FR.rf _ _)
    · rw [if_neg hc] at h
      cases h
      exact (FR.rf _ _)
set_option maxRecDepth 100000 in
theorem fr_Md_outOf_l2 (K2_28 : Gx → Option (Int × Gx)) (W : List Nat) (hW : ∀ c ∈ ([122] : List Nat), c ∈ W) (hK2_28 : ∀ (g : Gx) (r : Int) (g' : Gx), K2_28 g = some (r, g') → FR W g g') : ∀ (n2 : Nat) (v1 : Int) (g : Gx) (r : Int) (g' : Gx), Md_outOf_l2 K2_28 n2 v1 g = some (r, g') → FR W g g' := by
  intro n2
  induction n2 with
  | zero => intro v1 g r g' h; cases h
  | succ n2 ih2 =>
    intro v1 g r g' h
    rw [Md_outOf_l2] at h
    by_cases hc : (g 92 48) ≤ v1
    · rw [if_pos hc] at h
      exact FR.tr (FR.rf _ _) (hK2_28 g r g' h)
    · rw [if_neg hc] at h
      obtain ⟨q1, hq, h⟩ := Option.bind_eq_some_iff.mp h
      refine FR.tr (FR.rf _ _) (FR.tr (FR.cl (fr_Md_leftBy (wr (v1 + 1)) g q1.1 q1.2 hq) (sub_tr (by decide) hW)) ?_)
      by_cases hc : ¬ q1.1 = 0
      · rw [if_pos hc] at h
        exact FR.tr (FR.rf _ _) (ih2 (wr (v1 + 1)) q1.2 r g' h)
      · rw [if_neg hc] at h
        cases h
        exact (FR.rf _ _)
set_option maxRecDepth 100000 in
theorem fr_Md_outOf (g : Gx) (r : Int) (g' : Gx) (h : Md_outOf g = some (r, g')) : FR [122] g g' := by
  rw [Md_outOf] at h
  refine FR.tr (FR.rf _ _) (fr_Md_outOf_l2 _ [122] (by decide) ?_ fu 0 g r g' h)
  · intro g2 r g' h
    cases h
    exact (FR.rf _ _)
set_option maxRecDepth 100000 in
theorem fr_Md_out (a1 : Int) (g : Gx) (r : Int) (g' : Gx) (h : Md_out a1 g = some (r, g')) : FR [99, 100, 101, 102, 103, 104, 105, 110, 111, 112, 113, 114, 115, 116, 117, 122, 6896, 6897, 6904, 6905, 6906, 6908, 6914, 6923, 6924] g g' := by
  rw [Md_out] at h
  by_cases hc : ¬ (Md_in a1 0 1) = 0
  · rw [if_pos hc] at h
    obtain ⟨q1, hq, h⟩ := Option.bind_eq_some_iff.mp h
    refine FR.tr (FR.rf _ _) (FR.tr (FR.cl (fr_Md_without g q1.1 q1.2 hq) (by decide)) ?_)
    by_cases hc : q1.1 = 0
    · rw [if_pos hc] at h
      obtain ⟨q2, hq, h⟩ := Option.bind_eq_some_iff.mp h
      refine FR.tr (FR.rf _ _) (FR.tr (FR.cl (fr_Md_outOf q1.2 q2.1 q2.2 hq) (by decide)) ?_)
      by_cases hc : q2.1 = (-1)
      · rw [if_pos hc] at h
        cases h
        exact (FR.rf _ _)
      · rw [if_neg hc] at h
        by_cases hc : ¬ a1 = 0
        · rw [if_pos hc] at h
          by_cases hc : 0 ≤ q2.1 ∧ q2.1 < 40
          · rw [if_pos hc] at h
            cases h
            exact (FR.rf _ _)
          · rw [if_neg hc] at h; cases h
        · rw [if_neg hc] at h
          cases h
          exact (FR.rf _ _)
    · rw [if_neg hc] at h
      cases h
      exact (FR.rf _ _)
  · rw [if_neg hc] at h
    cases h
    exact (FR.rf _ _)
set_option maxRecDepth 100000 in
theorem fr_Bd_leftAtLast (g : Gx) (r : Int) (g' : Gx) (h : Bd_leftAtLast g = some (r, g')) : FR [] g g' := by
  rw [Bd_leftAtLast] at h
  obtain ⟨q1, hq, h⟩ := Option.bind_eq_some_iff.mp h
  refine FR.tr (FR.rf _ _) (FR.tr (FR.cl (fr_Bd_mostBorne g q1.1 q1.2 hq) (by decide)) ?_)
  obtain ⟨q2, hq, h⟩ := Option.bind_eq_some_iff.mp h
  refine FR.tr (FR.rf _ _) (FR.tr (FR.cl (fr_Bd_leftBy q1.1 q1.2 q2.1 q2.2 hq) (by decide)) ?_)
  cases h
  exact (FR.rf _ _)
set_option maxRecDepth 100000 in
theorem fr_Lk_mostTelling_l7 (c1 : Int) (K7_45 : Int → Gx → Option (Int × Gx)) (W : List Nat) (hW : ∀ c ∈ ([52, 54] : List Nat), c ∈ W) (hK7_45 : ∀ (x2 : Int) (g : Gx) (r : Int) (g' : Gx), K7_45 x2 g = some (r, g') → FR W g g') : ∀ (n7 : Nat) (v2 v3 v4 : Int) (g : Gx) (r : Int) (g' : Gx), Lk_mostTelling_l7 c1 K7_45 n7 v2 v3 v4 g = some (r, g') → FR W g g' := by
  intro n7
  induction n7 with
  | zero => intro v2 v3 v4 g r g' h; cases h
  | succ n7 ih7 =>
    intro v2 v3 v4 g r g' h
    rw [Lk_mostTelling_l7] at h
    by_cases hc : 6 ≤ v4
    · rw [if_pos hc] at h
      exact FR.tr (FR.rf _ _) (hK7_45 v2 g r g' h)
    · rw [if_neg hc] at h
      obtain ⟨g1, hq, h⟩ := Option.bind_eq_some_iff.mp h
      refine FR.tr (FR.rf _ _) (FR.tr (FR.cl (fr_Lk_load v4 g g1 hq) (sub_tr (by decide) hW)) ?_)
      obtain ⟨q2, hq, h⟩ := Option.bind_eq_some_iff.mp h
      refine FR.tr (FR.rf _ _) (FR.tr (FR.cl (fr_Lk_unlike c1 g1 q2.1 q2.2 hq) (sub_tr (by decide) hW)) ?_)
      by_cases hc : q2.1 ≤ v3
      · rw [if_pos hc] at h
        exact FR.tr (FR.rf _ _) (ih7 v2 v3 (wr (v4 + 1)) q2.2 r g' h)
      · rw [if_neg hc] at h
        exact FR.tr (FR.rf _ _) (ih7 v4 q2.1 (wr (v4 + 1)) q2.2 r g' h)
set_option maxRecDepth 100000 in
theorem fr_Lk_mostTelling (a1 : Int) (g : Gx) (r : Int) (g' : Gx) (h : Lk_mostTelling a1 g = some (r, g')) : FR [52, 54] g g' := by
  rw [Lk_mostTelling] at h
  refine FR.tr (FR.rf _ _) (fr_Lk_mostTelling_l7 a1 _ [52, 54] (by decide) ?_ fu 0 0 0 g r g' h)
  · intro x3 g4 r g' h
    cases h
    exact (FR.rf _ _)
set_option maxRecDepth 100000 in
theorem fr_Op_ask (g : Gx) (r : Int) (g' : Gx) (h : Op_ask g = some (r, g')) : FR [9, 11, 13, 15, 17, 19, 21, 23, 25, 27, 30, 32, 35, 37, 39, 41, 43, 45, 47, 49, 52, 54, 82, 84, 1458, 1459, 1460, 2796, 2797, 2798, 2799, 2800, 2801, 3121, 3122, 3123, 3124, 3125, 3126, 3127, 3128] g g' := by
  rw [Op_ask] at h
  obtain ⟨q1, hq, h⟩ := Option.bind_eq_some_iff.mp h
  refine FR.tr (FR.rf _ _) (FR.tr (FR.cl (fr_Op_hindrance 0 g q1.1 q1.2 hq) (by decide)) ?_)
  by_cases hc : q1.1 = 0
  · rw [if_pos hc] at h
    obtain ⟨g2, hq, h⟩ := Option.bind_eq_some_iff.mp h
    refine FR.tr (FR.rf _ _) (FR.tr (FR.cl (fr_Bd_compare q1.2 g2 hq) (by decide)) ?_)
    obtain ⟨q3, hq, h⟩ := Option.bind_eq_some_iff.mp h
    refine FR.tr (FR.rf _ _) (FR.tr (FR.cl (fr_Bd_leftAtLast g2 q3.1 q3.2 hq) (by decide)) ?_)
    by_cases hc : ¬ (Ji_bitCount q3.1) = 1
    · rw [if_pos hc] at h
      obtain ⟨q4, hq, h⟩ := Option.bind_eq_some_iff.mp h
      refine FR.tr (FR.rf _ _) (FR.tr (FR.cl (fr_Lk_mostTelling q3.1 q3.2 q4.1 q4.2 hq) (by decide)) ?_)
      cases h
      exact (FR.rf _ _)
    · rw [if_neg hc] at h
      cases h
      exact (FR.rf _ _)
  · rw [if_neg hc] at h
    by_cases hc : ¬ q1.1 = (-4)
    · rw [if_pos hc] at h
      cases h
      exact (FR.rf _ _)
    · rw [if_neg hc] at h
      cases h
      exact (FR.rf _ _)
set_option maxRecDepth 100000 in
theorem fr_Md_ask_l64 (c3 : Int) (K64_103 : Int → Gx → Option (Int × Gx)) (W : List Nat) (hW : ∀ c ∈ ([] : List Nat), c ∈ W) (hK64_103 : ∀ (x4 : Int) (g : Gx) (r : Int) (g' : Gx), K64_103 x4 g = some (r, g') → FR W g g') : ∀ (n64 : Nat) (v4 v5 : Int) (g : Gx) (r : Int) (g' : Gx), Md_ask_l64 c3 K64_103 n64 v4 v5 g = some (r, g') → FR W g g' := by
  intro n64
  induction n64 with
  | zero => intro v4 v5 g r g' h; cases h
  | succ n64 ih64 =>
    intro v4 v5 g r g' h
    rw [Md_ask_l64] at h
    by_cases hc : 6 ≤ v5
    · rw [if_pos hc] at h
      exact FR.tr (FR.rf _ _) (hK64_103 v4 g r g' h)
    · rw [if_neg hc] at h
      obtain ⟨q7, hq, h⟩ := Option.bind_eq_some_iff.mp h
      refine FR.tr (FR.rf _ _) (FR.tr (FR.cl (fr_Md_looksOf v5 c3 g q7.1 q7.2 hq) (sub_tr (by decide) hW)) ?_)
      obtain ⟨q8, hq, h⟩ := Option.bind_eq_some_iff.mp h
      refine FR.tr (FR.rf _ _) (FR.tr (FR.cl (fr_Md_looksOf v4 c3 q7.2 q8.1 q8.2 hq) (sub_tr (by decide) hW)) ?_)
      by_cases hc : q7.1 ≤ q8.1
      · rw [if_pos hc] at h
        exact FR.tr (FR.rf _ _) (ih64 v4 (wr (v5 + 1)) q8.2 r g' h)
      · rw [if_neg hc] at h
        exact FR.tr (FR.rf _ _) (ih64 v5 (wr (v5 + 1)) q8.2 r g' h)
set_option maxRecDepth 100000 in
theorem fr_Md_ask (g : Gx) (r : Int) (g' : Gx) (h : Md_ask g = some (r, g')) : FR [99, 100, 101, 102, 103, 104, 105, 110, 111, 112, 113, 114, 115, 116, 117, 118, 119, 122, 6896, 6897, 6904, 6905, 6906, 6908, 6914, 6923, 6924] g g' := by
  rw [Md_ask] at h
  obtain ⟨q1, hq, h⟩ := Option.bind_eq_some_iff.mp h
  refine FR.tr (FR.rf _ _) (FR.tr (FR.cl (fr_Md_without g q1.1 q1.2 hq) (by decide)) ?_)
  by_cases hc : q1.1 = 0
  · rw [if_pos hc] at h
    obtain ⟨q2, hq, h⟩ := Option.bind_eq_some_iff.mp h
    refine FR.tr (FR.rf _ _) (FR.tr (FR.cl (fr_Md_outOf q1.2 q2.1 q2.2 hq) (by decide)) ?_)
    obtain ⟨y3, hy3, h⟩ := lett_inv h
    obtain ⟨q4, hq, h⟩ := Option.bind_eq_some_iff.mp h
    refine FR.tr (FR.rf _ _) (FR.tr (FR.cl (fr_Md_leftBy y3 q2.2 q4.1 q4.2 hq) (by decide)) ?_)
    obtain ⟨q5, hq, h⟩ := Option.bind_eq_some_iff.mp h
    refine FR.tr (FR.rf _ _) (FR.tr (FR.cl (fr_Md_ones q4.1 q4.2 q5.1 q5.2 hq) (by decide)) ?_)
    by_cases hc : ¬ q5.1 = 1
    · rw [if_pos hc] at h
      obtain ⟨g6, hq, h⟩ := Option.bind_eq_some_iff.mp h
      refine FR.tr (FR.rf _ _) (FR.tr (FR.cl (fr_Md_findLooks q5.2 g6 hq) (by decide)) ?_)
      refine FR.tr (FR.rf _ _) (fr_Md_ask_l64 q4.1 _ [99, 100, 101, 102, 103, 104, 105, 110, 111, 112, 113, 114, 115, 116, 117, 118, 119, 122, 6896, 6897, 6904, 6905, 6906, 6908, 6914, 6923, 6924] (by decide) ?_ fu 0 1 g6 r g' h)
      · intro x9 g10 r g' h
        cases h
        exact (FR.rf _ _)
    · rw [if_neg hc] at h
      cases h
      exact (FR.rf _ _)
  · rw [if_neg hc] at h
    by_cases hc : ¬ q1.1 = (-4)
    · rw [if_pos hc] at h
      cases h
      exact (FR.rf _ _)
    · rw [if_neg hc] at h
      cases h
      exact (FR.rf _ _)
set_option maxRecDepth 100000 in
theorem fr_Sh_renew_l21 (c1 : Int) (c3 : Int) (K21_48 : Gx → Option Gx) (W : List Nat) (hW : ∀ c ∈ ([87] : List Nat), c ∈ W) (hK21_48 : ∀ (g : Gx) (g' : Gx), K21_48 g = some g' → FR W g g') : ∀ (n21 : Nat) (v4 : Int) (g : Gx) (g' : Gx), Sh_renew_l21 c1 c3 K21_48 n21 v4 g = some g' → FR W g g' := by
  intro n21
  induction n21 with
  | zero => intro v4 g g' h; cases h
  | succ n21 ih21 =>
    intro v4 g g' h
    rw [Sh_renew_l21] at h
    by_cases hc : c3 ≤ v4
    · rw [if_pos hc] at h
      exact FR.tr (FR.rf _ _) (hK21_48 g g' h)
    · rw [if_neg hc] at h
      exact FR.tr (FR.rs (FR.rf _ _) (hW _ (by decide))) (ih21 (wr (v4 + 1)) (rset g 87 240 (wr ((wr (c1 * 60)) + v4)) 0) g' h)
set_option maxRecDepth 100000 in
theorem fr_Sh_renew (a1 a2 a3 : Int) (g : Gx) (g' : Gx) (h : Sh_renew a1 a2 a3 g = some g') : FR [87, 89, 91] g g' := by
  rw [Sh_renew] at h
  refine FR.tr (FR.rs (FR.rs (FR.rf _ _) (by decide)) (by decide)) (fr_Sh_renew_l21 a1 a3 _ [87, 89, 91] (by decide) ?_ fu 0 (rset (rset g 89 4 a1 a2) 91 4 a1 a3) g' h)
  · intro g1 g' h
    cases h
    exact (FR.rf _ _)
set_option maxRecDepth 100000 in
theorem fr_Op_sheet (a1 a2 a3 : Int) (g : Gx) (r : Int) (g' : Gx) (h : Op_sheet a1 a2 a3 g = some (r, g')) : FR [87, 89, 91, 1012] g g' := by
  rw [Op_sheet] at h
  by_cases hc : (Op_isSheet a1) = 0
  · rw [if_pos hc] at h
    cases h
    exact (FR.rf _ _)
  · rw [if_neg hc] at h
    by_cases hc : (Op_isForm a2) = 0
    · rw [if_pos hc] at h
      cases h
      exact (FR.rf _ _)
    · rw [if_neg hc] at h
      by_cases hc : a3 ≤ 60
      · rw [if_pos hc] at h
        by_cases hc : 0 ≤ a3
        · rw [if_pos hc] at h
          obtain ⟨g1, hq, h⟩ := Option.bind_eq_some_iff.mp h
          refine FR.tr (FR.rf _ _) (FR.tr (FR.cl (fr_Sh_renew a1 a2 a3 g g1 hq) (by decide)) ?_)
          cases h
          exact (FR.rf _ _)
        · rw [if_neg hc] at h
          obtain ⟨q2, hq, h⟩ := lett_inv h
          refine FR.tr (FR.rf _ _) (FR.tr (FR.cl (fr_Op_found 5 g q2.1 q2.2 hq.symm) (by decide)) ?_)
          cases h
          exact (FR.rf _ _)
      · rw [if_neg hc] at h
        cases h
        exact (FR.rf _ _)
set_option maxRecDepth 100000 in
theorem fr_Md_sheet_l55 (c1 : Int) (c3 : Int) (K55_80 : Gx → Option (Int × Gx)) (W : List Nat) (hW : ∀ c ∈ ([95] : List Nat), c ∈ W) (hK55_80 : ∀ (g : Gx) (r : Int) (g' : Gx), K55_80 g = some (r, g') → FR W g g') : ∀ (n55 : Nat) (v4 : Int) (g : Gx) (r : Int) (g' : Gx), Md_sheet_l55 c1 c3 K55_80 n55 v4 g = some (r, g') → FR W g g' := by
  intro n55
  induction n55 with
  | zero => intro v4 g r g' h; cases h
  | succ n55 ih55 =>
    intro v4 g r g' h
    rw [Md_sheet_l55] at h
    by_cases hc : c3 ≤ v4
    · rw [if_pos hc] at h
      exact FR.tr (FR.rf _ _) (hK55_80 g r g' h)
    · rw [if_neg hc] at h
      by_cases hc : 0 ≤ (wr ((wr (60 * c1)) + v4)) ∧ (wr ((wr (60 * c1)) + v4)) < 240
      · rw [if_pos hc] at h
        exact FR.tr (FR.gs (FR.rf _ _) (hW _ (by decide))) (ih55 (wr (v4 + 1)) (gset g 95 ((wr ((wr (60 * c1)) + v4)).toNat) 0) r g' h)
      · rw [if_neg hc] at h; cases h
set_option maxRecDepth 100000 in
theorem fr_Md_sheet (a1 a2 a3 : Int) (g : Gx) (r : Int) (g' : Gx) (h : Md_sheet a1 a2 a3 g = some (r, g')) : FR [93, 94, 95, 6892] g g' := by
  rw [Md_sheet] at h
  by_cases hc : (Md_isSheet a1) = 0
  · rw [if_pos hc] at h
    cases h
    exact (FR.rf _ _)
  · rw [if_neg hc] at h
    by_cases hc : (Md_in a2 0 2) = 0
    · rw [if_pos hc] at h
      cases h
      exact (FR.rf _ _)
    · rw [if_neg hc] at h
      by_cases hc : a3 ≤ 60
      · rw [if_pos hc] at h
        by_cases hc : 0 ≤ a3
        · rw [if_pos hc] at h
          by_cases hc : 0 ≤ a1 ∧ a1 < 4
          · rw [if_pos hc] at h
            by_cases hc : 0 ≤ a1 ∧ a1 < 4
            · rw [if_pos hc] at h
              refine FR.tr (FR.gs (FR.gs (FR.rf _ _) (by decide)) (by decide)) (fr_Md_sheet_l55 a1 a3 _ [93, 94, 95, 6892] (by decide) ?_ fu 0 (gset (gset g 93 a1.toNat a2) 94 a1.toNat a3) r g' h)
              · intro g1 r g' h
                cases h
                exact (FR.rf _ _)
            · rw [if_neg hc] at h; cases h
          · rw [if_neg hc] at h; cases h
        · rw [if_neg hc] at h
          obtain ⟨q2, hq, h⟩ := lett_inv h
          refine FR.tr (FR.rf _ _) (FR.tr (FR.cl (fr_Md_met 5 g q2.1 q2.2 hq.symm) (by decide)) ?_)
          cases h
          exact (FR.rf _ _)
      · rw [if_neg hc] at h
        cases h
        exact (FR.rf _ _)
set_option maxRecDepth 100000 in
theorem fr_Sh_drop (a1 : Int) (g : Gx) (r : Int) (g' : Gx) (h : Sh_drop a1 g = (r, g')) : FR [89, 91] g g' := by
  rw [Sh_drop] at h
  cases h
  exact (FR.rs (FR.rs (FR.rf _ _) (by decide)) (by decide))
set_option maxRecDepth 100000 in
theorem fr_Op_lose (a1 : Int) (g : Gx) (r : Int) (g' : Gx) (h : Op_lose a1 g = (r, g')) : FR [89, 91, 1012] g g' := by
  rw [Op_lose] at h
  by_cases hc : ¬ (Op_isSheet a1) = 0
  · rw [if_pos hc] at h
    by_cases hc : (Sh_isLost a1 g) = 0
    · rw [if_pos hc] at h
      obtain ⟨q1, hq, h⟩ := lett_inv h
      refine FR.tr (FR.rf _ _) (FR.tr (FR.cl (fr_Sh_drop a1 g q1.1 q1.2 hq.symm) (by decide)) ?_)
      cases h
      exact (FR.rf _ _)
    · rw [if_neg hc] at h
      obtain ⟨q2, hq, h⟩ := lett_inv h
      refine FR.tr (FR.rf _ _) (FR.tr (FR.cl (fr_Op_found 1 g q2.1 q2.2 hq.symm) (by decide)) ?_)
      cases h
      exact (FR.rf _ _)
  · rw [if_neg hc] at h
    cases h
    exact (FR.rf _ _)
set_option maxRecDepth 100000 in
theorem fr_Md_lose (a1 : Int) (g : Gx) (r : Int) (g' : Gx) (h : Md_lose a1 g = some (r, g')) : FR [93, 6892] g g' := by
  rw [Md_lose] at h
  by_cases hc : ¬ (Md_isSheet a1) = 0
  · rw [if_pos hc] at h
    by_cases hc : 0 ≤ a1 ∧ a1 < 4
    · rw [if_pos hc] at h
      by_cases hc : 0 ≤ (g 93 a1.toNat)
      · rw [if_pos hc] at h
        by_cases hc : 0 ≤ a1 ∧ a1 < 4
        · rw [if_pos hc] at h
          by_cases hc : 0 ≤ a1 ∧ a1 < 4
          · rw [if_pos hc] at h
            cases h
            exact (FR.gs (FR.rf _ _) (by decide))
          · rw [if_neg hc] at h; cases h
        · rw [if_neg hc] at h; cases h
      · rw [if_neg hc] at h
        obtain ⟨q1, hq, h⟩ := lett_inv h
        refine FR.tr (FR.rf _ _) (FR.tr (FR.cl (fr_Md_met 1 g q1.1 q1.2 hq.symm) (by decide)) ?_)
        cases h
        exact (FR.rf _ _)
    · rw [if_neg hc] at h; cases h
  · rw [if_neg hc] at h
    cases h
    exact (FR.rf _ _)
set_option maxRecDepth 100000 in
theorem fr_Sh_change (a1 a2 a3 : Int) (g : Gx) (g' : Gx) (h : Sh_change a1 a2 a3 g = g') : FR [87] g g' := by
  rw [Sh_change] at h
  by_cases hc : ¬ (rat g 89 4 a1) = 0
  · rw [if_pos hc] at h
    by_cases hc : ¬ (rat g 89 4 a1) = 1
    · rw [if_pos hc] at h
      subst h
      exact (FR.rs (FR.rf _ _) (by decide))
    · rw [if_neg hc] at h
      subst h
      exact (FR.rs (FR.rf _ _) (by decide))
  · rw [if_neg hc] at h
    subst h
    exact (FR.rs (FR.rf _ _) (by decide))
set_option maxRecDepth 100000 in
theorem fr_Op_put (a1 a2 a3 a4 : Int) (g : Gx) (r : Int) (g' : Gx) (h : Op_put a1 a2 a3 a4 g = (r, g')) : FR [87, 1012] g g' := by
  rw [Op_put] at h
  by_cases hc : (Op_isSheet a1) = 0
  · rw [if_pos hc] at h
    cases h
    exact (FR.rf _ _)
  · rw [if_neg hc] at h
    by_cases hc : ¬ (Op_isForm a2) = 0
    · rw [if_pos hc] at h
      by_cases hc : (Sh_wrongAbout a1 a2 a3 g) = 0
      · rw [if_pos hc] at h
        obtain ⟨g1, hq, h⟩ := lett_inv h
        refine FR.tr (FR.rf _ _) (FR.tr (FR.cl (fr_Sh_change a1 a3 a4 g g1 hq.symm) (by decide)) ?_)
        cases h
        exact (FR.rf _ _)
      · rw [if_neg hc] at h
        obtain ⟨q2, hq, h⟩ := lett_inv h
        refine FR.tr (FR.rf _ _) (FR.tr (FR.cl (fr_Op_found (Sh_wrongAbout a1 a2 a3 g) g q2.1 q2.2 hq.symm) (by decide)) ?_)
        cases h
        exact (FR.rf _ _)
    · rw [if_neg hc] at h
      cases h
      exact (FR.rf _ _)
set_option maxRecDepth 100000 in
theorem fr_Md_lacks (a1 a2 a3 : Int) (g : Gx) (r : Int) (g' : Gx) (h : Md_lacks a1 a2 a3 g = some (r, g')) : FR [6892] g g' := by
  rw [Md_lacks] at h
  by_cases hc : 0 ≤ a1 ∧ a1 < 4
  · rw [if_pos hc] at h
    by_cases hc : 0 ≤ (g 93 a1.toNat)
    · rw [if_pos hc] at h
      by_cases hc : 0 ≤ a1 ∧ a1 < 4
      · rw [if_pos hc] at h
        by_cases hc : (g 93 a1.toNat) = a2
        · rw [if_pos hc] at h
          by_cases hc : 0 ≤ a1 ∧ a1 < 4
          · rw [if_pos hc] at h
            by_cases hc : (Md_in a3 0 (wr ((g 94 a1.toNat) - 1))) = 0
            · rw [if_pos hc] at h
              obtain ⟨q1, hq, h⟩ := lett_inv h
              refine FR.tr (FR.rf _ _) (FR.tr (FR.cl (fr_Md_met 2 g q1.1 q1.2 hq.symm) (by decide)) ?_)
              cases h
              exact (FR.rf _ _)
            · rw [if_neg hc] at h
              cases h
              exact (FR.rf _ _)
          · rw [if_neg hc] at h; cases h
        · rw [if_neg hc] at h
          obtain ⟨q2, hq, h⟩ := lett_inv h
          refine FR.tr (FR.rf _ _) (FR.tr (FR.cl (fr_Md_met 3 g q2.1 q2.2 hq.symm) (by decide)) ?_)
          cases h
          exact (FR.rf _ _)
      · rw [if_neg hc] at h; cases h
    · rw [if_neg hc] at h
      obtain ⟨q3, hq, h⟩ := lett_inv h
      refine FR.tr (FR.rf _ _) (FR.tr (FR.cl (fr_Md_met 1 g q3.1 q3.2 hq.symm) (by decide)) ?_)
      cases h
      exact (FR.rf _ _)
  · rw [if_neg hc] at h; cases h
set_option maxRecDepth 100000 in
theorem fr_Md_put (a1 a2 a3 a4 : Int) (g : Gx) (r : Int) (g' : Gx) (h : Md_put a1 a2 a3 a4 g = some (r, g')) : FR [95, 6892] g g' := by
  rw [Md_put] at h
  by_cases hc : (Md_isSheet a1) = 0
  · rw [if_pos hc] at h
    cases h
    exact (FR.rf _ _)
  · rw [if_neg hc] at h
    by_cases hc : ¬ (Md_in a2 0 2) = 0
    · rw [if_pos hc] at h
      obtain ⟨q1, hq, h⟩ := Option.bind_eq_some_iff.mp h
      refine FR.tr (FR.rf _ _) (FR.tr (FR.cl (fr_Md_lacks a1 a2 a3 g q1.1 q1.2 hq) (by decide)) ?_)
      by_cases hc : q1.1 = 0
      · rw [if_pos hc] at h
        by_cases hc : 0 ≤ (wr ((wr (60 * a1)) + a3)) ∧ (wr ((wr (60 * a1)) + a3)) < 240
        · rw [if_pos hc] at h
          cases h
          exact (FR.gs (FR.rf _ _) (by decide))
        · rw [if_neg hc] at h; cases h
      · rw [if_neg hc] at h
        cases h
        exact (FR.rf _ _)
    · rw [if_neg hc] at h
      cases h
      exact (FR.rf _ _)
set_option maxRecDepth 100000 in
theorem fr_Op_get (a1 a2 a3 : Int) (g : Gx) (r : Int) (g' : Gx) (h : Op_get a1 a2 a3 g = (r, g')) : FR [1012] g g' := by
  rw [Op_get] at h
  by_cases hc : (Op_isSheet a1) = 0
  · rw [if_pos hc] at h
    cases h
    exact (FR.rf _ _)
  · rw [if_neg hc] at h
    by_cases hc : ¬ (Op_isForm a2) = 0
    · rw [if_pos hc] at h
      by_cases hc : (Sh_wrongAbout a1 a2 a3 g) = 0
      · rw [if_pos hc] at h
        cases h
        exact (FR.rf _ _)
      · rw [if_neg hc] at h
        cases h
        exact (FR.go (FR.rf _ _) ⟨rfl, by decide⟩)
    · rw [if_neg hc] at h
      cases h
      exact (FR.rf _ _)
set_option maxRecDepth 100000 in
theorem fr_Md_get (a1 a2 a3 : Int) (g : Gx) (r : Int) (g' : Gx) (h : Md_get a1 a2 a3 g = some (r, g')) : FR [6892] g g' := by
  rw [Md_get] at h
  by_cases hc : (Md_isSheet a1) = 0
  · rw [if_pos hc] at h
    cases h
    exact (FR.rf _ _)
  · rw [if_neg hc] at h
    by_cases hc : (Md_in a2 0 2) = 0
    · rw [if_pos hc] at h
      cases h
      exact (FR.rf _ _)
    · rw [if_neg hc] at h
      obtain ⟨q1, hq, h⟩ := Option.bind_eq_some_iff.mp h
      refine FR.tr (FR.rf _ _) (FR.tr (FR.cl (fr_Md_lacks a1 a2 a3 g q1.1 q1.2 hq) (by decide)) ?_)
      by_cases hc : q1.1 = 0
      · rw [if_pos hc] at h
        by_cases hc : 0 ≤ (wr ((wr (60 * a1)) + a3)) ∧ (wr ((wr (60 * a1)) + a3)) < 240
        · rw [if_pos hc] at h
          cases h
          exact (FR.rf _ _)
        · rw [if_neg hc] at h; cases h
      · rw [if_neg hc] at h
        cases h
        exact (FR.rf _ _)
set_option maxRecDepth 100000 in
theorem fr_Sh_move_l3 (c1 : Int) (c2 : Int) (c3 : Int) (c4 : Int) (c5 : Int) (K3_62 : Gx → Option Gx) (W : List Nat) (hW : ∀ c ∈ ([87] : List Nat), c ∈ W) (hK3_62 : ∀ (g : Gx) (g' : Gx), K3_62 g = some g' → FR W g g') : ∀ (n3 : Nat) (v6 : Int) (g : Gx) (g' : Gx), Sh_move_l3 c1 c2 c3 c4 c5 K3_62 n3 v6 g = some g' → FR W g g' := by
  intro n3
  induction n3 with
  | zero => intro v6 g g' h; cases h
  | succ n3 ih3 =>
    intro v6 g g' h
    rw [Sh_move_l3] at h
    by_cases hc : c5 ≤ v6
    · rw [if_pos hc] at h
      exact FR.tr (FR.rf _ _) (hK3_62 g g' h)
    · rw [if_neg hc] at h
      obtain ⟨y1, hy1, h⟩ := lett_inv h
      exact FR.tr (FR.rs (FR.rf _ _) (hW _ (by decide))) (ih3 (wr (v6 + 1)) (rset g 87 240 (wr ((wr ((wr (c3 * 60)) + c4)) + y1)) (Sh_item c1 (wr (c2 + y1)) g)) g' h)
set_option maxRecDepth 100000 in
theorem fr_Sh_move (a1 a2 a3 a4 a5 : Int) (g : Gx) (g' : Gx) (h : Sh_move a1 a2 a3 a4 a5 g = some g') : FR [87] g g' := by
  rw [Sh_move] at h
  refine FR.tr (FR.rf _ _) (fr_Sh_move_l3 a1 a2 a3 a4 a5 _ [87] (by decide) ?_ fu 0 g g' h)
  · intro g2 g' h
    cases h
    exact (FR.rf _ _)
set_option maxRecDepth 100000 in
theorem fr_Op_copy (a1 a2 a3 a4 a5 : Int) (g : Gx) (r : Int) (g' : Gx) (h : Op_copy a1 a2 a3 a4 a5 g = some (r, g')) : FR [87, 1012] g g' := by
  rw [Op_copy] at h
  by_cases hc : (Op_isSheet a1) = 0
  · rw [if_pos hc] at h
    cases h
    exact (FR.rf _ _)
  · rw [if_neg hc] at h
    by_cases hc : ¬ (Op_isSheet a3) = 0
    · rw [if_pos hc] at h
      by_cases hc : ¬ (Sh_isLost a1 g) = 0
      · rw [if_pos hc] at h
        obtain ⟨q1, hq, h⟩ := lett_inv h
        refine FR.tr (FR.rf _ _) (FR.tr (FR.cl (fr_Op_found 1 g q1.1 q1.2 hq.symm) (by decide)) ?_)
        cases h
        exact (FR.rf _ _)
      · rw [if_neg hc] at h
        by_cases hc : (Sh_isLost a3 g) = 0
        · rw [if_pos hc] at h
          by_cases hc : (Sh_form a1 g) = (Sh_form a3 g)
          · rw [if_pos hc] at h
            by_cases hc : (Sh_hasItems a1 a2 a5 g) = 0
            · rw [if_pos hc] at h
              obtain ⟨q2, hq, h⟩ := lett_inv h
              refine FR.tr (FR.rf _ _) (FR.tr (FR.cl (fr_Op_found 2 g q2.1 q2.2 hq.symm) (by decide)) ?_)
              cases h
              exact (FR.rf _ _)
            · rw [if_neg hc] at h
              by_cases hc : ¬ (Sh_hasItems a3 a4 a5 g) = 0
              · rw [if_pos hc] at h
                obtain ⟨g3, hq, h⟩ := Option.bind_eq_some_iff.mp h
                refine FR.tr (FR.rf _ _) (FR.tr (FR.cl (fr_Sh_move a1 a2 a3 a4 a5 g g3 hq) (by decide)) ?_)
                cases h
                exact (FR.rf _ _)
              · rw [if_neg hc] at h
                obtain ⟨q4, hq, h⟩ := lett_inv h
                refine FR.tr (FR.rf _ _) (FR.tr (FR.cl (fr_Op_found 2 g q4.1 q4.2 hq.symm) (by decide)) ?_)
                cases h
                exact (FR.rf _ _)
          · rw [if_neg hc] at h
            obtain ⟨q5, hq, h⟩ := lett_inv h
            refine FR.tr (FR.rf _ _) (FR.tr (FR.cl (fr_Op_found 4 g q5.1 q5.2 hq.symm) (by decide)) ?_)
            cases h
            exact (FR.rf _ _)
        · rw [if_neg hc] at h
          obtain ⟨q6, hq, h⟩ := lett_inv h
          refine FR.tr (FR.rf _ _) (FR.tr (FR.cl (fr_Op_found 1 g q6.1 q6.2 hq.symm) (by decide)) ?_)
          cases h
          exact (FR.rf _ _)
    · rw [if_neg hc] at h
      cases h
      exact (FR.rf _ _)
set_option maxRecDepth 100000 in
theorem fr_Md_copy_l120 (c1 : Int) (c2 : Int) (c3 : Int) (c4 : Int) (c5 : Int) (K120_154 : Gx → Option (Int × Gx)) (W : List Nat) (hW : ∀ c ∈ ([96] : List Nat), c ∈ W) (hK120_154 : ∀ (g : Gx) (r : Int) (g' : Gx), K120_154 g = some (r, g') → FR W g g') : ∀ (n120 : Nat) (v6 : Int) (g : Gx) (r : Int) (g' : Gx), Md_copy_l120 c1 c2 c3 c4 c5 K120_154 n120 v6 g = some (r, g') → FR W g g' := by
  intro n120
  induction n120 with
  | zero => intro v6 g r g' h; cases h
  | succ n120 ih120 =>
    intro v6 g r g' h
    rw [Md_copy_l120] at h
    by_cases hc : c5 ≤ v6
    · rw [if_pos hc] at h
      exact FR.tr (FR.rf _ _) (hK120_154 g r g' h)
    · rw [if_neg hc] at h
      by_cases hc : 0 ≤ (wr ((wr ((wr (60 * c1)) + c2)) + v6)) ∧ (wr ((wr ((wr (60 * c1)) + c2)) + v6)) < 240
      · rw [if_pos hc] at h
        by_cases hc : 0 ≤ v6 ∧ v6 < 60
        · rw [if_pos hc] at h
          exact FR.tr (FR.gs (FR.rf _ _) (hW _ (by decide))) (ih120 (wr (v6 + 1)) (gset g 96 v6.toNat (g 95 (wr ((wr ((wr (60 * c1)) + c2)) + v6)).toNat)) r g' h)
        · rw [if_neg hc] at h; cases h
      · rw [if_neg hc] at h; cases h
set_option maxRecDepth 100000 in
theorem fr_Md_copy_l157 (c3 : Int) (c4 : Int) (c5 : Int) (K157_192 : Gx → Option (Int × Gx)) (W : List Nat) (hW : ∀ c ∈ ([95] : List Nat), c ∈ W) (hK157_192 : ∀ (g : Gx) (r : Int) (g' : Gx), K157_192 g = some (r, g') → FR W g g') : ∀ (n157 : Nat) (v6 : Int) (g : Gx) (r : Int) (g' : Gx), Md_copy_l157 c3 c4 c5 K157_192 n157 v6 g = some (r, g') → FR W g g' := by
  intro n157
  induction n157 with
  | zero => intro v6 g r g' h; cases h
  | succ n157 ih157 =>
    intro v6 g r g' h
    rw [Md_copy_l157] at h
    by_cases hc : c5 ≤ v6
    · rw [if_pos hc] at h
      exact FR.tr (FR.rf _ _) (hK157_192 g r g' h)
    · rw [if_neg hc] at h
      by_cases hc : 0 ≤ v6 ∧ v6 < 60
      · rw [if_pos hc] at h
        by_cases hc : 0 ≤ (wr ((wr ((wr (60 * c3)) + c4)) + v6)) ∧ (wr ((wr ((wr (60 * c3)) + c4)) + v6)) < 240
        · rw [if_pos hc] at h
          exact FR.tr (FR.gs (FR.rf _ _) (hW _ (by decide))) (ih157 (wr (v6 + 1)) (gset g 95 ((wr ((wr ((wr (60 * c3)) + c4)) + v6)).toNat) (g 96 v6.toNat)) r g' h)
        · rw [if_neg hc] at h; cases h
      · rw [if_neg hc] at h; cases h
set_option maxRecDepth 100000 in
theorem fr_Md_copy (a1 a2 a3 a4 a5 : Int) (g : Gx) (r : Int) (g' : Gx) (h : Md_copy a1 a2 a3 a4 a5 g = some (r, g')) : FR [95, 96, 6892] g g' := by
  rw [Md_copy] at h
  by_cases hc : (Md_isSheet a1) = 0
  · rw [if_pos hc] at h
    cases h
    exact (FR.rf _ _)
  · rw [if_neg hc] at h
    by_cases hc : ¬ (Md_isSheet a3) = 0
    · rw [if_pos hc] at h
      by_cases hc : 0 ≤ a1 ∧ a1 < 4
      · rw [if_pos hc] at h
        by_cases hc : (g 93 a1.toNat) < 0
        · rw [if_pos hc] at h
          obtain ⟨q1, hq, h⟩ := lett_inv h
          refine FR.tr (FR.rf _ _) (FR.tr (FR.cl (fr_Md_met 1 g q1.1 q1.2 hq.symm) (by decide)) ?_)
          cases h
          exact (FR.rf _ _)
        · rw [if_neg hc] at h
          by_cases hc : 0 ≤ a3 ∧ a3 < 4
          · rw [if_pos hc] at h
            by_cases hc : 0 ≤ (g 93 a3.toNat)
            · rw [if_pos hc] at h
              by_cases hc : 0 ≤ a1 ∧ a1 < 4
              · rw [if_pos hc] at h
                by_cases hc : 0 ≤ a3 ∧ a3 < 4
                · rw [if_pos hc] at h
                  by_cases hc : (g 93 a1.toNat) = (g 93 a3.toNat)
                  · rw [if_pos hc] at h
                    by_cases hc : a2 < 0
                    · rw [if_pos hc] at h
                      obtain ⟨q2, hq, h⟩ := lett_inv h
                      refine FR.tr (FR.rf _ _) (FR.tr (FR.cl (fr_Md_met 2 g q2.1 q2.2 hq.symm) (by decide)) ?_)
                      cases h
                      exact (FR.rf _ _)
                    · rw [if_neg hc] at h
                      by_cases hc : a4 < 0
                      · rw [if_pos hc] at h
                        obtain ⟨q3, hq, h⟩ := lett_inv h
                        refine FR.tr (FR.rf _ _) (FR.tr (FR.cl (fr_Md_met 2 g q3.1 q3.2 hq.symm) (by decide)) ?_)
                        cases h
                        exact (FR.rf _ _)
                      · rw [if_neg hc] at h
                        by_cases hc : a5 < 0
                        · rw [if_pos hc] at h
                          obtain ⟨q4, hq, h⟩ := lett_inv h
                          refine FR.tr (FR.rf _ _) (FR.tr (FR.cl (fr_Md_met 2 g q4.1 q4.2 hq.symm) (by decide)) ?_)
                          cases h
                          exact (FR.rf _ _)
                        · rw [if_neg hc] at h
                          by_cases hc : 0 ≤ a1 ∧ a1 < 4
                          · rw [if_pos hc] at h
                            by_cases hc : 0 < (mcmp (wl (a2 + a5)) (g 94 a1.toNat))
                            · rw [if_pos hc] at h
                              obtain ⟨q5, hq, h⟩ := lett_inv h
                              refine FR.tr (FR.rf _ _) (FR.tr (FR.cl (fr_Md_met 2 g q5.1 q5.2 hq.symm) (by decide)) ?_)
                              cases h
                              exact (FR.rf _ _)
                            · rw [if_neg hc] at h
                              by_cases hc : 0 ≤ a3 ∧ a3 < 4
                              · rw [if_pos hc] at h
                                by_cases hc : (mcmp (wl (a4 + a5)) (g 94 a3.toNat)) ≤ 0
                                · rw [if_pos hc] at h
                                  refine FR.tr (FR.rf _ _) (fr_Md_copy_l120 a1 a2 a3 a4 a5 _ [95, 96, 6892] (by decide) ?_ fu 0 g r g' h)
                                  · intro g6 r g' h
                                    refine FR.tr (FR.rf _ _) (fr_Md_copy_l157 a3 a4 a5 _ [95, 96, 6892] (by decide) ?_ fu 0 g6 r g' h)
                                    · intro g7 r g' h
                                      cases h
                                      exact (FR.rf _ _)
                                · rw [if_neg hc] at h
                                  obtain ⟨q8, hq, h⟩ := lett_inv h
                                  refine FR.tr (FR.rf _ _) (FR.tr (FR.cl (fr_Md_met 2 g q8.1 q8.2 hq.symm) (by decide)) ?_)
                                  cases h
                                  exact (FR.rf _ _)
                              · rw [if_neg hc] at h; cases h
                          · rw [if_neg hc] at h; cases h
                  · rw [if_neg hc] at h
                    obtain ⟨q9, hq, h⟩ := lett_inv h
                    refine FR.tr (FR.rf _ _) (FR.tr (FR.cl (fr_Md_met 4 g q9.1 q9.2 hq.symm) (by decide)) ?_)
                    cases h
                    exact (FR.rf _ _)
                · rw [if_neg hc] at h; cases h
              · rw [if_neg hc] at h; cases h
            · rw [if_neg hc] at h
              obtain ⟨q10, hq, h⟩ := lett_inv h
              refine FR.tr (FR.rf _ _) (FR.tr (FR.cl (fr_Md_met 1 g q10.1 q10.2 hq.symm) (by decide)) ?_)
              cases h
              exact (FR.rf _ _)
          · rw [if_neg hc] at h; cases h
      · rw [if_neg hc] at h; cases h
    · rw [if_neg hc] at h
      cases h
      exact (FR.rf _ _)
set_option maxRecDepth 100000 in
theorem fr_Op_write_l70 (c1 : Int) (c2 : Int) (c4 : Int) (K70_103 : Gx → Option (Int × Gx)) (W : List Nat) (hW : ∀ c ∈ ([87] : List Nat), c ∈ W) (hK70_103 : ∀ (g : Gx) (r : Int) (g' : Gx), K70_103 g = some (r, g') → FR W g g') : ∀ (n70 : Nat) (v5 : Int) (g : Gx) (r : Int) (g' : Gx), Op_write_l70 c1 c2 c4 K70_103 n70 v5 g = some (r, g') → FR W g g' := by
  intro n70
  induction n70 with
  | zero => intro v5 g r g' h; cases h
  | succ n70 ih70 =>
    intro v5 g r g' h
    rw [Op_write_l70] at h
    by_cases hc : c4 ≤ v5
    · rw [if_pos hc] at h
      exact FR.tr (FR.rf _ _) (hK70_103 g r g' h)
    · rw [if_neg hc] at h
      obtain ⟨g2, hq, h⟩ := lett_inv h
      refine FR.tr (FR.rf _ _) (FR.tr (FR.cl (fr_Sh_change c1 v5 (Hi_word c2 v5 g) g g2 hq.symm) (sub_tr (by decide) hW)) ?_)
      exact FR.tr (FR.rf _ _) (ih70 (wr (v5 + 1)) g2 r g' h)
set_option maxRecDepth 100000 in
theorem fr_Op_write (a1 a2 : Int) (g : Gx) (r : Int) (g' : Gx) (h : Op_write a1 a2 g = some (r, g')) : FR [9, 11, 13, 15, 17, 19, 21, 23, 25, 27, 30, 32, 35, 37, 39, 41, 43, 45, 47, 49, 87, 1012, 1458, 1459, 1460, 2796, 2797, 2798, 2799, 2800, 2801, 3121, 3122, 3123, 3124, 3125, 3126, 3127, 3128] g g' := by
  rw [Op_write] at h
  by_cases hc : (Op_isSheet a1) = 0
  · rw [if_pos hc] at h
    cases h
    exact (FR.rf _ _)
  · rw [if_neg hc] at h
    by_cases hc : ¬ (Op_isHistory a2) = 0
    · rw [if_pos hc] at h
      by_cases hc : (Sh_isLost a1 g) = 0
      · rw [if_pos hc] at h
        obtain ⟨q1, hq, h⟩ := Option.bind_eq_some_iff.mp h
        refine FR.tr (FR.rf _ _) (FR.tr (FR.cl (fr_Op_hindrance a2 g q1.1 q1.2 hq) (by decide)) ?_)
        by_cases hc : q1.1 = 0
        · rw [if_pos hc] at h
          refine FR.tr (FR.rf _ _) (fr_Op_write_l70 a1 a2 (imin (Sh_size a1 q1.2) (Hi_length a2 q1.2)) _ [9, 11, 13, 15, 17, 19, 21, 23, 25, 27, 30, 32, 35, 37, 39, 41, 43, 45, 47, 49, 87, 1012, 1458, 1459, 1460, 2796, 2797, 2798, 2799, 2800, 2801, 3121, 3122, 3123, 3124, 3125, 3126, 3127, 3128] (by decide) ?_ fu 0 q1.2 r g' h)
          · intro g3 r g' h
            cases h
            exact (FR.rf _ _)
        · rw [if_neg hc] at h
          cases h
          exact (FR.rf _ _)
      · rw [if_neg hc] at h
        obtain ⟨q4, hq, h⟩ := lett_inv h
        refine FR.tr (FR.rf _ _) (FR.tr (FR.cl (fr_Op_found 1 g q4.1 q4.2 hq.symm) (by decide)) ?_)
        cases h
        exact (FR.rf _ _)
    · rw [if_neg hc] at h
      cases h
      exact (FR.rf _ _)
set_option maxRecDepth 100000 in
theorem fr_Md_write_l79 (c1 : Int) (c2 : Int) (c4 : Int) (K79_120 : Gx → Option (Int × Gx)) (W : List Nat) (hW : ∀ c ∈ ([95] : List Nat), c ∈ W) (hK79_120 : ∀ (g : Gx) (r : Int) (g' : Gx), K79_120 g = some (r, g') → FR W g g') : ∀ (n79 : Nat) (v5 : Int) (g : Gx) (r : Int) (g' : Gx), Md_write_l79 c1 c2 c4 K79_120 n79 v5 g = some (r, g') → FR W g g' := by
  intro n79
  induction n79 with
  | zero => intro v5 g r g' h; cases h
  | succ n79 ih79 =>
    intro v5 g r g' h
    rw [Md_write_l79] at h
    by_cases hc : c4 ≤ v5
    · rw [if_pos hc] at h
      exact FR.tr (FR.rf _ _) (hK79_120 g r g' h)
    · rw [if_neg hc] at h
      by_cases hc : 0 ≤ c1 ∧ c1 < 4
      · rw [if_pos hc] at h
        obtain ⟨q2, hq, h⟩ := Option.bind_eq_some_iff.mp h
        refine FR.tr (FR.rf _ _) (FR.tr (FR.cl (fr_Md_code c2 v5 g q2.1 q2.2 hq) (sub_tr (by decide) hW)) ?_)
        by_cases hc : 0 ≤ (wr ((wr (60 * c1)) + v5)) ∧ (wr ((wr (60 * c1)) + v5)) < 240
        · rw [if_pos hc] at h
          exact FR.tr (FR.gs (FR.rf _ _) (hW _ (by decide))) (ih79 (wr (v5 + 1)) (gset q2.2 95 ((wr ((wr (60 * c1)) + v5)).toNat) (Md_cut (g 93 c1.toNat) q2.1)) r g' h)
        · rw [if_neg hc] at h; cases h
      · rw [if_neg hc] at h; cases h
set_option maxRecDepth 100000 in
theorem fr_Md_write (a1 a2 : Int) (g : Gx) (r : Int) (g' : Gx) (h : Md_write a1 a2 g = some (r, g')) : FR [95, 99, 100, 101, 102, 103, 104, 105, 110, 111, 112, 113, 114, 115, 116, 117, 6892, 6896, 6897, 6904, 6905, 6906, 6908, 6914, 6923, 6924] g g' := by
  rw [Md_write] at h
  by_cases hc : (Md_isSheet a1) = 0
  · rw [if_pos hc] at h
    cases h
    exact (FR.rf _ _)
  · rw [if_neg hc] at h
    by_cases hc : ¬ (Md_isHistory a2) = 0
    · rw [if_pos hc] at h
      by_cases hc : 0 ≤ a1 ∧ a1 < 4
      · rw [if_pos hc] at h
        by_cases hc : 0 ≤ (g 93 a1.toNat)
        · rw [if_pos hc] at h
          obtain ⟨q1, hq, h⟩ := Option.bind_eq_some_iff.mp h
          refine FR.tr (FR.rf _ _) (FR.tr (FR.cl (fr_Md_lacksOne a2 g q1.1 q1.2 hq) (by decide)) ?_)
          by_cases hc : q1.1 = 0
          · rw [if_pos hc] at h
            by_cases hc : 0 ≤ a2 ∧ a2 < 30
            · rw [if_pos hc] at h
              by_cases hc : 0 ≤ a1 ∧ a1 < 4
              · rw [if_pos hc] at h
                by_cases hc : (q1.2 94 a1.toNat) ≤ (q1.2 110 a2.toNat)
                · rw [if_pos hc] at h
                  by_cases hc : 0 ≤ a1 ∧ a1 < 4
                  · rw [if_pos hc] at h
                    refine FR.tr (FR.rf _ _) (fr_Md_write_l79 a1 a2 (q1.2 94 a1.toNat) _ [95, 99, 100, 101, 102, 103, 104, 105, 110, 111, 112, 113, 114, 115, 116, 117, 6892, 6896, 6897, 6904, 6905, 6906, 6908, 6914, 6923, 6924] (by decide) ?_ fu 0 q1.2 r g' h)
                    · intro g3 r g' h
                      cases h
                      exact (FR.rf _ _)
                  · rw [if_neg hc] at h; cases h
                · rw [if_neg hc] at h
                  by_cases hc : 0 ≤ a2 ∧ a2 < 30
                  · rw [if_pos hc] at h
                    refine FR.tr (FR.rf _ _) (fr_Md_write_l79 a1 a2 (q1.2 110 a2.toNat) _ [95, 99, 100, 101, 102, 103, 104, 105, 110, 111, 112, 113, 114, 115, 116, 117, 6892, 6896, 6897, 6904, 6905, 6906, 6908, 6914, 6923, 6924] (by decide) ?_ fu 0 q1.2 r g' h)
                    · intro g4 r g' h
                      cases h
                      exact (FR.rf _ _)
                  · rw [if_neg hc] at h; cases h
              · rw [if_neg hc] at h; cases h
            · rw [if_neg hc] at h; cases h
          · rw [if_neg hc] at h
            cases h
            exact (FR.rf _ _)
        · rw [if_neg hc] at h
          obtain ⟨q5, hq, h⟩ := lett_inv h
          refine FR.tr (FR.rf _ _) (FR.tr (FR.cl (fr_Md_met 1 g q5.1 q5.2 hq.symm) (by decide)) ?_)
          cases h
          exact (FR.rf _ _)
      · rw [if_neg hc] at h; cases h
    · rw [if_neg hc] at h
      cases h
      exact (FR.rf _ _)
set_option maxRecDepth 100000 in
theorem fr_Op_count (a1 : Int) (g : Gx) (r : Int) (g' : Gx) (h : Op_count a1 g = some (r, g')) : FR [9, 11, 13, 15, 17, 19, 21, 23, 25, 27, 30, 32, 35, 37, 39, 41, 43, 45, 47, 49, 52, 54, 57, 1458, 1459, 1460, 2796, 2797, 2798, 2799, 2800, 2801, 3121, 3122, 3123, 3124, 3125, 3126, 3127, 3128, 4525] g g' := by
  rw [Op_count] at h
  by_cases hc : a1 = 4
  · rw [if_pos hc] at h
    obtain ⟨q1, hq, h⟩ := Option.bind_eq_some_iff.mp h
    refine FR.tr (FR.rf _ _) (FR.tr (FR.cl (fr_Op_hindrance 0 g q1.1 q1.2 hq) (by decide)) ?_)
    by_cases hc : q1.1 = 0
    · rw [if_pos hc] at h
      by_cases hc : ¬ a1 = 4
      · rw [if_pos hc] at h
        obtain ⟨q2, hq, h⟩ := Option.bind_eq_some_iff.mp h
        refine FR.tr (FR.rf _ _) (FR.tr (FR.cl (fr_Kn_soundness q1.2 q2.1 q2.2 hq) (by decide)) ?_)
        cases h
        exact (FR.rf _ _)
      · rw [if_neg hc] at h
        cases h
        exact (FR.rf _ _)
    · rw [if_neg hc] at h
      cases h
      exact (FR.rf _ _)
  · rw [if_neg hc] at h
    by_cases hc : ¬ a1 = 5
    · rw [if_pos hc] at h
      by_cases hd : a1 < 0 ∨ 8 < a1
      · rw [if_pos hd] at h
        cases h
        exact (FR.rf _ _)
      rw [if_neg hd] at h
      by_cases hx0 : a1 = 0
      · rw [if_pos hx0] at h
        cases h
        exact (FR.rf _ _)
      rw [if_neg hx0] at h
      by_cases hx1 : a1 = 1
      · rw [if_pos hx1] at h
        cases h
        exact (FR.rf _ _)
      rw [if_neg hx1] at h
      by_cases hx2 : a1 = 2
      · rw [if_pos hx2] at h
        cases h
        exact (FR.rf _ _)
      rw [if_neg hx2] at h
      by_cases hx3 : a1 = 3
      · rw [if_pos hx3] at h
        cases h
        exact (FR.rf _ _)
      rw [if_neg hx3] at h
      by_cases hx4 : a1 = 4
      · rw [if_pos hx4] at h
        cases h
        exact (FR.rf _ _)
      rw [if_neg hx4] at h
      by_cases hx5 : a1 = 5
      · rw [if_pos hx5] at h
        cases h
        exact (FR.rf _ _)
      rw [if_neg hx5] at h
      by_cases hx6 : a1 = 6
      · rw [if_pos hx6] at h
        cases h
        exact (FR.rf _ _)
      rw [if_neg hx6] at h
      by_cases hx7 : a1 = 7
      · rw [if_pos hx7] at h
        cases h
        exact (FR.rf _ _)
      rw [if_neg hx7] at h
      cases h
      exact (FR.rf _ _)
    · rw [if_neg hc] at h
      obtain ⟨q3, hq, h⟩ := Option.bind_eq_some_iff.mp h
      refine FR.tr (FR.rf _ _) (FR.tr (FR.cl (fr_Op_hindrance 0 g q3.1 q3.2 hq) (by decide)) ?_)
      by_cases hc : q3.1 = 0
      · rw [if_pos hc] at h
        by_cases hc : ¬ a1 = 4
        · rw [if_pos hc] at h
          obtain ⟨q4, hq, h⟩ := Option.bind_eq_some_iff.mp h
          refine FR.tr (FR.rf _ _) (FR.tr (FR.cl (fr_Kn_soundness q3.2 q4.1 q4.2 hq) (by decide)) ?_)
          cases h
          exact (FR.rf _ _)
        · rw [if_neg hc] at h
          cases h
          exact (FR.rf _ _)
      · rw [if_neg hc] at h
        cases h
        exact (FR.rf _ _)
set_option maxRecDepth 100000 in
theorem fr_Md_count (a1 : Int) (g : Gx) (r : Int) (g' : Gx) (h : Md_count a1 g = some (r, g')) : FR [99, 100, 101, 102, 103, 104, 105, 110, 111, 112, 113, 114, 115, 116, 117, 118, 119, 120, 6896, 6897, 6904, 6905, 6906, 6908, 6914, 6923, 6924] g g' := by
  rw [Md_count] at h
  by_cases hd : a1 < 0 ∨ 8 < a1
  · rw [if_pos hd] at h
    cases h
    exact (FR.rf _ _)
  rw [if_neg hd] at h
  by_cases hx0 : a1 = 0
  · rw [if_pos hx0] at h
    by_cases hc : 0 ≤ a1 ∧ a1 < 2
    · rw [if_pos hc] at h
      cases h
      exact (FR.rf _ _)
    · rw [if_neg hc] at h; cases h
  rw [if_neg hx0] at h
  by_cases hx1 : a1 = 1
  · rw [if_pos hx1] at h
    by_cases hc : 0 ≤ a1 ∧ a1 < 2
    · rw [if_pos hc] at h
      cases h
      exact (FR.rf _ _)
    · rw [if_neg hc] at h; cases h
  rw [if_neg hx1] at h
  by_cases hx2 : a1 = 2
  · rw [if_pos hx2] at h
    cases h
    exact (FR.rf _ _)
  rw [if_neg hx2] at h
  by_cases hx3 : a1 = 3
  · rw [if_pos hx3] at h
    cases h
    exact (FR.rf _ _)
  rw [if_neg hx3] at h
  by_cases hx4 : a1 = 4
  · rw [if_pos hx4] at h
    obtain ⟨q1, hq, h⟩ := Option.bind_eq_some_iff.mp h
    refine FR.tr (FR.rf _ _) (FR.tr (FR.cl (fr_Md_histories g q1.1 q1.2 hq) (by decide)) ?_)
    cases h
    exact (FR.rf _ _)
  rw [if_neg hx4] at h
  by_cases hx5 : a1 = 5
  · rw [if_pos hx5] at h
    obtain ⟨q2, hq, h⟩ := Option.bind_eq_some_iff.mp h
    refine FR.tr (FR.rf _ _) (FR.tr (FR.cl (fr_Md_sound g q2.1 q2.2 hq) (by decide)) ?_)
    cases h
    exact (FR.rf _ _)
  rw [if_neg hx5] at h
  by_cases hx6 : a1 = 6
  · rw [if_pos hx6] at h
    cases h
    exact (FR.rf _ _)
  rw [if_neg hx6] at h
  by_cases hx7 : a1 = 7
  · rw [if_pos hx7] at h
    cases h
    exact (FR.rf _ _)
  rw [if_neg hx7] at h
  cases h
  exact (FR.rf _ _)
set_option maxRecDepth 100000 in
theorem fr_Op_withHistory_l20 (c3 : Int) (K20_59 : Int → Gx → Option (Int × Gx)) (W : List Nat) (hW : ∀ c ∈ ([] : List Nat), c ∈ W) (hK20_59 : ∀ (x4 : Int) (g : Gx) (r : Int) (g' : Gx), K20_59 x4 g = some (r, g') → FR W g g') : ∀ (n20 : Nat) (v4 v6 : Int) (g : Gx) (r : Int) (g' : Gx), Op_withHistory_l20 c3 K20_59 n20 v4 v6 g = some (r, g') → FR W g g' := by
  intro n20
  induction n20 with
  | zero => intro v4 v6 g r g' h; cases h
  | succ n20 ih20 =>
    intro v4 v6 g r g' h
    rw [Op_withHistory_l20] at h
    by_cases hc : (Hi_length c3 g) ≤ v6
    · rw [if_pos hc] at h
      exact FR.tr (FR.rf _ _) (hK20_59 v4 g r g' h)
    · rw [if_neg hc] at h
      exact FR.tr (FR.rf _ _) (ih20 (wl ((wl (31 * v4)) + (Hi_word c3 v6 g))) (wr (v6 + 1)) g r g' h)
set_option maxRecDepth 100000 in
theorem fr_Op_withHistory (a1 a3 : Int) (g : Gx) (r : Int) (g' : Gx) (h : Op_withHistory a1 a3 g = some (r, g')) : FR [68] g g' := by
  rw [Op_withHistory] at h
  refine FR.tr (FR.rf _ _) (fr_Op_withHistory_l20 a3 _ [68] (by decide) ?_ fu (wl ((wl (31 * a1)) + (Hi_length a3 g))) 0 g r g' h)
  · intro x1 g2 r g' h
    obtain ⟨q3, hq, h⟩ := Option.bind_eq_some_iff.mp h
    refine FR.tr (FR.rf _ _) (FR.tr (FR.cl (fr_Rn_chain a3 g2 q3.1 q3.2 hq) (by decide)) ?_)
    cases h
    exact (FR.rf _ _)
set_option maxRecDepth 100000 in
theorem fr_Op_digest_l196 (c1 : Int) (c2 : Int) (K196_233 : Int → Gx → Option (Int × Gx)) (W : List Nat) (hW : ∀ c ∈ ([52, 54, 57, 4525] : List Nat), c ∈ W) (hK196_233 : ∀ (x3 : Int) (g : Gx) (r : Int) (g' : Gx), K196_233 x3 g = some (r, g') → FR W g g') : ∀ (n196 : Nat) (v3 v5 : Int) (g : Gx) (r : Int) (g' : Gx), Op_digest_l196 c1 c2 K196_233 n196 v3 v5 g = some (r, g') → FR W g g' := by
  intro n196
  induction n196 with
  | zero => intro v3 v5 g r g' h; cases h
  | succ n196 ih196 =>
    intro v3 v5 g r g' h
    rw [Op_digest_l196] at h
    by_cases hc : 4 ≤ v5
    · rw [if_pos hc] at h
      exact FR.tr (FR.rf _ _) (hK196_233 v3 g r g' h)
    · rw [if_neg hc] at h
      by_cases hc : c2 = 0
      · rw [if_pos hc] at h
        exact FR.tr (FR.rf _ _) (ih196 (wl ((wl (31 * v3)) + c1)) (wr (v5 + 1)) g r g' h)
      · rw [if_neg hc] at h
        obtain ⟨q6, hq, h⟩ := Option.bind_eq_some_iff.mp h
        refine FR.tr (FR.rf _ _) (FR.tr (FR.cl (fr_Kn_momentPart v5 g q6.1 q6.2 hq) (sub_tr (by decide) hW)) ?_)
        exact FR.tr (FR.rf _ _) (ih196 (wl ((wl (31 * v3)) + q6.1)) (wr (v5 + 1)) q6.2 r g' h)
set_option maxRecDepth 100000 in
theorem fr_Op_digest_l160 (c1 : Int) (c2 : Int) (K160_186 : Int → Gx → Option (Int × Gx)) (W : List Nat) (hW : ∀ c ∈ ([68] : List Nat), c ∈ W) (hK160_186 : ∀ (x3 : Int) (g : Gx) (r : Int) (g' : Gx), K160_186 x3 g = some (r, g') → FR W g g') : ∀ (n160 : Nat) (v3 v5 : Int) (g : Gx) (r : Int) (g' : Gx), Op_digest_l160 c1 c2 K160_186 n160 v3 v5 g = some (r, g') → FR W g g' := by
  intro n160
  induction n160 with
  | zero => intro v3 v5 g r g' h; cases h
  | succ n160 ih160 =>
    intro v3 v5 g r g' h
    rw [Op_digest_l160] at h
    by_cases hc : (Hi_size g) ≤ v5
    · rw [if_pos hc] at h
      exact FR.tr (FR.rf _ _) (hK160_186 v3 g r g' h)
    · rw [if_neg hc] at h
      obtain ⟨q10, hq, h⟩ := Option.bind_eq_some_iff.mp h
      refine FR.tr (FR.rf _ _) (FR.tr (FR.cl (fr_Op_withHistory v3 v5 g q10.1 q10.2 hq) (sub_tr (by decide) hW)) ?_)
      exact FR.tr (FR.rf _ _) (ih160 q10.1 (wr (v5 + 1)) q10.2 r g' h)
set_option maxRecDepth 100000 in
theorem fr_Op_digest (g : Gx) (r : Int) (g' : Gx) (h : Op_digest g = some (r, g')) : FR [9, 11, 13, 15, 17, 19, 21, 23, 25, 27, 30, 32, 35, 37, 39, 41, 43, 45, 47, 49, 52, 54, 57, 68, 71, 73, 75, 77, 82, 84, 1458, 1459, 1460, 2796, 2797, 2798, 2799, 2800, 2801, 3121, 3122, 3123, 3124, 3125, 3126, 3127, 3128, 4525, 5423, 5424, 5425] g g' := by
  rw [Op_digest] at h
  obtain ⟨q1, hq, h⟩ := Option.bind_eq_some_iff.mp h
  refine FR.tr (FR.rf _ _) (FR.tr (FR.cl (fr_Op_hindrance 0 g q1.1 q1.2 hq) (by decide)) ?_)
  obtain ⟨y2, hy2, h⟩ := lett_inv h
  obtain ⟨y3, hy3, h⟩ := lett_inv h
  by_cases hc : y2 = 0
  · rw [if_pos hc] at h
    obtain ⟨q4, hq, h⟩ := Option.bind_eq_some_iff.mp h
    refine FR.tr (FR.rf _ _) (FR.tr (FR.cl (fr_Pr_firstFault q1.2 q4.1 q4.2 hq) (by decide)) ?_)
    obtain ⟨q5, hq, h⟩ := Option.bind_eq_some_iff.mp h
    refine FR.tr (FR.rf _ _) (FR.tr (FR.cl (fr_Pg_firstFault q4.2 q5.1 q5.2 hq) (by decide)) ?_)
    by_cases hc : y2 = 0
    · rw [if_pos hc] at h
      refine FR.tr (FR.rf _ _) (fr_Op_digest_l196 q1.1 y2 _ [9, 11, 13, 15, 17, 19, 21, 23, 25, 27, 30, 32, 35, 37, 39, 41, 43, 45, 47, 49, 52, 54, 57, 68, 71, 73, 75, 77, 82, 84, 1458, 1459, 1460, 2796, 2797, 2798, 2799, 2800, 2801, 3121, 3122, 3123, 3124, 3125, 3126, 3127, 3128, 4525, 5423, 5424, 5425] (by decide) ?_ fu (wl ((wl (31 * (wl ((wl (31 * (wl ((wl (31 * (wl ((wl (31 * (wl ((wl (31 * (wl ((wl (31 * (wl ((wl (31 * (wl ((wl (31 * 17)) + (Tx_length1 q1.2))))) + (Tx_length4 q1.2))))) + (q1.2 0 11))))) + (Bd_size q1.2))))) + y3)))) + q1.1)))) + q4.1)))) + q5.1)) 0 q5.2 r g' h)
      · intro x7 g8 r g' h
        by_cases hc : y2 = 0
        · rw [if_pos hc] at h
          cases h
          exact (FR.rf _ _)
        · rw [if_neg hc] at h
          obtain ⟨q9, hq, h⟩ := Option.bind_eq_some_iff.mp h
          refine FR.tr (FR.rf _ _) (FR.tr (FR.cl (fr_Bd_firstOut g8 q9.1 q9.2 hq) (by decide)) ?_)
          cases h
          exact (FR.rf _ _)
    · rw [if_neg hc] at h
      refine FR.tr (FR.rf _ _) (fr_Op_digest_l160 q1.1 y2 _ [9, 11, 13, 15, 17, 19, 21, 23, 25, 27, 30, 32, 35, 37, 39, 41, 43, 45, 47, 49, 52, 54, 57, 68, 71, 73, 75, 77, 82, 84, 1458, 1459, 1460, 2796, 2797, 2798, 2799, 2800, 2801, 3121, 3122, 3123, 3124, 3125, 3126, 3127, 3128, 4525, 5423, 5424, 5425] (by decide) ?_ fu (wl ((wl (31 * (wl ((wl (31 * (wl ((wl (31 * (wl ((wl (31 * (wl ((wl (31 * (wl ((wl (31 * (wl ((wl (31 * (wl ((wl (31 * 17)) + (Tx_length1 q1.2))))) + (Tx_length4 q1.2))))) + (q1.2 0 11))))) + (Bd_size q1.2))))) + y3)))) + q1.1)))) + q4.1)))) + q5.1)) 0 q5.2 r g' h)
      · intro x11 g12 r g' h
        obtain ⟨g13, hq, h⟩ := Option.bind_eq_some_iff.mp h
        refine FR.tr (FR.rf _ _) (FR.tr (FR.cl (fr_Bd_compare g12 g13 hq) (by decide)) ?_)
        refine FR.tr (FR.rf _ _) (fr_Op_digest_l196 q1.1 y2 _ [9, 11, 13, 15, 17, 19, 21, 23, 25, 27, 30, 32, 35, 37, 39, 41, 43, 45, 47, 49, 52, 54, 57, 68, 71, 73, 75, 77, 82, 84, 1458, 1459, 1460, 2796, 2797, 2798, 2799, 2800, 2801, 3121, 3122, 3123, 3124, 3125, 3126, 3127, 3128, 4525, 5423, 5424, 5425] (by decide) ?_ fu x11 0 g13 r g' h)
        · intro x14 g15 r g' h
          by_cases hc : y2 = 0
          · rw [if_pos hc] at h
            cases h
            exact (FR.rf _ _)
          · rw [if_neg hc] at h
            obtain ⟨q16, hq, h⟩ := Option.bind_eq_some_iff.mp h
            refine FR.tr (FR.rf _ _) (FR.tr (FR.cl (fr_Bd_firstOut g15 q16.1 q16.2 hq) (by decide)) ?_)
            cases h
            exact (FR.rf _ _)
  · rw [if_neg hc] at h
    obtain ⟨q17, hq, h⟩ := Option.bind_eq_some_iff.mp h
    refine FR.tr (FR.rf _ _) (FR.tr (FR.cl (fr_Kn_soundness q1.2 q17.1 q17.2 hq) (by decide)) ?_)
    obtain ⟨q18, hq, h⟩ := Option.bind_eq_some_iff.mp h
    refine FR.tr (FR.rf _ _) (FR.tr (FR.cl (fr_Pr_firstFault q17.2 q18.1 q18.2 hq) (by decide)) ?_)
    obtain ⟨q19, hq, h⟩ := Option.bind_eq_some_iff.mp h
    refine FR.tr (FR.rf _ _) (FR.tr (FR.cl (fr_Pg_firstFault q18.2 q19.1 q19.2 hq) (by decide)) ?_)
    by_cases hc : y2 = 0
    · rw [if_pos hc] at h
      refine FR.tr (FR.rf _ _) (fr_Op_digest_l196 q1.1 y2 _ [9, 11, 13, 15, 17, 19, 21, 23, 25, 27, 30, 32, 35, 37, 39, 41, 43, 45, 47, 49, 52, 54, 57, 68, 71, 73, 75, 77, 82, 84, 1458, 1459, 1460, 2796, 2797, 2798, 2799, 2800, 2801, 3121, 3122, 3123, 3124, 3125, 3126, 3127, 3128, 4525, 5423, 5424, 5425] (by decide) ?_ fu (wl ((wl (31 * (wl ((wl (31 * (wl ((wl (31 * (wl ((wl (31 * (wl ((wl (31 * (wl ((wl (31 * (wl ((wl (31 * (wl ((wl (31 * 17)) + (Tx_length1 q1.2))))) + (Tx_length4 q1.2))))) + (q1.2 0 11))))) + (Bd_size q1.2))))) + y3)))) + q17.1)))) + q18.1)))) + q19.1)) 0 q19.2 r g' h)
      · intro x20 g21 r g' h
        by_cases hc : y2 = 0
        · rw [if_pos hc] at h
          cases h
          exact (FR.rf _ _)
        · rw [if_neg hc] at h
          obtain ⟨q22, hq, h⟩ := Option.bind_eq_some_iff.mp h
          refine FR.tr (FR.rf _ _) (FR.tr (FR.cl (fr_Bd_firstOut g21 q22.1 q22.2 hq) (by decide)) ?_)
          cases h
          exact (FR.rf _ _)
    · rw [if_neg hc] at h
      refine FR.tr (FR.rf _ _) (fr_Op_digest_l160 q1.1 y2 _ [9, 11, 13, 15, 17, 19, 21, 23, 25, 27, 30, 32, 35, 37, 39, 41, 43, 45, 47, 49, 52, 54, 57, 68, 71, 73, 75, 77, 82, 84, 1458, 1459, 1460, 2796, 2797, 2798, 2799, 2800, 2801, 3121, 3122, 3123, 3124, 3125, 3126, 3127, 3128, 4525, 5423, 5424, 5425] (by decide) ?_ fu (wl ((wl (31 * (wl ((wl (31 * (wl ((wl (31 * (wl ((wl (31 * (wl ((wl (31 * (wl ((wl (31 * (wl ((wl (31 * (wl ((wl (31 * 17)) + (Tx_length1 q1.2))))) + (Tx_length4 q1.2))))) + (q1.2 0 11))))) + (Bd_size q1.2))))) + y3)))) + q17.1)))) + q18.1)))) + q19.1)) 0 q19.2 r g' h)
      · intro x23 g24 r g' h
        obtain ⟨g25, hq, h⟩ := Option.bind_eq_some_iff.mp h
        refine FR.tr (FR.rf _ _) (FR.tr (FR.cl (fr_Bd_compare g24 g25 hq) (by decide)) ?_)
        refine FR.tr (FR.rf _ _) (fr_Op_digest_l196 q1.1 y2 _ [9, 11, 13, 15, 17, 19, 21, 23, 25, 27, 30, 32, 35, 37, 39, 41, 43, 45, 47, 49, 52, 54, 57, 68, 71, 73, 75, 77, 82, 84, 1458, 1459, 1460, 2796, 2797, 2798, 2799, 2800, 2801, 3121, 3122, 3123, 3124, 3125, 3126, 3127, 3128, 4525, 5423, 5424, 5425] (by decide) ?_ fu x23 0 g25 r g' h)
        · intro x26 g27 r g' h
          by_cases hc : y2 = 0
          · rw [if_pos hc] at h
            cases h
            exact (FR.rf _ _)
          · rw [if_neg hc] at h
            obtain ⟨q28, hq, h⟩ := Option.bind_eq_some_iff.mp h
            refine FR.tr (FR.rf _ _) (FR.tr (FR.cl (fr_Bd_firstOut g27 q28.1 q28.2 hq) (by decide)) ?_)
            cases h
            exact (FR.rf _ _)
set_option maxRecDepth 100000 in
theorem fr_Md_digest_l6 (K6_31 : Int → Gx → Option (Int × Gx)) (W : List Nat) (hW : ∀ c ∈ ([99, 100, 101, 102, 103, 104, 105, 110, 111, 112, 113, 114, 115, 116, 117, 118, 119, 120, 6896, 6897, 6904, 6905, 6906, 6908, 6914, 6923, 6924] : List Nat), c ∈ W) (hK6_31 : ∀ (x1 : Int) (g : Gx) (r : Int) (g' : Gx), K6_31 x1 g = some (r, g') → FR W g g') : ∀ (n6 : Nat) (v1 v3 : Int) (g : Gx) (r : Int) (g' : Gx), Md_digest_l6 K6_31 n6 v1 v3 g = some (r, g') → FR W g g' := by
  intro n6
  induction n6 with
  | zero => intro v1 v3 g r g' h; cases h
  | succ n6 ih6 =>
    intro v1 v3 g r g' h
    rw [Md_digest_l6] at h
    by_cases hc : 6 ≤ v3
    · rw [if_pos hc] at h
      exact FR.tr (FR.rf _ _) (hK6_31 v1 g r g' h)
    · rw [if_neg hc] at h
      obtain ⟨q1, hq, h⟩ := Option.bind_eq_some_iff.mp h
      refine FR.tr (FR.rf _ _) (FR.tr (FR.cl (fr_Md_count v3 g q1.1 q1.2 hq) (sub_tr (by decide) hW)) ?_)
      exact FR.tr (FR.rf _ _) (ih6 (wl ((wl (31 * v1)) + q1.1)) (wr (v3 + 1)) q1.2 r g' h)
set_option maxRecDepth 100000 in
theorem fr_Md_digest_l94 (c3 : Int) (c4 : Int) (K94_128 : Int → Gx → Option (Int × Gx)) (W : List Nat) (hW : ∀ c ∈ ([] : List Nat), c ∈ W) (hK94_128 : ∀ (x1 : Int) (g : Gx) (r : Int) (g' : Gx), K94_128 x1 g = some (r, g') → FR W g g') : ∀ (n94 : Nat) (v1 v5 : Int) (g : Gx) (r : Int) (g' : Gx), Md_digest_l94 c3 c4 K94_128 n94 v1 v5 g = some (r, g') → FR W g g' := by
  intro n94
  induction n94 with
  | zero => intro v1 v5 g r g' h; cases h
  | succ n94 ih94 =>
    intro v1 v5 g r g' h
    rw [Md_digest_l94] at h
    by_cases hc : 0 ≤ c4 ∧ c4 < 30
    · rw [if_pos hc] at h
      by_cases hc : (g 110 c4.toNat) ≤ v5
      · rw [if_pos hc] at h
        exact FR.tr (FR.rf _ _) (hK94_128 v1 g r g' h)
      · rw [if_neg hc] at h
        obtain ⟨q7, hq, h⟩ := Option.bind_eq_some_iff.mp h
        refine FR.tr (FR.rf _ _) (FR.tr (FR.cl (fr_Md_code c4 v5 g q7.1 q7.2 hq) (sub_tr (by decide) hW)) ?_)
        exact FR.tr (FR.rf _ _) (ih94 (wl ((wl (31 * v1)) + q7.1)) (wr (v5 + 1)) q7.2 r g' h)
    · rw [if_neg hc] at h; cases h
set_option maxRecDepth 100000 in
theorem fr_Md_digest_l63 (c3 : Int) (K63_148 : Int → Gx → Option (Int × Gx)) (W : List Nat) (hW : ∀ c ∈ ([126] : List Nat), c ∈ W) (hK63_148 : ∀ (x1 : Int) (g : Gx) (r : Int) (g' : Gx), K63_148 x1 g = some (r, g') → FR W g g') : ∀ (n63 : Nat) (v1 v4 : Int) (g : Gx) (r : Int) (g' : Gx), Md_digest_l63 c3 K63_148 n63 v1 v4 g = some (r, g') → FR W g g' := by
  intro n63
  induction n63 with
  | zero => intro v1 v4 g r g' h; cases h
  | succ n63 ih63 =>
    intro v1 v4 g r g' h
    rw [Md_digest_l63] at h
    by_cases hc : (g 92 26) ≤ v4
    · rw [if_pos hc] at h
      exact FR.tr (FR.rf _ _) (hK63_148 v1 g r g' h)
    · rw [if_neg hc] at h
      by_cases hc : ¬ c3 = 0
      · rw [if_pos hc] at h
        exact FR.tr (FR.rf _ _) (hK63_148 v1 g r g' h)
      · rw [if_neg hc] at h
        by_cases hc : 0 ≤ v4 ∧ v4 < 30
        · rw [if_pos hc] at h
          refine FR.tr (FR.rf _ _) (fr_Md_digest_l94 c3 v4 _ W (sub_tr (by decide) hW) ?_ fu (wl ((wl (31 * v1)) + (g 110 v4.toNat))) 0 g r g' h)
          · intro x8 g9 r g' h
            obtain ⟨q10, hq, h⟩ := Option.bind_eq_some_iff.mp h
            refine FR.tr (FR.rf _ _) (FR.tr (FR.cl (fr_Md_chainOf v4 g9 q10.1 q10.2 hq) (sub_tr (by decide) hW)) ?_)
            exact FR.tr (FR.rf _ _) (ih63 (wl ((wl (31 * x8)) + q10.1)) (wr (v4 + 1)) q10.2 r g' h)
        · rw [if_neg hc] at h; cases h
set_option maxRecDepth 100000 in
theorem fr_Md_digest_l151 (K151_177 : Int → Gx → Option (Int × Gx)) (W : List Nat) (hW : ∀ c ∈ ([99, 100, 101, 102, 103, 104, 105, 110, 111, 112, 113, 114, 115, 116, 117, 118, 119, 120, 6896, 6897, 6904, 6905, 6906, 6908, 6914, 6923, 6924] : List Nat), c ∈ W) (hK151_177 : ∀ (x1 : Int) (g : Gx) (r : Int) (g' : Gx), K151_177 x1 g = some (r, g') → FR W g g') : ∀ (n151 : Nat) (v1 v4 : Int) (g : Gx) (r : Int) (g' : Gx), Md_digest_l151 K151_177 n151 v1 v4 g = some (r, g') → FR W g g' := by
  intro n151
  induction n151 with
  | zero => intro v1 v4 g r g' h; cases h
  | succ n151 ih151 =>
    intro v1 v4 g r g' h
    rw [Md_digest_l151] at h
    by_cases hc : 4 ≤ v4
    · rw [if_pos hc] at h
      exact FR.tr (FR.rf _ _) (hK151_177 v1 g r g' h)
    · rw [if_neg hc] at h
      obtain ⟨q13, hq, h⟩ := Option.bind_eq_some_iff.mp h
      refine FR.tr (FR.rf _ _) (FR.tr (FR.cl (fr_Md_momentOf v4 g q13.1 q13.2 hq) (sub_tr (by decide) hW)) ?_)
      exact FR.tr (FR.rf _ _) (ih151 (wl ((wl (31 * v1)) + q13.1)) (wr (v4 + 1)) q13.2 r g' h)
set_option maxRecDepth 100000 in
theorem fr_Md_digest (g : Gx) (r : Int) (g' : Gx) (h : Md_digest g = some (r, g')) : FR [99, 100, 101, 102, 103, 104, 105, 106, 107, 108, 109, 110, 111, 112, 113, 114, 115, 116, 117, 118, 119, 120, 122, 126, 6896, 6897, 6904, 6905, 6906, 6908, 6909, 6914, 6923, 6924] g g' := by
  rw [Md_digest] at h
  refine FR.tr (FR.rf _ _) (fr_Md_digest_l6 _ [99, 100, 101, 102, 103, 104, 105, 106, 107, 108, 109, 110, 111, 112, 113, 114, 115, 116, 117, 118, 119, 120, 122, 126, 6896, 6897, 6904, 6905, 6906, 6908, 6909, 6914, 6923, 6924] (by decide) ?_ fu 17 0 g r g' h)
  · intro x2 g3 r g' h
    obtain ⟨q4, hq, h⟩ := Option.bind_eq_some_iff.mp h
    refine FR.tr (FR.rf _ _) (FR.tr (FR.cl (fr_Md_reads g3 q4.1 q4.2 hq) (by decide)) ?_)
    obtain ⟨q5, hq, h⟩ := Option.bind_eq_some_iff.mp h
    refine FR.tr (FR.rf _ _) (FR.tr (FR.cl (fr_Md_readsProgram q4.2 q5.1 q5.2 hq) (by decide)) ?_)
    obtain ⟨q6, hq, h⟩ := Option.bind_eq_some_iff.mp h
    refine FR.tr (FR.rf _ _) (FR.tr (FR.cl (fr_Md_without q5.2 q6.1 q6.2 hq) (by decide)) ?_)
    refine FR.tr (FR.rf _ _) (fr_Md_digest_l63 q6.1 _ [99, 100, 101, 102, 103, 104, 105, 106, 107, 108, 109, 110, 111, 112, 113, 114, 115, 116, 117, 118, 119, 120, 122, 126, 6896, 6897, 6904, 6905, 6906, 6908, 6909, 6914, 6923, 6924] (by decide) ?_ fu (wl ((wl (31 * (wl ((wl (31 * x2)) + q4.1)))) + q5.1)) 0 q6.2 r g' h)
    · intro x11 g12 r g' h
      refine FR.tr (FR.rf _ _) (fr_Md_digest_l151 _ [99, 100, 101, 102, 103, 104, 105, 106, 107, 108, 109, 110, 111, 112, 113, 114, 115, 116, 117, 118, 119, 120, 122, 126, 6896, 6897, 6904, 6905, 6906, 6908, 6909, 6914, 6923, 6924] (by decide) ?_ fu x11 0 g12 r g' h)
      · intro x14 g15 r g' h
        obtain ⟨q16, hq, h⟩ := Option.bind_eq_some_iff.mp h
        refine FR.tr (FR.rf _ _) (FR.tr (FR.cl (fr_Md_out 0 g15 q16.1 q16.2 hq) (by decide)) ?_)
        cases h
        exact (FR.rf _ _)
