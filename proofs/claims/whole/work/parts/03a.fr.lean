/-! What the methods leave as it was. Printed by wip/gen/gen_parts.py. -/
set_option maxRecDepth 100000 in
theorem fr_Tx_append1 (a1 : Int) (g : Gx) (r : Int) (g' : Gx) (h : Tx_append1 a1 g = (r, g')) : FR [3, 1066, 1067] g g' := by
  rw [Tx_append1] at h
  by_cases hc : (g 1 2) < (g 1 1)
  · rw [if_pos hc] at h
    cases h
    exact (FR.go (FR.go (FR.rs (FR.rf _ _) (by decide)) ⟨rfl, by decide⟩) ⟨rfl, by decide⟩)
  · rw [if_neg hc] at h
    cases h
    exact (FR.rf _ _)
set_option maxRecDepth 100000 in
theorem fr_Tx_append4 (a1 : Int) (g : Gx) (r : Int) (g' : Gx) (h : Tx_append4 a1 g = (r, g')) : FR [6, 1258, 1259] g g' := by
  rw [Tx_append4] at h
  by_cases hc : (g 4 2) < (g 4 1)
  · rw [if_pos hc] at h
    cases h
    exact (FR.go (FR.go (FR.rs (FR.rf _ _) (by decide)) ⟨rfl, by decide⟩) ⟨rfl, by decide⟩)
  · rw [if_neg hc] at h
    cases h
    exact (FR.rf _ _)
set_option maxRecDepth 100000 in
theorem fr_Op_type (a1 a2 : Int) (g : Gx) (r : Int) (g' : Gx) (h : Op_type a1 a2 g = (r, g')) : FR [3, 6, 1066, 1067, 1258, 1259] g g' := by
  rw [Op_type] at h
  by_cases hc : a1 < 0
  · rw [if_pos hc] at h
    cases h
    exact (FR.rf _ _)
  · rw [if_neg hc] at h
    by_cases hc : 1 < a1
    · rw [if_pos hc] at h
      cases h
      exact (FR.rf _ _)
    · rw [if_neg hc] at h
      by_cases hc : a2 < 0
      · rw [if_pos hc] at h
        cases h
        exact (FR.rf _ _)
      · rw [if_neg hc] at h
        by_cases hc : a2 ≤ 255
        · rw [if_pos hc] at h
          by_cases hc : ¬ a1 = 0
          · rw [if_pos hc] at h
            obtain ⟨q1, hq, h⟩ := lett_inv h
            refine FR.tr (FR.rf _ _) (FR.tr (FR.cl (fr_Tx_append4 a2 g q1.1 q1.2 hq.symm) (by decide)) ?_)
            by_cases hc : q1.1 = 0
            · rw [if_pos hc] at h
              cases h
              exact (FR.rf _ _)
            · rw [if_neg hc] at h
              cases h
              exact (FR.rf _ _)
          · rw [if_neg hc] at h
            obtain ⟨q2, hq, h⟩ := lett_inv h
            refine FR.tr (FR.rf _ _) (FR.tr (FR.cl (fr_Tx_append1 a2 g q2.1 q2.2 hq.symm) (by decide)) ?_)
            by_cases hc : q2.1 = 0
            · rw [if_pos hc] at h
              cases h
              exact (FR.rf _ _)
            · rw [if_neg hc] at h
              cases h
              exact (FR.rf _ _)
        · rw [if_neg hc] at h
          cases h
          exact (FR.rf _ _)
set_option maxRecDepth 100000 in
theorem fr_Md_type (a1 a2 : Int) (g : Gx) (r : Int) (g' : Gx) (h : Md_type a1 a2 g = some (r, g')) : FR [97, 98] g g' := by
  rw [Md_type] at h
  by_cases hc : (Md_in a1 0 1) = 0
  · rw [if_pos hc] at h
    cases h
    exact (FR.rf _ _)
  · rw [if_neg hc] at h
    by_cases hc : ¬ (Md_in a2 0 255) = 0
    · rw [if_pos hc] at h
      by_cases hc : 0 ≤ a1 ∧ a1 < 2
      · rw [if_pos hc] at h
        by_cases hc : ¬ (g 98 a1.toNat) = (Md_roomOf a1)
        · rw [if_pos hc] at h
          by_cases hc : 0 ≤ a1 ∧ a1 < 2
          · rw [if_pos hc] at h
            by_cases hc : 0 ≤ (wr ((wr (160 * a1)) + (g 98 a1.toNat))) ∧ (wr ((wr (160 * a1)) + (g 98 a1.toNat))) < 240
            · rw [if_pos hc] at h
              by_cases hc : 0 ≤ a1 ∧ a1 < 2
              · rw [if_pos hc] at h
                by_cases hc : 0 ≤ a1 ∧ a1 < 2
                · rw [if_pos hc] at h
                  by_cases hc : 0 ≤ a1 ∧ a1 < 2
                  · rw [if_pos hc] at h
                    cases h
                    exact (FR.gs (FR.gs (FR.rf _ _) (by decide)) (by decide))
                  · rw [if_neg hc] at h; cases h
                · rw [if_neg hc] at h; cases h
              · rw [if_neg hc] at h; cases h
            · rw [if_neg hc] at h; cases h
          · rw [if_neg hc] at h; cases h
        · rw [if_neg hc] at h
          cases h
          exact (FR.rf _ _)
      · rw [if_neg hc] at h; cases h
    · rw [if_neg hc] at h
      cases h
      exact (FR.rf _ _)
set_option maxRecDepth 100000 in
theorem fr_Tx_empty1 (g : Gx) (r : Int) (g' : Gx) (h : Tx_empty1 g = (r, g')) : FR [1066, 1067] g g' := by
  rw [Tx_empty1] at h
  cases h
  exact (FR.go (FR.go (FR.rf _ _) ⟨rfl, by decide⟩) ⟨rfl, by decide⟩)
set_option maxRecDepth 100000 in
theorem fr_Tx_empty4 (g : Gx) (r : Int) (g' : Gx) (h : Tx_empty4 g = (r, g')) : FR [1258, 1259] g g' := by
  rw [Tx_empty4] at h
  cases h
  exact (FR.go (FR.go (FR.rf _ _) ⟨rfl, by decide⟩) ⟨rfl, by decide⟩)
set_option maxRecDepth 100000 in
theorem fr_Op_wipe (a1 : Int) (g : Gx) (r : Int) (g' : Gx) (h : Op_wipe a1 g = (r, g')) : FR [1011, 1066, 1067, 1258, 1259] g g' := by
  rw [Op_wipe] at h
  by_cases hc : a1 < 0
  · rw [if_pos hc] at h
    cases h
    exact (FR.rf _ _)
  · rw [if_neg hc] at h
    by_cases hc : a1 ≤ 1
    · rw [if_pos hc] at h
      by_cases hc : ¬ a1 = 1
      · rw [if_pos hc] at h
        obtain ⟨q1, hq, h⟩ := lett_inv h
        refine FR.tr (FR.go (FR.rf _ _) ⟨rfl, by decide⟩) (FR.tr (FR.cl (fr_Tx_empty1 (gset g 0 11 0) q1.1 q1.2 hq.symm) (by decide)) ?_)
        cases h
        exact (FR.rf _ _)
      · rw [if_neg hc] at h
        obtain ⟨q2, hq, h⟩ := lett_inv h
        refine FR.tr (FR.rf _ _) (FR.tr (FR.cl (fr_Tx_empty4 g q2.1 q2.2 hq.symm) (by decide)) ?_)
        cases h
        exact (FR.rf _ _)
    · rw [if_neg hc] at h
      cases h
      exact (FR.rf _ _)
set_option maxRecDepth 100000 in
theorem fr_Md_wipe (a1 : Int) (g : Gx) (r : Int) (g' : Gx) (h : Md_wipe a1 g = some (r, g')) : FR [98, 6895] g g' := by
  rw [Md_wipe] at h
  by_cases hc : ¬ (Md_in a1 0 1) = 0
  · rw [if_pos hc] at h
    by_cases hc : 0 ≤ a1 ∧ a1 < 2
    · rw [if_pos hc] at h
      by_cases hc : 0 ≤ a1 ∧ a1 < 2
      · rw [if_pos hc] at h
        by_cases hc : ¬ a1 = 0
        · rw [if_pos hc] at h
          cases h
          exact (FR.go (FR.gs (FR.rf _ _) (by decide)) ⟨rfl, by decide⟩)
        · rw [if_neg hc] at h
          cases h
          exact (FR.go (FR.gs (FR.rf _ _) (by decide)) ⟨rfl, by decide⟩)
      · rw [if_neg hc] at h; cases h
    · rw [if_neg hc] at h; cases h
  · rw [if_neg hc] at h
    cases h
    exact (FR.rf _ _)
set_option maxRecDepth 100000 in
theorem fr_St_reset (g : Gx) (g' : Gx) (h : St_reset g = g') : FR [1458, 1459, 1460] g g' := by
  rw [St_reset] at h
  subst h
  exact (FR.go (FR.go (FR.go (FR.rf _ _) ⟨rfl, by decide⟩) ⟨rfl, by decide⟩) ⟨rfl, by decide⟩)
set_option maxRecDepth 100000 in
theorem fr_Pr_restart (g : Gx) (g' : Gx) (h : Pr_restart g = g') : FR [1458, 1459, 1460, 2796, 2797, 2798, 2799, 2800] g g' := by
  rw [Pr_restart] at h
  obtain ⟨g1, hq, h⟩ := lett_inv h
  refine FR.tr (FR.rf _ _) (FR.tr (FR.cl (fr_St_reset g g1 hq.symm) (by decide)) ?_)
  subst h
  exact (FR.go (FR.go (FR.go (FR.go (FR.go (FR.rf _ _) ⟨rfl, by decide⟩) ⟨rfl, by decide⟩) ⟨rfl, by decide⟩) ⟨rfl, by decide⟩) ⟨rfl, by decide⟩)
set_option maxRecDepth 100000 in
theorem fr_Pr_failAt (a1 : Int) (g : Gx) (r : Int) (g' : Gx) (h : Pr_failAt a1 g = (r, g')) : FR [2798] g g' := by
  rw [Pr_failAt] at h
  cases h
  exact (FR.go (FR.rf _ _) ⟨rfl, by decide⟩)
set_option maxRecDepth 100000 in
theorem fr_St_add (a1 a2 : Int) (g : Gx) (g' : Gx) (h : St_add a1 a2 g = g') : FR [9, 11, 1458] g g' := by
  rw [St_add] at h
  subst h
  exact (FR.go (FR.rs (FR.rs (FR.rf _ _) (by decide)) (by decide)) ⟨rfl, by decide⟩)
set_option maxRecDepth 100000 in
theorem fr_Pr_readSaying (a1 : Int) (g : Gx) (r : Int) (g' : Gx) (h : Pr_readSaying a1 g = (r, g')) : FR [9, 11, 1458, 2797, 2798, 2799, 2800] g g' := by
  rw [Pr_readSaying] at h
  by_cases hc : (Op_isTalkerLetter (Tx_at1 (wr ((g 28 5) + 2)) g)) = 0
  · rw [if_pos hc] at h
    obtain ⟨q1, hq, h⟩ := lett_inv h
    refine FR.tr (FR.rf _ _) (FR.tr (FR.cl (fr_Pr_failAt (wr ((g 28 5) + 2)) g q1.1 q1.2 hq.symm) (by decide)) ?_)
    cases h
    exact (FR.rf _ _)
  · rw [if_neg hc] at h
    by_cases hc : ¬ (Tx_at1 (wr ((g 28 5) + 2)) g) = a1
    · rw [if_pos hc] at h
      by_cases hc : ¬ (Op_isWordLetter (Tx_at1 (wr ((g 28 5) + 3)) g)) = 0
      · rw [if_pos hc] at h
        obtain ⟨g2, hq, h⟩ := lett_inv h
        refine FR.tr (FR.rf _ _) (FR.tr (FR.cl (fr_St_add 0 (wr ((wr ((wr (1000 * (wr (a1 - 65)))) + (wr (100 * (wr ((Tx_at1 (wr ((g 28 5) + 2)) g) - 65)))))) + (wr ((Tx_at1 (wr ((g 28 5) + 3)) g) - 97)))) g g2 hq.symm) (by decide)) ?_)
        cases h
        exact (FR.go (FR.go (FR.go (FR.rf _ _) ⟨rfl, by decide⟩) ⟨rfl, by decide⟩) ⟨rfl, by decide⟩)
      · rw [if_neg hc] at h
        obtain ⟨q3, hq, h⟩ := lett_inv h
        refine FR.tr (FR.rf _ _) (FR.tr (FR.cl (fr_Pr_failAt (wr ((g 28 5) + 3)) g q3.1 q3.2 hq.symm) (by decide)) ?_)
        cases h
        exact (FR.rf _ _)
    · rw [if_neg hc] at h
      obtain ⟨q4, hq, h⟩ := lett_inv h
      refine FR.tr (FR.rf _ _) (FR.tr (FR.cl (fr_Pr_failAt (wr ((g 28 5) + 2)) g q4.1 q4.2 hq.symm) (by decide)) ?_)
      cases h
      exact (FR.rf _ _)
set_option maxRecDepth 100000 in
theorem fr_St_newChoice (a1 : Int) (g : Gx) (r : Int) (g' : Gx) (h : St_newChoice a1 g = (r, g')) : FR [13, 15, 1459] g g' := by
  rw [St_newChoice] at h
  cases h
  exact (FR.rs (FR.rs (FR.go (FR.rf _ _) ⟨rfl, by decide⟩) (by decide)) (by decide))
set_option maxRecDepth 100000 in
theorem fr_St_beginWay (a1 : Int) (g : Gx) (g' : Gx) (h : St_beginWay a1 g = g') : FR [15, 17] g g' := by
  rw [St_beginWay] at h
  subst h
  exact (FR.ra (FR.rs (FR.rf _ _) (by decide)) (by decide))
set_option maxRecDepth 100000 in
theorem fr_Pr_readOpening (a1 : Int) (g : Gx) (r : Int) (g' : Gx) (h : Pr_readOpening a1 g = (r, g')) : FR [9, 11, 13, 15, 17, 30, 32, 1458, 1459, 2796, 2797, 2798, 2799] g g' := by
  rw [Pr_readOpening] at h
  by_cases hc : ¬ (Tx_at1 (wr ((g 28 5) + 1)) g) = 40
  · rw [if_pos hc] at h
    obtain ⟨q1, hq, h⟩ := lett_inv h
    refine FR.tr (FR.rf _ _) (FR.tr (FR.cl (fr_Pr_failAt (wr ((g 28 5) + 1)) g q1.1 q1.2 hq.symm) (by decide)) ?_)
    cases h
    exact (FR.rf _ _)
  · rw [if_neg hc] at h
    by_cases hc : (g 28 4) < 4
    · rw [if_pos hc] at h
      by_cases hc : (Op_isTalkerLetter a1) = 0
      · rw [if_pos hc] at h
        obtain ⟨g2, hq, h⟩ := lett_inv h
        refine FR.tr (FR.rs (FR.rf _ _) (by decide)) (FR.tr (FR.cl (fr_St_add 4 (wr (a1 - 48)) (rset g 32 4 (g 28 4) (St_size g)) g2 hq.symm) (by decide)) ?_)
        cases h
        exact (FR.go (FR.go (FR.rs (FR.rf _ _) (by decide)) ⟨rfl, by decide⟩) ⟨rfl, by decide⟩)
      · rw [if_neg hc] at h
        obtain ⟨q3, hq, h⟩ := lett_inv h
        refine FR.tr (FR.rs (FR.rf _ _) (by decide)) (FR.tr (FR.cl (fr_St_newChoice (wr (a1 - 65)) (rset g 32 4 (g 28 4) (St_size g)) q3.1 q3.2 hq.symm) (by decide)) ?_)
        obtain ⟨g4, hq, h⟩ := lett_inv h
        refine FR.tr (FR.rf _ _) (FR.tr (FR.cl (fr_St_add 1 q3.1 q3.2 g4 hq.symm) (by decide)) ?_)
        obtain ⟨g5, hq, h⟩ := lett_inv h
        refine FR.tr (FR.rf _ _) (FR.tr (FR.cl (fr_St_beginWay q3.1 g4 g5 hq.symm) (by decide)) ?_)
        cases h
        exact (FR.go (FR.go (FR.go (FR.rs (FR.rf _ _) (by decide)) ⟨rfl, by decide⟩) ⟨rfl, by decide⟩) ⟨rfl, by decide⟩)
    · rw [if_neg hc] at h
      obtain ⟨q6, hq, h⟩ := lett_inv h
      refine FR.tr (FR.rf _ _) (FR.tr (FR.cl (fr_Pr_failAt (wr ((g 28 5) + 1)) g q6.1 q6.2 hq.symm) (by decide)) ?_)
      cases h
      exact (FR.rf _ _)
set_option maxRecDepth 100000 in
theorem fr_Pr_readItem (g : Gx) (r : Int) (g' : Gx) (h : Pr_readItem g = (r, g')) : FR [9, 11, 13, 15, 17, 30, 32, 1458, 1459, 2796, 2797, 2798, 2799, 2800] g g' := by
  rw [Pr_readItem] at h
  by_cases hc : ¬ (Tx_at1 (g 28 5) g) = 45
  · rw [if_pos hc] at h
    by_cases hc : (Op_isTalkerLetter (Tx_at1 (g 28 5) g)) = 0
    · rw [if_pos hc] at h
      by_cases hc : ¬ (Op_isTalkerLetter (Tx_at1 (g 28 5) g)) = 0
      · rw [if_pos hc] at h
        obtain ⟨q1, hq, h⟩ := lett_inv h
        refine FR.tr (FR.rf _ _) (FR.tr (FR.cl (fr_Pr_readOpening (Tx_at1 (g 28 5) g) g q1.1 q1.2 hq.symm) (by decide)) ?_)
        cases h
        exact (FR.rf _ _)
      · rw [if_neg hc] at h
        by_cases hc : (Tx_at1 (g 28 5) g) < 50
        · rw [if_pos hc] at h
          obtain ⟨q2, hq, h⟩ := lett_inv h
          refine FR.tr (FR.rf _ _) (FR.tr (FR.cl (fr_Pr_failAt (g 28 5) g q2.1 q2.2 hq.symm) (by decide)) ?_)
          cases h
          exact (FR.rf _ _)
        · rw [if_neg hc] at h
          by_cases hc : 52 < (Tx_at1 (g 28 5) g)
          · rw [if_pos hc] at h
            obtain ⟨q3, hq, h⟩ := lett_inv h
            refine FR.tr (FR.rf _ _) (FR.tr (FR.cl (fr_Pr_failAt (g 28 5) g q3.1 q3.2 hq.symm) (by decide)) ?_)
            cases h
            exact (FR.rf _ _)
          · rw [if_neg hc] at h
            obtain ⟨q4, hq, h⟩ := lett_inv h
            refine FR.tr (FR.rf _ _) (FR.tr (FR.cl (fr_Pr_readOpening (Tx_at1 (g 28 5) g) g q4.1 q4.2 hq.symm) (by decide)) ?_)
            cases h
            exact (FR.rf _ _)
    · rw [if_neg hc] at h
      by_cases hc : ¬ (Tx_at1 (wr ((g 28 5) + 1)) g) = 62
      · rw [if_pos hc] at h
        by_cases hc : ¬ (Op_isTalkerLetter (Tx_at1 (g 28 5) g)) = 0
        · rw [if_pos hc] at h
          obtain ⟨q5, hq, h⟩ := lett_inv h
          refine FR.tr (FR.rf _ _) (FR.tr (FR.cl (fr_Pr_readOpening (Tx_at1 (g 28 5) g) g q5.1 q5.2 hq.symm) (by decide)) ?_)
          cases h
          exact (FR.rf _ _)
        · rw [if_neg hc] at h
          by_cases hc : (Tx_at1 (g 28 5) g) < 50
          · rw [if_pos hc] at h
            obtain ⟨q6, hq, h⟩ := lett_inv h
            refine FR.tr (FR.rf _ _) (FR.tr (FR.cl (fr_Pr_failAt (g 28 5) g q6.1 q6.2 hq.symm) (by decide)) ?_)
            cases h
            exact (FR.rf _ _)
          · rw [if_neg hc] at h
            by_cases hc : 52 < (Tx_at1 (g 28 5) g)
            · rw [if_pos hc] at h
              obtain ⟨q7, hq, h⟩ := lett_inv h
              refine FR.tr (FR.rf _ _) (FR.tr (FR.cl (fr_Pr_failAt (g 28 5) g q7.1 q7.2 hq.symm) (by decide)) ?_)
              cases h
              exact (FR.rf _ _)
            · rw [if_neg hc] at h
              obtain ⟨q8, hq, h⟩ := lett_inv h
              refine FR.tr (FR.rf _ _) (FR.tr (FR.cl (fr_Pr_readOpening (Tx_at1 (g 28 5) g) g q8.1 q8.2 hq.symm) (by decide)) ?_)
              cases h
              exact (FR.rf _ _)
      · rw [if_neg hc] at h
        obtain ⟨q9, hq, h⟩ := lett_inv h
        refine FR.tr (FR.rf _ _) (FR.tr (FR.cl (fr_Pr_readSaying (Tx_at1 (g 28 5) g) g q9.1 q9.2 hq.symm) (by decide)) ?_)
        cases h
        exact (FR.rf _ _)
  · rw [if_neg hc] at h
    cases h
    exact (FR.go (FR.rf _ _) ⟨rfl, by decide⟩)
set_option maxRecDepth 100000 in
theorem fr_Pr_readNextWay (a1 : Int) (g : Gx) (r : Int) (g' : Gx) (h : Pr_readNextWay a1 g = (r, g')) : FR [9, 11, 15, 17, 1458, 2797, 2798] g g' := by
  rw [Pr_readNextWay] at h
  by_cases hc : a1 = (-1)
  · rw [if_pos hc] at h
    obtain ⟨q1, hq, h⟩ := lett_inv h
    refine FR.tr (FR.rf _ _) (FR.tr (FR.cl (fr_Pr_failAt (g 28 5) g q1.1 q1.2 hq.symm) (by decide)) ?_)
    cases h
    exact (FR.rf _ _)
  · rw [if_neg hc] at h
    by_cases hc : (St_wayCount a1 g) < 4
    · rw [if_pos hc] at h
      obtain ⟨g2, hq, h⟩ := lett_inv h
      refine FR.tr (FR.rf _ _) (FR.tr (FR.cl (fr_St_add 2 a1 g g2 hq.symm) (by decide)) ?_)
      obtain ⟨g3, hq, h⟩ := lett_inv h
      refine FR.tr (FR.rf _ _) (FR.tr (FR.cl (fr_St_beginWay a1 g2 g3 hq.symm) (by decide)) ?_)
      cases h
      exact (FR.go (FR.rf _ _) ⟨rfl, by decide⟩)
    · rw [if_neg hc] at h
      obtain ⟨q4, hq, h⟩ := lett_inv h
      refine FR.tr (FR.rf _ _) (FR.tr (FR.cl (fr_Pr_failAt (g 28 5) g q4.1 q4.2 hq.symm) (by decide)) ?_)
      cases h
      exact (FR.rf _ _)
set_option maxRecDepth 100000 in
theorem fr_St_closeRounds (a1 : Int) (g : Gx) (g' : Gx) (h : St_closeRounds a1 g = g') : FR [9, 11, 1458] g g' := by
  rw [St_closeRounds] at h
  by_cases hc : ¬ (g 7 10) = (wr (a1 + 1))
  · rw [if_pos hc] at h
    subst h
    exact (FR.go (FR.rs (FR.rs (FR.rf _ _) (by decide)) (by decide)) ⟨rfl, by decide⟩)
  · rw [if_neg hc] at h
    subst h
    exact (FR.go (FR.rf _ _) ⟨rfl, by decide⟩)
set_option maxRecDepth 100000 in
theorem fr_St_endChoice (a1 : Int) (g : Gx) (g' : Gx) (h : St_endChoice a1 g = g') : FR [19] g g' := by
  rw [St_endChoice] at h
  subst h
  exact (FR.rs (FR.rf _ _) (by decide))
set_option maxRecDepth 100000 in
theorem fr_Pr_readClosing (a1 : Int) (g : Gx) (r : Int) (g' : Gx) (h : Pr_readClosing a1 g = (r, g')) : FR [9, 11, 19, 1458, 2796, 2797, 2798] g g' := by
  rw [Pr_readClosing] at h
  by_cases hc : ¬ a1 = (-1)
  · rw [if_pos hc] at h
    by_cases hc : 2 ≤ (St_wayCount a1 g)
    · rw [if_pos hc] at h
      obtain ⟨g1, hq, h⟩ := lett_inv h
      refine FR.tr (FR.rf _ _) (FR.tr (FR.cl (fr_St_add 3 a1 g g1 hq.symm) (by decide)) ?_)
      obtain ⟨g2, hq, h⟩ := lett_inv h
      refine FR.tr (FR.rf _ _) (FR.tr (FR.cl (fr_St_endChoice a1 g1 g2 hq.symm) (by decide)) ?_)
      cases h
      exact (FR.go (FR.go (FR.rf _ _) ⟨rfl, by decide⟩) ⟨rfl, by decide⟩)
    · rw [if_neg hc] at h
      obtain ⟨q3, hq, h⟩ := lett_inv h
      refine FR.tr (FR.rf _ _) (FR.tr (FR.cl (fr_Pr_failAt (g 28 5) g q3.1 q3.2 hq.symm) (by decide)) ?_)
      cases h
      exact (FR.rf _ _)
  · rw [if_neg hc] at h
    obtain ⟨g4, hq, h⟩ := lett_inv h
    refine FR.tr (FR.rf _ _) (FR.tr (FR.cl (fr_St_closeRounds (rat g 32 4 (wr ((g 28 4) - 1))) g g4 hq.symm) (by decide)) ?_)
    cases h
    exact (FR.go (FR.go (FR.rf _ _) ⟨rfl, by decide⟩) ⟨rfl, by decide⟩)
set_option maxRecDepth 100000 in
theorem fr_Pr_readBehindItem (g : Gx) (r : Int) (g' : Gx) (h : Pr_readBehindItem g = (r, g')) : FR [9, 11, 15, 17, 19, 1458, 2796, 2797, 2798] g g' := by
  rw [Pr_readBehindItem] at h
  by_cases hc : ¬ (Tx_at1 (g 28 5) g) = 44
  · rw [if_pos hc] at h
    by_cases hc : (g 28 4) ≤ 0
    · rw [if_pos hc] at h
      by_cases hc : (g 28 4) ≤ 0
      · rw [if_pos hc] at h
        obtain ⟨q1, hq, h⟩ := lett_inv h
        refine FR.tr (FR.rf _ _) (FR.tr (FR.cl (fr_Pr_failAt (g 28 5) g q1.1 q1.2 hq.symm) (by decide)) ?_)
        cases h
        exact (FR.rf _ _)
      · rw [if_neg hc] at h
        by_cases hc : ¬ (Tx_at1 (g 28 5) g) = 41
        · rw [if_pos hc] at h
          obtain ⟨q2, hq, h⟩ := lett_inv h
          refine FR.tr (FR.rf _ _) (FR.tr (FR.cl (fr_Pr_failAt (g 28 5) g q2.1 q2.2 hq.symm) (by decide)) ?_)
          cases h
          exact (FR.rf _ _)
        · rw [if_neg hc] at h
          obtain ⟨q3, hq, h⟩ := lett_inv h
          refine FR.tr (FR.rf _ _) (FR.tr (FR.cl (fr_Pr_readClosing (rat g 30 4 (wr ((g 28 4) - 1))) g q3.1 q3.2 hq.symm) (by decide)) ?_)
          cases h
          exact (FR.rf _ _)
    · rw [if_neg hc] at h
      by_cases hc : ¬ (Tx_at1 (g 28 5) g) = 124
      · rw [if_pos hc] at h
        by_cases hc : (g 28 4) ≤ 0
        · rw [if_pos hc] at h
          obtain ⟨q4, hq, h⟩ := lett_inv h
          refine FR.tr (FR.rf _ _) (FR.tr (FR.cl (fr_Pr_failAt (g 28 5) g q4.1 q4.2 hq.symm) (by decide)) ?_)
          cases h
          exact (FR.rf _ _)
        · rw [if_neg hc] at h
          by_cases hc : ¬ (Tx_at1 (g 28 5) g) = 41
          · rw [if_pos hc] at h
            obtain ⟨q5, hq, h⟩ := lett_inv h
            refine FR.tr (FR.rf _ _) (FR.tr (FR.cl (fr_Pr_failAt (g 28 5) g q5.1 q5.2 hq.symm) (by decide)) ?_)
            cases h
            exact (FR.rf _ _)
          · rw [if_neg hc] at h
            obtain ⟨q6, hq, h⟩ := lett_inv h
            refine FR.tr (FR.rf _ _) (FR.tr (FR.cl (fr_Pr_readClosing (rat g 30 4 (wr ((g 28 4) - 1))) g q6.1 q6.2 hq.symm) (by decide)) ?_)
            cases h
            exact (FR.rf _ _)
      · rw [if_neg hc] at h
        obtain ⟨q7, hq, h⟩ := lett_inv h
        refine FR.tr (FR.rf _ _) (FR.tr (FR.cl (fr_Pr_readNextWay (rat g 30 4 (wr ((g 28 4) - 1))) g q7.1 q7.2 hq.symm) (by decide)) ?_)
        cases h
        exact (FR.rf _ _)
  · rw [if_neg hc] at h
    cases h
    exact (FR.go (FR.rf _ _) ⟨rfl, by decide⟩)
set_option maxRecDepth 100000 in
theorem fr_Pr_firstFault_l38 (K38_90 : Gx → Option (Int × Gx)) (W : List Nat) (hW : ∀ c ∈ ([9, 11, 13, 15, 17, 19, 30, 32, 1458, 1459, 2796, 2797, 2798, 2799, 2800] : List Nat), c ∈ W) (hK38_90 : ∀ (g : Gx) (r : Int) (g' : Gx), K38_90 g = some (r, g') → FR W g g') : ∀ (n38 : Nat) (v1 v2 : Int) (g : Gx) (r : Int) (g' : Gx), Pr_firstFault_l38 K38_90 n38 v1 v2 g = some (r, g') → FR W g g' := by
  intro n38
  induction n38 with
  | zero => intro v1 v2 g r g' h; cases h
  | succ n38 ih38 =>
    intro v1 v2 g r g' h
    rw [Pr_firstFault_l38] at h
    by_cases hc : 160 < v2
    · rw [if_pos hc] at h
      exact FR.tr (FR.rf _ _) (hK38_90 g r g' h)
    · rw [if_neg hc] at h
      by_cases hc : ¬ (g 28 6) = (-1)
      · rw [if_pos hc] at h
        exact FR.tr (FR.rf _ _) (hK38_90 g r g' h)
      · rw [if_neg hc] at h
        by_cases hc : v1 = 0
        · rw [if_pos hc] at h
          by_cases hc : (Tx_length1 g) ≤ (g 28 5)
          · rw [if_pos hc] at h
            exact FR.tr (FR.rf _ _) (hK38_90 g r g' h)
          · rw [if_neg hc] at h
            obtain ⟨q2, hq, h⟩ := lett_inv h
            refine FR.tr (FR.rf _ _) (FR.tr (FR.cl (fr_Pr_readBehindItem g q2.1 q2.2 hq.symm) (sub_tr (by decide) hW)) ?_)
            exact FR.tr (FR.rf _ _) (ih38 q2.1 (wr (v2 + 1)) q2.2 r g' h)
        · rw [if_neg hc] at h
          obtain ⟨q3, hq, h⟩ := lett_inv h
          refine FR.tr (FR.rf _ _) (FR.tr (FR.cl (fr_Pr_readItem g q3.1 q3.2 hq.symm) (sub_tr (by decide) hW)) ?_)
          exact FR.tr (FR.rf _ _) (ih38 q3.1 (wr (v2 + 1)) q3.2 r g' h)
set_option maxRecDepth 100000 in
theorem fr_Pr_firstFault (g : Gx) (r : Int) (g' : Gx) (h : Pr_firstFault g = some (r, g')) : FR [9, 11, 13, 15, 17, 19, 30, 32, 1458, 1459, 1460, 2796, 2797, 2798, 2799, 2800, 2801] g g' := by
  rw [Pr_firstFault] at h
  by_cases hc : ¬ (g 28 9) = (Tx_changes1 g)
  · rw [if_pos hc] at h
    obtain ⟨g1, hq, h⟩ := lett_inv h
    refine FR.tr (FR.go (FR.rf _ _) ⟨rfl, by decide⟩) (FR.tr (FR.cl (fr_Pr_restart (gset g 28 9 (Tx_changes1 g)) g1 hq.symm) (by decide)) ?_)
    refine FR.tr (FR.rf _ _) (fr_Pr_firstFault_l38 _ [9, 11, 13, 15, 17, 19, 30, 32, 1458, 1459, 1460, 2796, 2797, 2798, 2799, 2800, 2801] (by decide) ?_ fu 1 0 g1 r g' h)
    · intro g4 r g' h
      by_cases hc : ¬ (g4 28 6) = (-1)
      · rw [if_pos hc] at h
        cases h
        exact (FR.rf _ _)
      · rw [if_neg hc] at h
        by_cases hc : (g4 28 4) ≤ 0
        · rw [if_pos hc] at h
          cases h
          exact (FR.rf _ _)
        · rw [if_neg hc] at h
          cases h
          exact (FR.go (FR.rf _ _) ⟨rfl, by decide⟩)
  · rw [if_neg hc] at h
    cases h
    exact (FR.rf _ _)
set_option maxRecDepth 100000 in
theorem fr_Pg_read_l18 (K18_209 : Int → Gx → Option (Int × Gx)) (W : List Nat) (hW : ∀ c ∈ ([71, 73, 75, 77, 5423] : List Nat), c ∈ W) (hK18_209 : ∀ (x1 : Int) (g : Gx) (r : Int) (g' : Gx), K18_209 x1 g = some (r, g') → FR W g g') : ∀ (n18 : Nat) (v1 v2 : Int) (g : Gx) (r : Int) (g' : Gx), Pg_read_l18 K18_209 n18 v1 v2 g = some (r, g') → FR W g g' := by
  intro n18
  induction n18 with
  | zero => intro v1 v2 g r g' h; cases h
  | succ n18 ih18 =>
    intro v1 v2 g r g' h
    rw [Pg_read_l18] at h
    by_cases hc : (Tx_length4 g) ≤ v2
    · rw [if_pos hc] at h
      exact FR.tr (FR.rf _ _) (hK18_209 v1 g r g' h)
    · rw [if_neg hc] at h
      by_cases hc : ¬ (Tx_at4 v2 g) = 124
      · rw [if_pos hc] at h
        by_cases hc : (Tx_at4 v2 g) = 33
        · rw [if_pos hc] at h
          by_cases hc : ¬ (Op_isTalkerLetter (Tx_at4 (wr (v2 + 1)) g)) = 0
          · rw [if_pos hc] at h
            by_cases hc : ¬ (Op_isWordLetter (Tx_at4 (wr (v2 + 2)) g)) = 0
            · rw [if_pos hc] at h
              obtain ⟨y1, hy1, h⟩ := lett_inv h
              exact FR.tr (FR.rs (FR.rs (FR.rs (FR.rf _ _) (hW _ (by decide))) (hW _ (by decide))) (hW _ (by decide))) (ih18 (wr (v1 + 1)) (wr (v2 + 3)) (rset (rset (rset g 71 80 v1 y1) 73 80 v1 (wr ((Tx_at4 (wr (v2 + 1)) (rset g 71 80 v1 y1)) - 65))) 75 80 v1 (wr ((Tx_at4 (wr (v2 + 2)) (rset (rset g 71 80 v1 y1) 73 80 v1 (wr ((Tx_at4 (wr (v2 + 1)) (rset g 71 80 v1 y1)) - 65)))) - 97))) r g' h)
            · rw [if_neg hc] at h
              cases h
              exact (FR.rf _ _)
          · rw [if_neg hc] at h
            cases h
            exact (FR.rf _ _)
        · rw [if_neg hc] at h
          by_cases hc : (Tx_at4 v2 g) = 63
          · rw [if_pos hc] at h
            by_cases hc : ¬ (Op_isTalkerLetter (Tx_at4 (wr (v2 + 1)) g)) = 0
            · rw [if_pos hc] at h
              by_cases hc : ¬ (Op_isWordLetter (Tx_at4 (wr (v2 + 2)) g)) = 0
              · rw [if_pos hc] at h
                obtain ⟨y2, hy2, h⟩ := lett_inv h
                exact FR.tr (FR.rs (FR.rs (FR.rs (FR.rf _ _) (hW _ (by decide))) (hW _ (by decide))) (hW _ (by decide))) (ih18 (wr (v1 + 1)) (wr (v2 + 3)) (rset (rset (rset g 71 80 v1 y2) 73 80 v1 (wr ((Tx_at4 (wr (v2 + 1)) (rset g 71 80 v1 y2)) - 65))) 75 80 v1 (wr ((Tx_at4 (wr (v2 + 2)) (rset (rset g 71 80 v1 y2) 73 80 v1 (wr ((Tx_at4 (wr (v2 + 1)) (rset g 71 80 v1 y2)) - 65)))) - 97))) r g' h)
              · rw [if_neg hc] at h
                cases h
                exact (FR.rf _ _)
            · rw [if_neg hc] at h
              cases h
              exact (FR.rf _ _)
          · rw [if_neg hc] at h
            cases h
            exact (FR.rf _ _)
      · rw [if_neg hc] at h
        by_cases hc : 8 ≤ (g 69 7)
        · rw [if_pos hc] at h
          by_cases hc : (Tx_at4 v2 g) = 33
          · rw [if_pos hc] at h
            by_cases hc : ¬ (Op_isTalkerLetter (Tx_at4 (wr (v2 + 1)) g)) = 0
            · rw [if_pos hc] at h
              by_cases hc : ¬ (Op_isWordLetter (Tx_at4 (wr (v2 + 2)) g)) = 0
              · rw [if_pos hc] at h
                obtain ⟨y3, hy3, h⟩ := lett_inv h
                exact FR.tr (FR.rs (FR.rs (FR.rs (FR.rf _ _) (hW _ (by decide))) (hW _ (by decide))) (hW _ (by decide))) (ih18 (wr (v1 + 1)) (wr (v2 + 3)) (rset (rset (rset g 71 80 v1 y3) 73 80 v1 (wr ((Tx_at4 (wr (v2 + 1)) (rset g 71 80 v1 y3)) - 65))) 75 80 v1 (wr ((Tx_at4 (wr (v2 + 2)) (rset (rset g 71 80 v1 y3) 73 80 v1 (wr ((Tx_at4 (wr (v2 + 1)) (rset g 71 80 v1 y3)) - 65)))) - 97))) r g' h)
              · rw [if_neg hc] at h
                cases h
                exact (FR.rf _ _)
            · rw [if_neg hc] at h
              cases h
              exact (FR.rf _ _)
          · rw [if_neg hc] at h
            by_cases hc : (Tx_at4 v2 g) = 63
            · rw [if_pos hc] at h
              by_cases hc : ¬ (Op_isTalkerLetter (Tx_at4 (wr (v2 + 1)) g)) = 0
              · rw [if_pos hc] at h
                by_cases hc : ¬ (Op_isWordLetter (Tx_at4 (wr (v2 + 2)) g)) = 0
                · rw [if_pos hc] at h
                  obtain ⟨y4, hy4, h⟩ := lett_inv h
                  exact FR.tr (FR.rs (FR.rs (FR.rs (FR.rf _ _) (hW _ (by decide))) (hW _ (by decide))) (hW _ (by decide))) (ih18 (wr (v1 + 1)) (wr (v2 + 3)) (rset (rset (rset g 71 80 v1 y4) 73 80 v1 (wr ((Tx_at4 (wr (v2 + 1)) (rset g 71 80 v1 y4)) - 65))) 75 80 v1 (wr ((Tx_at4 (wr (v2 + 2)) (rset (rset g 71 80 v1 y4) 73 80 v1 (wr ((Tx_at4 (wr (v2 + 1)) (rset g 71 80 v1 y4)) - 65)))) - 97))) r g' h)
                · rw [if_neg hc] at h
                  cases h
                  exact (FR.rf _ _)
              · rw [if_neg hc] at h
                cases h
                exact (FR.rf _ _)
            · rw [if_neg hc] at h
              cases h
              exact (FR.rf _ _)
        · rw [if_neg hc] at h
          exact FR.tr (FR.go (FR.rs (FR.rf _ _) (hW _ (by decide))) ⟨rfl, hW _ (by decide)⟩) (ih18 v1 (wr (v2 + 1)) (gset (rset g 77 9 (g 69 7) v1) 69 7 (wr ((g 69 7) + 1))) r g' h)
set_option maxRecDepth 100000 in
theorem fr_Pg_read (g : Gx) (r : Int) (g' : Gx) (h : Pg_read g = some (r, g')) : FR [71, 73, 75, 77, 5423] g g' := by
  rw [Pg_read] at h
  refine FR.tr (FR.rs (FR.go (FR.rf _ _) ⟨rfl, by decide⟩) (by decide)) (fr_Pg_read_l18 _ [71, 73, 75, 77, 5423] (by decide) ?_ fu 0 0 (rset (gset g 69 7 1) 77 9 0 0) r g' h)
  · intro x5 g6 r g' h
    cases h
    exact (FR.rs (FR.rf _ _) (by decide))
set_option maxRecDepth 100000 in
theorem fr_Pg_firstFault (g : Gx) (r : Int) (g' : Gx) (h : Pg_firstFault g = some (r, g')) : FR [71, 73, 75, 77, 5423, 5424, 5425] g g' := by
  rw [Pg_firstFault] at h
  by_cases hc : (g 69 9) = (Tx_changes4 g)
  · rw [if_pos hc] at h
    cases h
    exact (FR.rf _ _)
  · rw [if_neg hc] at h
    obtain ⟨q1, hq, h⟩ := Option.bind_eq_some_iff.mp h
    refine FR.tr (FR.go (FR.rf _ _) ⟨rfl, by decide⟩) (FR.tr (FR.cl (fr_Pg_read (gset g 69 9 (Tx_changes4 g)) q1.1 q1.2 hq) (by decide)) ?_)
    cases h
    exact (FR.go (FR.rf _ _) ⟨rfl, by decide⟩)
set_option maxRecDepth 100000 in
theorem fr_Op_fault (a1 : Int) (g : Gx) (r : Int) (g' : Gx) (h : Op_fault a1 g = some (r, g')) : FR [9, 11, 13, 15, 17, 19, 30, 32, 71, 73, 75, 77, 1458, 1459, 1460, 2796, 2797, 2798, 2799, 2800, 2801, 5423, 5424, 5425] g g' := by
  rw [Op_fault] at h
  by_cases hc : a1 < 0
  · rw [if_pos hc] at h
    cases h
    exact (FR.rf _ _)
  · rw [if_neg hc] at h
    by_cases hc : a1 ≤ 1
    · rw [if_pos hc] at h
      by_cases hc : ¬ a1 = 0
      · rw [if_pos hc] at h
        obtain ⟨q1, hq, h⟩ := Option.bind_eq_some_iff.mp h
        refine FR.tr (FR.rf _ _) (FR.tr (FR.cl (fr_Pg_firstFault g q1.1 q1.2 hq) (by decide)) ?_)
        cases h
        exact (FR.rf _ _)
      · rw [if_neg hc] at h
        obtain ⟨q2, hq, h⟩ := Option.bind_eq_some_iff.mp h
        refine FR.tr (FR.rf _ _) (FR.tr (FR.cl (fr_Pr_firstFault g q2.1 q2.2 hq) (by decide)) ?_)
        cases h
        exact (FR.rf _ _)
    · rw [if_neg hc] at h
      cases h
      exact (FR.rf _ _)
set_option maxRecDepth 100000 in
theorem fr_Md_here (a1 : Int) (g : Gx) (r : Int) (g' : Gx) (h : Md_here a1 g = some (r, g')) : FR [] g g' := by
  rw [Md_here] at h
  by_cases hc : 0 ≤ a1 ∧ a1 < 2
  · rw [if_pos hc] at h
    by_cases hc : (g 98 a1.toNat) ≤ (g 92 8)
    · rw [if_pos hc] at h
      cases h
      exact (FR.rf _ _)
    · rw [if_neg hc] at h
      by_cases hc : 0 ≤ (wr ((wr (160 * a1)) + (g 92 8))) ∧ (wr ((wr (160 * a1)) + (g 92 8))) < 240
      · rw [if_pos hc] at h
        cases h
        exact (FR.rf _ _)
      · rw [if_neg hc] at h; cases h
  · rw [if_neg hc] at h; cases h
set_option maxRecDepth 100000 in
theorem fr_Md_act (a1 a2 a3 a4 : Int) (g : Gx) (g' : Gx) (h : Md_act a1 a2 a3 a4 g = some g') : FR [99, 100, 101, 102, 6897] g g' := by
  rw [Md_act] at h
  by_cases hc : 0 ≤ (g 92 9) ∧ (g 92 9) < 170
  · rw [if_pos hc] at h
    by_cases hc : 0 ≤ (g 92 9) ∧ (g 92 9) < 170
    · rw [if_pos hc] at h
      by_cases hc : 0 ≤ (g 92 9) ∧ (g 92 9) < 170
      · rw [if_pos hc] at h
        by_cases hc : 0 ≤ (g 92 9) ∧ (g 92 9) < 170
        · rw [if_pos hc] at h
          cases h
          exact (FR.go (FR.gs (FR.gs (FR.gs (FR.gs (FR.rf _ _) (by decide)) (by decide)) (by decide)) (by decide)) ⟨rfl, by decide⟩)
        · rw [if_neg hc] at h; cases h
      · rw [if_neg hc] at h; cases h
    · rw [if_neg hc] at h; cases h
  · rw [if_neg hc] at h; cases h
set_option maxRecDepth 100000 in
theorem fr_Md_opens (a1 a2 a3 a4 : Int) (g : Gx) (r : Int) (g' : Gx) (h : Md_opens a1 a2 a3 a4 g = some (r, g')) : FR [99, 100, 101, 102, 104, 105, 6896, 6897, 6908] g g' := by
  rw [Md_opens] at h
  obtain ⟨q1, hq, h⟩ := Option.bind_eq_some_iff.mp h
  refine FR.tr (FR.rf _ _) (FR.tr (FR.cl (fr_Md_here 0 g q1.1 q1.2 hq) (by decide)) ?_)
  by_cases hc : ¬ q1.1 = 40
  · rw [if_pos hc] at h
    cases h
    exact (FR.rf _ _)
  · rw [if_neg hc] at h
    by_cases hc : ¬ (q1.2 92 20) = 4
    · rw [if_pos hc] at h
      by_cases hc : 0 ≤ (q1.2 92 20) ∧ (q1.2 92 20) < 4
      · rw [if_pos hc] at h
        obtain ⟨g2, hq, h⟩ := Option.bind_eq_some_iff.mp h
        refine FR.tr (FR.go (FR.gs (FR.go (FR.rf _ _) ⟨rfl, by decide⟩) (by decide)) ⟨rfl, by decide⟩) (FR.tr (FR.cl (fr_Md_act a1 a2 a3 a4 (gset (gset (gset q1.2 92 8 (wr ((q1.2 92 8) + 1))) 105 ((q1.2 92 20).toNat) (q1.2 92 9)) 92 20 (wr ((q1.2 92 20) + 1))) g2 hq) (by decide)) ?_)
        by_cases hc : 0 ≤ (wr (4 * (wr ((g2 92 9) - 1)))) ∧ (wr (4 * (wr ((g2 92 9) - 1)))) < 680
        · rw [if_pos hc] at h
          cases h
          exact (FR.gs (FR.rf _ _) (by decide))
        · rw [if_neg hc] at h; cases h
      · rw [if_neg hc] at h; cases h
    · rw [if_neg hc] at h
      cases h
      exact (FR.rf _ _)
set_option maxRecDepth 100000 in
theorem fr_Md_isTalker (a1 : Int) (g : Gx) (r : Int) (g' : Gx) (h : Md_isTalker a1 g = some (r, g')) : FR [] g g' := by
  rw [Md_isTalker] at h
  obtain ⟨q1, hq, h⟩ := Option.bind_eq_some_iff.mp h
  refine FR.tr (FR.rf _ _) (FR.tr (FR.cl (fr_Md_here a1 g q1.1 q1.2 hq) (by decide)) ?_)
  cases h
  exact (FR.rf _ _)
set_option maxRecDepth 100000 in
theorem fr_Md_readsItem (g : Gx) (r : Int) (g' : Gx) (h : Md_readsItem g = some (r, g')) : FR [99, 100, 101, 102, 104, 105, 6896, 6897, 6904, 6905, 6906, 6908] g g' := by
  rw [Md_readsItem] at h
  obtain ⟨q1, hq, h⟩ := Option.bind_eq_some_iff.mp h
  refine FR.tr (FR.rf _ _) (FR.tr (FR.cl (fr_Md_here 0 g q1.1 q1.2 hq) (by decide)) ?_)
  by_cases hc : ¬ q1.1 = 45
  · rw [if_pos hc] at h
    by_cases hc : (Md_in q1.1 50 52) = 0
    · rw [if_pos hc] at h
      obtain ⟨q2, hq, h⟩ := Option.bind_eq_some_iff.mp h
      refine FR.tr (FR.rf _ _) (FR.tr (FR.cl (fr_Md_isTalker 0 q1.2 q2.1 q2.2 hq) (by decide)) ?_)
      by_cases hc : ¬ q2.1 = 0
      · rw [if_pos hc] at h
        obtain ⟨q3, hq, h⟩ := Option.bind_eq_some_iff.mp h
        refine FR.tr (FR.go (FR.rf _ _) ⟨rfl, by decide⟩) (FR.tr (FR.cl (fr_Md_here 0 (gset q2.2 92 8 (wr ((q2.2 92 8) + 1))) q3.1 q3.2 hq) (by decide)) ?_)
        by_cases hc : ¬ q3.1 = 40
        · rw [if_pos hc] at h
          obtain ⟨q4, hq, h⟩ := Option.bind_eq_some_iff.mp h
          refine FR.tr (FR.rf _ _) (FR.tr (FR.cl (fr_Md_here 0 q3.2 q4.1 q4.2 hq) (by decide)) ?_)
          by_cases hc : q4.1 = 62
          · rw [if_pos hc] at h
            obtain ⟨q5, hq, h⟩ := Option.bind_eq_some_iff.mp h
            refine FR.tr (FR.go (FR.rf _ _) ⟨rfl, by decide⟩) (FR.tr (FR.cl (fr_Md_isTalker 0 (gset q4.2 92 8 (wr ((q4.2 92 8) + 1))) q5.1 q5.2 hq) (by decide)) ?_)
            by_cases hc : q5.1 = 0
            · rw [if_pos hc] at h
              cases h
              exact (FR.rf _ _)
            · rw [if_neg hc] at h
              obtain ⟨q6, hq, h⟩ := Option.bind_eq_some_iff.mp h
              refine FR.tr (FR.rf _ _) (FR.tr (FR.cl (fr_Md_here 0 q5.2 q6.1 q6.2 hq) (by decide)) ?_)
              by_cases hc : ¬ q6.1 = q1.1
              · rw [if_pos hc] at h
                obtain ⟨q7, hq, h⟩ := Option.bind_eq_some_iff.mp h
                refine FR.tr (FR.rf _ _) (FR.tr (FR.cl (fr_Md_here 0 q6.2 q7.1 q7.2 hq) (by decide)) ?_)
                obtain ⟨q8, hq, h⟩ := Option.bind_eq_some_iff.mp h
                refine FR.tr (FR.go (FR.rf _ _) ⟨rfl, by decide⟩) (FR.tr (FR.cl (fr_Md_here 0 (gset q7.2 92 8 (wr ((q7.2 92 8) + 1))) q8.1 q8.2 hq) (by decide)) ?_)
                by_cases hc : ¬ (Md_in q8.1 97 122) = 0
                · rw [if_pos hc] at h
                  obtain ⟨q9, hq, h⟩ := Option.bind_eq_some_iff.mp h
                  refine FR.tr (FR.rf _ _) (FR.tr (FR.cl (fr_Md_here 0 q8.2 q9.1 q9.2 hq) (by decide)) ?_)
                  obtain ⟨g10, hq, h⟩ := Option.bind_eq_some_iff.mp h
                  refine FR.tr (FR.rf _ _) (FR.tr (FR.cl (fr_Md_act 0 (wr (q1.1 - 65)) (wr (q7.1 - 65)) (wr (q9.1 - 97)) q9.2 g10 hq) (by decide)) ?_)
                  cases h
                  exact (FR.go (FR.go (FR.go (FR.rf _ _) ⟨rfl, by decide⟩) ⟨rfl, by decide⟩) ⟨rfl, by decide⟩)
                · rw [if_neg hc] at h
                  cases h
                  exact (FR.rf _ _)
              · rw [if_neg hc] at h
                cases h
                exact (FR.rf _ _)
          · rw [if_neg hc] at h
            cases h
            exact (FR.rf _ _)
        · rw [if_neg hc] at h
          obtain ⟨q11, hq, h⟩ := Option.bind_eq_some_iff.mp h
          refine FR.tr (FR.rf _ _) (FR.tr (FR.cl (fr_Md_opens 1 (wr (q1.1 - 65)) 1 (q3.2 92 16) q3.2 q11.1 q11.2 hq) (by decide)) ?_)
          by_cases hc : ¬ q11.1 = 0
          · rw [if_pos hc] at h
            cases h
            exact (FR.go (FR.go (FR.rf _ _) ⟨rfl, by decide⟩) ⟨rfl, by decide⟩)
          · rw [if_neg hc] at h
            cases h
            exact (FR.rf _ _)
      · rw [if_neg hc] at h
        cases h
        exact (FR.rf _ _)
    · rw [if_neg hc] at h
      obtain ⟨q12, hq, h⟩ := Option.bind_eq_some_iff.mp h
      refine FR.tr (FR.go (FR.rf _ _) ⟨rfl, by decide⟩) (FR.tr (FR.cl (fr_Md_opens 3 0 (wr (q1.1 - 48)) 0 (gset q1.2 92 8 (wr ((q1.2 92 8) + 1))) q12.1 q12.2 hq) (by decide)) ?_)
      by_cases hc : q12.1 = 0 ∨ q12.1 = 1
      · rw [if_pos hc] at h; cases h
        exact (FR.rf _ _)
      · rw [if_neg hc] at h; cases h
  · rw [if_neg hc] at h
    cases h
    exact (FR.go (FR.rf _ _) ⟨rfl, by decide⟩)
set_option maxRecDepth 100000 in
theorem fr_Md_wayMore (g : Gx) (r : Int) (g' : Gx) (h : Md_wayMore g = some (r, g')) : FR [99, 100, 101, 102, 104, 6896, 6897] g g' := by
  rw [Md_wayMore] at h
  by_cases hc : (g 92 20) = 0
  · rw [if_pos hc] at h
    cases h
    exact (FR.rf _ _)
  · rw [if_neg hc] at h
    by_cases hc : 0 ≤ (wr ((g 92 20) - 1)) ∧ (wr ((g 92 20) - 1)) < 4
    · rw [if_pos hc] at h
      by_cases hc : 0 ≤ (g 105 (wr ((g 92 20) - 1)).toNat) ∧ (g 105 (wr ((g 92 20) - 1)).toNat) < 170
      · rw [if_pos hc] at h
        by_cases hc : ¬ (g 99 (g 105 (wr ((g 92 20) - 1)).toNat).toNat) = 1
        · rw [if_pos hc] at h
          cases h
          exact (FR.rf _ _)
        · rw [if_neg hc] at h
          by_cases hc : 0 ≤ (wr ((g 92 20) - 1)) ∧ (wr ((g 92 20) - 1)) < 4
          · rw [if_pos hc] at h
            by_cases hc : 0 ≤ (g 105 (wr ((g 92 20) - 1)).toNat) ∧ (g 105 (wr ((g 92 20) - 1)).toNat) < 170
            · rw [if_pos hc] at h
              by_cases hc : ¬ (g 101 (g 105 (wr ((g 92 20) - 1)).toNat).toNat) = 4
              · rw [if_pos hc] at h
                by_cases hc : 0 ≤ (wr ((g 92 20) - 1)) ∧ (wr ((g 92 20) - 1)) < 4
                · rw [if_pos hc] at h
                  obtain ⟨g1, hq, h⟩ := Option.bind_eq_some_iff.mp h
                  refine FR.tr (FR.rf _ _) (FR.tr (FR.cl (fr_Md_act 2 0 0 (g 105 (wr ((g 92 20) - 1)).toNat) g g1 hq) (by decide)) ?_)
                  by_cases hc : 0 ≤ (g 105 (wr ((g 92 20) - 1)).toNat) ∧ (g 105 (wr ((g 92 20) - 1)).toNat) < 170
                  · rw [if_pos hc] at h
                    by_cases hc : 0 ≤ (wr ((wr (4 * (g 105 (wr ((g 92 20) - 1)).toNat))) + (g1 101 (g 105 (wr ((g 92 20) - 1)).toNat).toNat))) ∧ (wr ((wr (4 * (g 105 (wr ((g 92 20) - 1)).toNat))) + (g1 101 (g 105 (wr ((g 92 20) - 1)).toNat).toNat))) < 680
                    · rw [if_pos hc] at h
                      by_cases hc : 0 ≤ (g 105 (wr ((g 92 20) - 1)).toNat) ∧ (g 105 (wr ((g 92 20) - 1)).toNat) < 170
                      · rw [if_pos hc] at h
                        by_cases hc : 0 ≤ (g 105 (wr ((g 92 20) - 1)).toNat) ∧ (g 105 (wr ((g 92 20) - 1)).toNat) < 170
                        · rw [if_pos hc] at h
                          cases h
                          exact (FR.go (FR.gs (FR.gs (FR.rf _ _) (by decide)) (by decide)) ⟨rfl, by decide⟩)
                        · rw [if_neg hc] at h; cases h
                      · rw [if_neg hc] at h; cases h
                    · rw [if_neg hc] at h; cases h
                  · rw [if_neg hc] at h; cases h
                · rw [if_neg hc] at h; cases h
              · rw [if_neg hc] at h
                cases h
                exact (FR.rf _ _)
            · rw [if_neg hc] at h; cases h
          · rw [if_neg hc] at h; cases h
      · rw [if_neg hc] at h; cases h
    · rw [if_neg hc] at h; cases h
set_option maxRecDepth 100000 in
theorem fr_Md_closes (g : Gx) (r : Int) (g' : Gx) (h : Md_closes g = some (r, g')) : FR [99, 100, 101, 102, 103, 6896, 6897, 6908] g g' := by
  rw [Md_closes] at h
  by_cases hc : ¬ (g 92 20) = 0
  · rw [if_pos hc] at h
    by_cases hc : 0 ≤ (wr ((g 92 20) - 1)) ∧ (wr ((g 92 20) - 1)) < 4
    · rw [if_pos hc] at h
      by_cases hc : 0 ≤ (g 105 (wr ((g 92 20) - 1)).toNat) ∧ (g 105 (wr ((g 92 20) - 1)).toNat) < 170
      · rw [if_pos hc] at h
        by_cases hc : ¬ (g 99 (g 105 (wr ((g 92 20) - 1)).toNat).toNat) = 1
        · rw [if_pos hc] at h
          by_cases hc : 0 ≤ (g 105 (wr ((g 92 20) - 1)).toNat) ∧ (g 105 (wr ((g 92 20) - 1)).toNat) < 170
          · rw [if_pos hc] at h
            by_cases hc : ¬ (g 99 (g 105 (wr ((g 92 20) - 1)).toNat).toNat) = 3
            · rw [if_pos hc] at h
              by_cases hc : 0 ≤ (g 105 (wr ((g 92 20) - 1)).toNat) ∧ (g 105 (wr ((g 92 20) - 1)).toNat) < 170
              · rw [if_pos hc] at h
                cases h
                exact (FR.go (FR.go (FR.gs (FR.rf _ _) (by decide)) ⟨rfl, by decide⟩) ⟨rfl, by decide⟩)
              · rw [if_neg hc] at h; cases h
            · rw [if_neg hc] at h
              obtain ⟨g1, hq, h⟩ := Option.bind_eq_some_iff.mp h
              refine FR.tr (FR.rf _ _) (FR.tr (FR.cl (fr_Md_act 4 0 0 (g 105 (wr ((g 92 20) - 1)).toNat) g g1 hq) (by decide)) ?_)
              by_cases hc : 0 ≤ (g 105 (wr ((g 92 20) - 1)).toNat) ∧ (g 105 (wr ((g 92 20) - 1)).toNat) < 170
              · rw [if_pos hc] at h
                cases h
                exact (FR.go (FR.go (FR.gs (FR.rf _ _) (by decide)) ⟨rfl, by decide⟩) ⟨rfl, by decide⟩)
              · rw [if_neg hc] at h; cases h
          · rw [if_neg hc] at h; cases h
        · rw [if_neg hc] at h
          by_cases hc : 0 ≤ (g 105 (wr ((g 92 20) - 1)).toNat) ∧ (g 105 (wr ((g 92 20) - 1)).toNat) < 170
          · rw [if_pos hc] at h
            by_cases hc : ¬ (g 101 (g 105 (wr ((g 92 20) - 1)).toNat).toNat) = 1
            · rw [if_pos hc] at h
              by_cases hc : 0 ≤ (g 105 (wr ((g 92 20) - 1)).toNat) ∧ (g 105 (wr ((g 92 20) - 1)).toNat) < 170
              · rw [if_pos hc] at h
                by_cases hc : ¬ (g 99 (g 105 (wr ((g 92 20) - 1)).toNat).toNat) = 3
                · rw [if_pos hc] at h
                  by_cases hc : 0 ≤ (g 105 (wr ((g 92 20) - 1)).toNat) ∧ (g 105 (wr ((g 92 20) - 1)).toNat) < 170
                  · rw [if_pos hc] at h
                    cases h
                    exact (FR.go (FR.go (FR.gs (FR.rf _ _) (by decide)) ⟨rfl, by decide⟩) ⟨rfl, by decide⟩)
                  · rw [if_neg hc] at h; cases h
                · rw [if_neg hc] at h
                  obtain ⟨g2, hq, h⟩ := Option.bind_eq_some_iff.mp h
                  refine FR.tr (FR.rf _ _) (FR.tr (FR.cl (fr_Md_act 4 0 0 (g 105 (wr ((g 92 20) - 1)).toNat) g g2 hq) (by decide)) ?_)
                  by_cases hc : 0 ≤ (g 105 (wr ((g 92 20) - 1)).toNat) ∧ (g 105 (wr ((g 92 20) - 1)).toNat) < 170
                  · rw [if_pos hc] at h
                    cases h
                    exact (FR.go (FR.go (FR.gs (FR.rf _ _) (by decide)) ⟨rfl, by decide⟩) ⟨rfl, by decide⟩)
                  · rw [if_neg hc] at h; cases h
              · rw [if_neg hc] at h; cases h
            · rw [if_neg hc] at h
              cases h
              exact (FR.rf _ _)
          · rw [if_neg hc] at h; cases h
      · rw [if_neg hc] at h; cases h
    · rw [if_neg hc] at h; cases h
  · rw [if_neg hc] at h
    cases h
    exact (FR.rf _ _)
set_option maxRecDepth 100000 in
theorem fr_Md_reads_l32 (K32_156 : Gx → Option (Int × Gx)) (K32_161 : Gx → Option (Int × Gx)) (W : List Nat) (hW : ∀ c ∈ ([99, 100, 101, 102, 103, 104, 105, 6896, 6897, 6904, 6905, 6906, 6908] : List Nat), c ∈ W) (hK32_156 : ∀ (g : Gx) (r : Int) (g' : Gx), K32_156 g = some (r, g') → FR W g g') (hK32_161 : ∀ (g : Gx) (r : Int) (g' : Gx), K32_161 g = some (r, g') → FR W g g') : ∀ (n32 : Nat) (v1 : Int) (g : Gx) (r : Int) (g' : Gx), Md_reads_l32 K32_156 K32_161 n32 v1 g = some (r, g') → FR W g g' := by
  intro n32
  induction n32 with
  | zero => intro v1 g r g' h; cases h
  | succ n32 ih32 =>
    intro v1 g r g' h
    rw [Md_reads_l32] at h
    by_cases hc : ¬ v1 = 0
    · rw [if_pos hc] at h
      by_cases hc : v1 = 0
      · rw [if_pos hc] at h
        obtain ⟨q1, hq, h⟩ := Option.bind_eq_some_iff.mp h
        refine FR.tr (FR.rf _ _) (FR.tr (FR.cl (fr_Md_here 0 g q1.1 q1.2 hq) (sub_tr (by decide) hW)) ?_)
        by_cases hc : ¬ q1.1 = 44
        · rw [if_pos hc] at h
          obtain ⟨q2, hq, h⟩ := Option.bind_eq_some_iff.mp h
          refine FR.tr (FR.rf _ _) (FR.tr (FR.cl (fr_Md_here 0 q1.2 q2.1 q2.2 hq) (sub_tr (by decide) hW)) ?_)
          by_cases hc : ¬ q2.1 = 124
          · rw [if_pos hc] at h
            obtain ⟨q3, hq, h⟩ := Option.bind_eq_some_iff.mp h
            refine FR.tr (FR.rf _ _) (FR.tr (FR.cl (fr_Md_here 0 q2.2 q3.1 q3.2 hq) (sub_tr (by decide) hW)) ?_)
            by_cases hc : ¬ q3.1 = 41
            · rw [if_pos hc] at h
              exact FR.tr (FR.rf _ _) (hK32_156 q3.2 r g' h)
            · rw [if_neg hc] at h
              obtain ⟨q4, hq, h⟩ := Option.bind_eq_some_iff.mp h
              refine FR.tr (FR.rf _ _) (FR.tr (FR.cl (fr_Md_closes q3.2 q4.1 q4.2 hq) (sub_tr (by decide) hW)) ?_)
              by_cases hc : ¬ q4.1 = 0
              · rw [if_pos hc] at h
                exact FR.tr (FR.rf _ _) (ih32 v1 q4.2 r g' h)
              · rw [if_neg hc] at h
                exact FR.tr (FR.rf _ _) (hK32_156 q4.2 r g' h)
          · rw [if_neg hc] at h
            obtain ⟨q5, hq, h⟩ := Option.bind_eq_some_iff.mp h
            refine FR.tr (FR.rf _ _) (FR.tr (FR.cl (fr_Md_wayMore q2.2 q5.1 q5.2 hq) (sub_tr (by decide) hW)) ?_)
            by_cases hc : ¬ q5.1 = 0
            · rw [if_pos hc] at h
              exact FR.tr (FR.rf _ _) (ih32 1 q5.2 r g' h)
            · rw [if_neg hc] at h
              cases h
              exact (FR.rf _ _)
        · rw [if_neg hc] at h
          exact FR.tr (FR.go (FR.rf _ _) ⟨rfl, hW _ (by decide)⟩) (ih32 1 (gset q1.2 92 8 (wr ((q1.2 92 8) + 1))) r g' h)
      · rw [if_neg hc] at h
        obtain ⟨q6, hq, h⟩ := Option.bind_eq_some_iff.mp h
        refine FR.tr (FR.rf _ _) (FR.tr (FR.cl (fr_Md_readsItem g q6.1 q6.2 hq) (sub_tr (by decide) hW)) ?_)
        by_cases hc : ¬ q6.1 = 0
        · rw [if_pos hc] at h
          by_cases hc : (q6.2 92 20) ≤ (g 92 20)
          · rw [if_pos hc] at h
            exact FR.tr (FR.rf _ _) (ih32 0 q6.2 r g' h)
          · rw [if_neg hc] at h
            exact FR.tr (FR.rf _ _) (ih32 1 q6.2 r g' h)
        · rw [if_neg hc] at h
          cases h
          exact (FR.rf _ _)
    · rw [if_neg hc] at h
      by_cases hc : (g 98 0) ≤ (g 92 8)
      · rw [if_pos hc] at h
        exact FR.tr (FR.rf _ _) (hK32_161 g r g' h)
      · rw [if_neg hc] at h
        by_cases hc : v1 = 0
        · rw [if_pos hc] at h
          obtain ⟨q7, hq, h⟩ := Option.bind_eq_some_iff.mp h
          refine FR.tr (FR.rf _ _) (FR.tr (FR.cl (fr_Md_here 0 g q7.1 q7.2 hq) (sub_tr (by decide) hW)) ?_)
          by_cases hc : ¬ q7.1 = 44
          · rw [if_pos hc] at h
            obtain ⟨q8, hq, h⟩ := Option.bind_eq_some_iff.mp h
            refine FR.tr (FR.rf _ _) (FR.tr (FR.cl (fr_Md_here 0 q7.2 q8.1 q8.2 hq) (sub_tr (by decide) hW)) ?_)
            by_cases hc : ¬ q8.1 = 124
            · rw [if_pos hc] at h
              obtain ⟨q9, hq, h⟩ := Option.bind_eq_some_iff.mp h
              refine FR.tr (FR.rf _ _) (FR.tr (FR.cl (fr_Md_here 0 q8.2 q9.1 q9.2 hq) (sub_tr (by decide) hW)) ?_)
              by_cases hc : ¬ q9.1 = 41
              · rw [if_pos hc] at h
                exact FR.tr (FR.rf _ _) (hK32_156 q9.2 r g' h)
              · rw [if_neg hc] at h
                obtain ⟨q10, hq, h⟩ := Option.bind_eq_some_iff.mp h
                refine FR.tr (FR.rf _ _) (FR.tr (FR.cl (fr_Md_closes q9.2 q10.1 q10.2 hq) (sub_tr (by decide) hW)) ?_)
                by_cases hc : ¬ q10.1 = 0
                · rw [if_pos hc] at h
                  exact FR.tr (FR.rf _ _) (ih32 v1 q10.2 r g' h)
                · rw [if_neg hc] at h
                  exact FR.tr (FR.rf _ _) (hK32_156 q10.2 r g' h)
            · rw [if_neg hc] at h
              obtain ⟨q11, hq, h⟩ := Option.bind_eq_some_iff.mp h
              refine FR.tr (FR.rf _ _) (FR.tr (FR.cl (fr_Md_wayMore q8.2 q11.1 q11.2 hq) (sub_tr (by decide) hW)) ?_)
              by_cases hc : ¬ q11.1 = 0
              · rw [if_pos hc] at h
                exact FR.tr (FR.rf _ _) (ih32 1 q11.2 r g' h)
              · rw [if_neg hc] at h
                cases h
                exact (FR.rf _ _)
          · rw [if_neg hc] at h
            exact FR.tr (FR.go (FR.rf _ _) ⟨rfl, hW _ (by decide)⟩) (ih32 1 (gset q7.2 92 8 (wr ((q7.2 92 8) + 1))) r g' h)
        · rw [if_neg hc] at h
          obtain ⟨q12, hq, h⟩ := Option.bind_eq_some_iff.mp h
          refine FR.tr (FR.rf _ _) (FR.tr (FR.cl (fr_Md_readsItem g q12.1 q12.2 hq) (sub_tr (by decide) hW)) ?_)
          by_cases hc : ¬ q12.1 = 0
          · rw [if_pos hc] at h
            by_cases hc : (q12.2 92 20) ≤ (g 92 20)
            · rw [if_pos hc] at h
              exact FR.tr (FR.rf _ _) (ih32 0 q12.2 r g' h)
            · rw [if_neg hc] at h
              exact FR.tr (FR.rf _ _) (ih32 1 q12.2 r g' h)
          · rw [if_neg hc] at h
            cases h
            exact (FR.rf _ _)
set_option maxRecDepth 100000 in
theorem fr_Md_reads (g : Gx) (r : Int) (g' : Gx) (h : Md_reads g = some (r, g')) : FR [99, 100, 101, 102, 103, 104, 105, 6896, 6897, 6904, 6905, 6906, 6908] g g' := by
  rw [Md_reads] at h
  refine FR.tr (FR.go (FR.go (FR.go (FR.go (FR.go (FR.go (FR.rf _ _) ⟨rfl, by decide⟩) ⟨rfl, by decide⟩) ⟨rfl, by decide⟩) ⟨rfl, by decide⟩) ⟨rfl, by decide⟩) ⟨rfl, by decide⟩) (fr_Md_reads_l32 _ _ [99, 100, 101, 102, 103, 104, 105, 6896, 6897, 6904, 6905, 6906, 6908] (by decide) ?_ ?_ fu 1 (gset (gset (gset (gset (gset (gset g 92 8 0) 92 9 0) 92 16 0) 92 17 0) 92 18 0) 92 20 0) r g' h)
  · intro g13 r g' h
    cases h
    exact (FR.rf _ _)
  · intro g14 r g' h
    by_cases hc : ¬ (g14 92 20) = 0
    · rw [if_pos hc] at h
      cases h
      exact (FR.rf _ _)
    · rw [if_neg hc] at h
      cases h
      exact (FR.rf _ _)
set_option maxRecDepth 100000 in
theorem fr_Md_readsProgram_l17 (K17_251 : Gx → Option (Int × Gx)) (W : List Nat) (hW : ∀ c ∈ ([106, 107, 108, 109, 6896, 6909] : List Nat), c ∈ W) (hK17_251 : ∀ (g : Gx) (r : Int) (g' : Gx), K17_251 g = some (r, g') → FR W g g') : ∀ (n17 : Nat) (g : Gx) (r : Int) (g' : Gx), Md_readsProgram_l17 K17_251 n17 g = some (r, g') → FR W g g' := by
  intro n17
  induction n17 with
  | zero => intro g r g' h; cases h
  | succ n17 ih17 =>
    intro g r g' h
    rw [Md_readsProgram_l17] at h
    by_cases hc : (g 98 1) ≤ (g 92 8)
    · rw [if_pos hc] at h
      exact FR.tr (FR.rf _ _) (hK17_251 g r g' h)
    · rw [if_neg hc] at h
      obtain ⟨q1, hq, h⟩ := Option.bind_eq_some_iff.mp h
      refine FR.tr (FR.rf _ _) (FR.tr (FR.cl (fr_Md_here 1 g q1.1 q1.2 hq) (sub_tr (by decide) hW)) ?_)
      by_cases hc : ¬ q1.1 = 124
      · rw [if_pos hc] at h
        obtain ⟨q2, hq, h⟩ := Option.bind_eq_some_iff.mp h
        refine FR.tr (FR.rf _ _) (FR.tr (FR.cl (fr_Md_here 1 q1.2 q2.1 q2.2 hq) (sub_tr (by decide) hW)) ?_)
        by_cases hc : q2.1 = 33
        · rw [if_pos hc] at h
          obtain ⟨q3, hq, h⟩ := Option.bind_eq_some_iff.mp h
          refine FR.tr (FR.go (FR.rf _ _) ⟨rfl, hW _ (by decide)⟩) (FR.tr (FR.cl (fr_Md_isTalker 1 (gset q2.2 92 8 (wr ((q2.2 92 8) + 1))) q3.1 q3.2 hq) (sub_tr (by decide) hW)) ?_)
          by_cases hc : ¬ q3.1 = 0
          · rw [if_pos hc] at h
            by_cases hc : 0 ≤ (wr ((q3.2 92 21) - 1)) ∧ (wr ((q3.2 92 21) - 1)) < 8
            · rw [if_pos hc] at h
              by_cases hc : 0 ≤ (wr ((wr (30 * (wr ((q3.2 92 21) - 1)))) + (q3.2 106 (wr ((q3.2 92 21) - 1)).toNat))) ∧ (wr ((wr (30 * (wr ((q3.2 92 21) - 1)))) + (q3.2 106 (wr ((q3.2 92 21) - 1)).toNat))) < 240
              · rw [if_pos hc] at h
                obtain ⟨q4, hq, h⟩ := Option.bind_eq_some_iff.mp h
                refine FR.tr (FR.gs (FR.rf _ _) (hW _ (by decide))) (FR.tr (FR.cl (fr_Md_here 1 (gset q3.2 107 ((wr ((wr (30 * (wr ((q3.2 92 21) - 1)))) + (q3.2 106 (wr ((q3.2 92 21) - 1)).toNat))).toNat) q2.1) q4.1 q4.2 hq) (sub_tr (by decide) hW)) ?_)
                by_cases hc : 0 ≤ (wr ((wr (30 * (wr ((q3.2 92 21) - 1)))) + (q3.2 106 (wr ((q3.2 92 21) - 1)).toNat))) ∧ (wr ((wr (30 * (wr ((q3.2 92 21) - 1)))) + (q3.2 106 (wr ((q3.2 92 21) - 1)).toNat))) < 240
                · rw [if_pos hc] at h
                  obtain ⟨q5, hq, h⟩ := Option.bind_eq_some_iff.mp h
                  refine FR.tr (FR.go (FR.gs (FR.rf _ _) (hW _ (by decide))) ⟨rfl, hW _ (by decide)⟩) (FR.tr (FR.cl (fr_Md_here 1 (gset (gset q4.2 108 ((wr ((wr (30 * (wr ((q3.2 92 21) - 1)))) + (q3.2 106 (wr ((q3.2 92 21) - 1)).toNat))).toNat) (wr (q4.1 - 65))) 92 8 (wr ((q4.2 92 8) + 1))) q5.1 q5.2 hq) (sub_tr (by decide) hW)) ?_)
                  by_cases hc : ¬ (Md_in q5.1 97 122) = 0
                  · rw [if_pos hc] at h
                    obtain ⟨q6, hq, h⟩ := Option.bind_eq_some_iff.mp h
                    refine FR.tr (FR.rf _ _) (FR.tr (FR.cl (fr_Md_here 1 q5.2 q6.1 q6.2 hq) (sub_tr (by decide) hW)) ?_)
                    by_cases hc : 0 ≤ (wr ((wr (30 * (wr ((q3.2 92 21) - 1)))) + (q3.2 106 (wr ((q3.2 92 21) - 1)).toNat))) ∧ (wr ((wr (30 * (wr ((q3.2 92 21) - 1)))) + (q3.2 106 (wr ((q3.2 92 21) - 1)).toNat))) < 240
                    · rw [if_pos hc] at h
                      by_cases hc : 0 ≤ (wr ((q6.2 92 21) - 1)) ∧ (wr ((q6.2 92 21) - 1)) < 8
                      · rw [if_pos hc] at h
                        by_cases hc : 0 ≤ (wr ((q6.2 92 21) - 1)) ∧ (wr ((q6.2 92 21) - 1)) < 8
                        · rw [if_pos hc] at h
                          exact FR.tr (FR.go (FR.gs (FR.gs (FR.rf _ _) (hW _ (by decide))) (hW _ (by decide))) ⟨rfl, hW _ (by decide)⟩) (ih17 (gset (gset (gset q6.2 109 ((wr ((wr (30 * (wr ((q3.2 92 21) - 1)))) + (q3.2 106 (wr ((q3.2 92 21) - 1)).toNat))).toNat) (wr (q6.1 - 97))) 106 ((wr ((q6.2 92 21) - 1)).toNat) (wr ((q6.2 106 (wr ((q6.2 92 21) - 1)).toNat) + 1))) 92 8 (wr ((q6.2 92 8) + 1))) r g' h)
                        · rw [if_neg hc] at h; cases h
                      · rw [if_neg hc] at h; cases h
                    · rw [if_neg hc] at h; cases h
                  · rw [if_neg hc] at h
                    cases h
                    exact (FR.rf _ _)
                · rw [if_neg hc] at h; cases h
              · rw [if_neg hc] at h; cases h
            · rw [if_neg hc] at h; cases h
          · rw [if_neg hc] at h
            cases h
            exact (FR.rf _ _)
        · rw [if_neg hc] at h
          by_cases hc : q2.1 = 63
          · rw [if_pos hc] at h
            obtain ⟨q7, hq, h⟩ := Option.bind_eq_some_iff.mp h
            refine FR.tr (FR.go (FR.rf _ _) ⟨rfl, hW _ (by decide)⟩) (FR.tr (FR.cl (fr_Md_isTalker 1 (gset q2.2 92 8 (wr ((q2.2 92 8) + 1))) q7.1 q7.2 hq) (sub_tr (by decide) hW)) ?_)
            by_cases hc : ¬ q7.1 = 0
            · rw [if_pos hc] at h
              by_cases hc : 0 ≤ (wr ((q7.2 92 21) - 1)) ∧ (wr ((q7.2 92 21) - 1)) < 8
              · rw [if_pos hc] at h
                by_cases hc : 0 ≤ (wr ((wr (30 * (wr ((q7.2 92 21) - 1)))) + (q7.2 106 (wr ((q7.2 92 21) - 1)).toNat))) ∧ (wr ((wr (30 * (wr ((q7.2 92 21) - 1)))) + (q7.2 106 (wr ((q7.2 92 21) - 1)).toNat))) < 240
                · rw [if_pos hc] at h
                  obtain ⟨q8, hq, h⟩ := Option.bind_eq_some_iff.mp h
                  refine FR.tr (FR.gs (FR.rf _ _) (hW _ (by decide))) (FR.tr (FR.cl (fr_Md_here 1 (gset q7.2 107 ((wr ((wr (30 * (wr ((q7.2 92 21) - 1)))) + (q7.2 106 (wr ((q7.2 92 21) - 1)).toNat))).toNat) q2.1) q8.1 q8.2 hq) (sub_tr (by decide) hW)) ?_)
                  by_cases hc : 0 ≤ (wr ((wr (30 * (wr ((q7.2 92 21) - 1)))) + (q7.2 106 (wr ((q7.2 92 21) - 1)).toNat))) ∧ (wr ((wr (30 * (wr ((q7.2 92 21) - 1)))) + (q7.2 106 (wr ((q7.2 92 21) - 1)).toNat))) < 240
                  · rw [if_pos hc] at h
                    obtain ⟨q9, hq, h⟩ := Option.bind_eq_some_iff.mp h
                    refine FR.tr (FR.go (FR.gs (FR.rf _ _) (hW _ (by decide))) ⟨rfl, hW _ (by decide)⟩) (FR.tr (FR.cl (fr_Md_here 1 (gset (gset q8.2 108 ((wr ((wr (30 * (wr ((q7.2 92 21) - 1)))) + (q7.2 106 (wr ((q7.2 92 21) - 1)).toNat))).toNat) (wr (q8.1 - 65))) 92 8 (wr ((q8.2 92 8) + 1))) q9.1 q9.2 hq) (sub_tr (by decide) hW)) ?_)
                    by_cases hc : ¬ (Md_in q9.1 97 122) = 0
                    · rw [if_pos hc] at h
                      obtain ⟨q10, hq, h⟩ := Option.bind_eq_some_iff.mp h
                      refine FR.tr (FR.rf _ _) (FR.tr (FR.cl (fr_Md_here 1 q9.2 q10.1 q10.2 hq) (sub_tr (by decide) hW)) ?_)
                      by_cases hc : 0 ≤ (wr ((wr (30 * (wr ((q7.2 92 21) - 1)))) + (q7.2 106 (wr ((q7.2 92 21) - 1)).toNat))) ∧ (wr ((wr (30 * (wr ((q7.2 92 21) - 1)))) + (q7.2 106 (wr ((q7.2 92 21) - 1)).toNat))) < 240
                      · rw [if_pos hc] at h
                        by_cases hc : 0 ≤ (wr ((q10.2 92 21) - 1)) ∧ (wr ((q10.2 92 21) - 1)) < 8
                        · rw [if_pos hc] at h
                          by_cases hc : 0 ≤ (wr ((q10.2 92 21) - 1)) ∧ (wr ((q10.2 92 21) - 1)) < 8
                          · rw [if_pos hc] at h
                            exact FR.tr (FR.go (FR.gs (FR.gs (FR.rf _ _) (hW _ (by decide))) (hW _ (by decide))) ⟨rfl, hW _ (by decide)⟩) (ih17 (gset (gset (gset q10.2 109 ((wr ((wr (30 * (wr ((q7.2 92 21) - 1)))) + (q7.2 106 (wr ((q7.2 92 21) - 1)).toNat))).toNat) (wr (q10.1 - 97))) 106 ((wr ((q10.2 92 21) - 1)).toNat) (wr ((q10.2 106 (wr ((q10.2 92 21) - 1)).toNat) + 1))) 92 8 (wr ((q10.2 92 8) + 1))) r g' h)
                          · rw [if_neg hc] at h; cases h
                        · rw [if_neg hc] at h; cases h
                      · rw [if_neg hc] at h; cases h
                    · rw [if_neg hc] at h
                      cases h
                      exact (FR.rf _ _)
                  · rw [if_neg hc] at h; cases h
                · rw [if_neg hc] at h; cases h
              · rw [if_neg hc] at h; cases h
            · rw [if_neg hc] at h
              cases h
              exact (FR.rf _ _)
          · rw [if_neg hc] at h
            cases h
            exact (FR.rf _ _)
      · rw [if_neg hc] at h
        by_cases hc : ¬ (q1.2 92 21) = 8
        · rw [if_pos hc] at h
          by_cases hc : 0 ≤ (q1.2 92 21) ∧ (q1.2 92 21) < 8
          · rw [if_pos hc] at h
            exact FR.tr (FR.go (FR.go (FR.gs (FR.rf _ _) (hW _ (by decide))) ⟨rfl, hW _ (by decide)⟩) ⟨rfl, hW _ (by decide)⟩) (ih17 (gset (gset (gset q1.2 106 ((q1.2 92 21).toNat) 0) 92 21 (wr ((q1.2 92 21) + 1))) 92 8 (wr ((q1.2 92 8) + 1))) r g' h)
          · rw [if_neg hc] at h; cases h
        · rw [if_neg hc] at h
          cases h
          exact (FR.rf _ _)
set_option maxRecDepth 100000 in
theorem fr_Md_readsProgram (g : Gx) (r : Int) (g' : Gx) (h : Md_readsProgram g = some (r, g')) : FR [106, 107, 108, 109, 6896, 6909] g g' := by
  rw [Md_readsProgram] at h
  refine FR.tr (FR.gs (FR.go (FR.go (FR.rf _ _) ⟨rfl, by decide⟩) ⟨rfl, by decide⟩) (by decide)) (fr_Md_readsProgram_l17 _ [106, 107, 108, 109, 6896, 6909] (by decide) ?_ fu (gset (gset (gset g 92 8 0) 92 21 1) 106 0 0) r g' h)
  · intro g11 r g' h
    cases h
    exact (FR.rf _ _)
set_option maxRecDepth 100000 in
theorem fr_Md_fault (a1 : Int) (g : Gx) (r : Int) (g' : Gx) (h : Md_fault a1 g = some (r, g')) : FR [99, 100, 101, 102, 103, 104, 105, 106, 107, 108, 109, 6896, 6897, 6904, 6905, 6906, 6908, 6909] g g' := by
  rw [Md_fault] at h
  by_cases hc : (Md_in a1 0 1) = 0
  · rw [if_pos hc] at h
    cases h
    exact (FR.rf _ _)
  · rw [if_neg hc] at h
    by_cases hc : ¬ a1 = 0
    · rw [if_pos hc] at h
      obtain ⟨q1, hq, h⟩ := Option.bind_eq_some_iff.mp h
      refine FR.tr (FR.rf _ _) (FR.tr (FR.cl (fr_Md_readsProgram g q1.1 q1.2 hq) (by decide)) ?_)
      cases h
      exact (FR.rf _ _)
    · rw [if_neg hc] at h
      obtain ⟨q2, hq, h⟩ := Option.bind_eq_some_iff.mp h
      refine FR.tr (FR.rf _ _) (FR.tr (FR.cl (fr_Md_reads g q2.1 q2.2 hq) (by decide)) ?_)
      cases h
      exact (FR.rf _ _)
set_option maxRecDepth 100000 in
theorem fr_Op_plan (a1 : Int) (g : Gx) (r : Int) (g' : Gx) (h : Op_plan a1 g = some (r, g')) : FR [9, 11, 13, 15, 17, 19, 30, 32, 1458, 1459, 1460, 2796, 2797, 2798, 2799, 2800, 2801] g g' := by
  rw [Op_plan] at h
  by_cases hc : a1 < 0
  · rw [if_pos hc] at h
    cases h
    exact (FR.rf _ _)
  · rw [if_neg hc] at h
    by_cases hc : a1 ≤ 2
    · rw [if_pos hc] at h
      obtain ⟨q1, hq, h⟩ := Option.bind_eq_some_iff.mp h
      refine FR.tr (FR.rf _ _) (FR.tr (FR.cl (fr_Pr_firstFault g q1.1 q1.2 hq) (by decide)) ?_)
      by_cases hc : q1.1 = (-1)
      · rw [if_pos hc] at h
        by_cases hc : ¬ a1 = 0
        · rw [if_pos hc] at h
          by_cases hc : ¬ a1 = 1
          · rw [if_pos hc] at h
            cases h
            exact (FR.rf _ _)
          · rw [if_neg hc] at h
            cases h
            exact (FR.rf _ _)
        · rw [if_neg hc] at h
          cases h
          exact (FR.rf _ _)
      · rw [if_neg hc] at h
        cases h
        exact (FR.rf _ _)
    · rw [if_neg hc] at h
      cases h
      exact (FR.rf _ _)
set_option maxRecDepth 100000 in
theorem fr_Md_plan (a1 : Int) (g : Gx) (r : Int) (g' : Gx) (h : Md_plan a1 g = some (r, g')) : FR [99, 100, 101, 102, 103, 104, 105, 6896, 6897, 6904, 6905, 6906, 6908] g g' := by
  rw [Md_plan] at h
  by_cases hc : ¬ (Md_in a1 0 2) = 0
  · rw [if_pos hc] at h
    obtain ⟨q1, hq, h⟩ := Option.bind_eq_some_iff.mp h
    refine FR.tr (FR.rf _ _) (FR.tr (FR.cl (fr_Md_reads g q1.1 q1.2 hq) (by decide)) ?_)
    by_cases hc : q1.1 = (-1)
    · rw [if_pos hc] at h
      by_cases hc : ¬ a1 = 0
      · rw [if_pos hc] at h
        by_cases hc : ¬ a1 = 1
        · rw [if_pos hc] at h
          cases h
          exact (FR.rf _ _)
        · rw [if_neg hc] at h
          cases h
          exact (FR.rf _ _)
      · rw [if_neg hc] at h
        cases h
        exact (FR.rf _ _)
    · rw [if_neg hc] at h
      cases h
      exact (FR.rf _ _)
  · rw [if_neg hc] at h
    cases h
    exact (FR.rf _ _)
set_option maxRecDepth 100000 in
theorem fr_Op_tell (a1 : Int) (g : Gx) (r : Int) (g' : Gx) (h : Op_tell a1 g = (r, g')) : FR [1011] g g' := by
  rw [Op_tell] at h
  by_cases hc : a1 < 0
  · rw [if_pos hc] at h
    cases h
    exact (FR.rf _ _)
  · rw [if_neg hc] at h
    by_cases hc : a1 ≤ 1073741823
    · rw [if_pos hc] at h
      cases h
      exact (FR.go (FR.rf _ _) ⟨rfl, by decide⟩)
    · rw [if_neg hc] at h
      cases h
      exact (FR.rf _ _)
set_option maxRecDepth 100000 in
theorem fr_Md_tell (a1 : Int) (g : Gx) (r : Int) (g' : Gx) (h : Md_tell a1 g = (r, g')) : FR [6895] g g' := by
  rw [Md_tell] at h
  by_cases hc : ¬ (Md_in a1 0 1073741823) = 0
  · rw [if_pos hc] at h
    cases h
    exact (FR.go (FR.rf _ _) ⟨rfl, by decide⟩)
  · rw [if_neg hc] at h
    cases h
    exact (FR.rf _ _)
set_option maxRecDepth 100000 in
theorem fr_St_beginItems (a1 : Int) (g : Gx) (g' : Gx) (h : St_beginItems a1 g = g') : FR [21, 23] g g' := by
  rw [St_beginItems] at h
  subst h
  exact (FR.rs (FR.rs (FR.rf _ _) (by decide)) (by decide))
set_option maxRecDepth 100000 in
theorem fr_St_endWay (a1 : Int) (g : Gx) (g' : Gx) (h : St_endWay a1 g = g') : FR [21, 23, 25, 27] g g' := by
  rw [St_endWay] at h
  by_cases hc : (rat g 23 5 a1) ≤ (rat g 27 5 a1)
  · rw [if_pos hc] at h
    obtain ⟨g1, hq, h⟩ := lett_inv h
    refine FR.tr (FR.rs (FR.rf _ _) (by decide)) (FR.tr (FR.cl (fr_St_beginItems a1 (rset g 25 5 a1 (St_upTo 31 (wr ((rat g 25 5 a1) + (rat g 21 5 a1))))) g1 hq.symm) (by decide)) ?_)
    subst h
    exact (FR.rf _ _)
  · rw [if_neg hc] at h
    obtain ⟨g2, hq, h⟩ := lett_inv h
    refine FR.tr (FR.rs (FR.rs (FR.rf _ _) (by decide)) (by decide)) (FR.tr (FR.cl (fr_St_beginItems a1 (rset (rset g 25 5 a1 (St_upTo 31 (wr ((rat g 25 5 a1) + (rat g 21 5 a1))))) 27 5 a1 (rat g 23 5 a1)) g2 hq.symm) (by decide)) ?_)
    subst h
    exact (FR.rf _ _)
set_option maxRecDepth 100000 in
theorem fr_St_addItem (a1 a2 a3 : Int) (g : Gx) (g' : Gx) (h : St_addItem a1 a2 a3 g = g') : FR [21, 23] g g' := by
  rw [St_addItem] at h
  subst h
  exact (FR.rs (FR.rs (FR.rf _ _) (by decide)) (by decide))
set_option maxRecDepth 100000 in
theorem fr_St_isTooMuch_l182 (c1 : Int) (c2 : Int) (c3 : Int) (K182_226 : Gx → Option (Int × Gx)) (W : List Nat) (hW : ∀ c ∈ ([21, 23] : List Nat), c ∈ W) (hK182_226 : ∀ (g : Gx) (r : Int) (g' : Gx), K182_226 g = some (r, g') → FR W g g') : ∀ (n182 : Nat) (v5 : Int) (g : Gx) (r : Int) (g' : Gx), St_isTooMuch_l182 c1 c2 c3 K182_226 n182 v5 g = some (r, g') → FR W g g' := by
  intro n182
  induction n182 with
  | zero => intro v5 g r g' h; cases h
  | succ n182 ih182 =>
    intro v5 g r g' h
    rw [St_isTooMuch_l182] at h
    by_cases hc : (rat g 11 160 c3) ≤ v5
    · rw [if_pos hc] at h
      exact FR.tr (FR.rf _ _) (hK182_226 g r g' h)
    · rw [if_neg hc] at h
      obtain ⟨g3, hq, h⟩ := lett_inv h
      refine FR.tr (FR.rf _ _) (FR.tr (FR.cl (fr_St_addItem c2 (rat g 21 5 (wr (c2 + 1))) (rat g 23 5 (wr (c2 + 1))) g g3 hq.symm) (sub_tr (by decide) hW)) ?_)
      exact FR.tr (FR.rf _ _) (ih182 (wr (v5 + 1)) g3 r g' h)
set_option maxRecDepth 100000 in
theorem fr_St_isTooMuch_l9 (c1 : Int) (K9_232 : Gx → Option (Int × Gx)) (W : List Nat) (hW : ∀ c ∈ ([21, 23, 25, 27] : List Nat), c ∈ W) (hK9_232 : ∀ (g : Gx) (r : Int) (g' : Gx), K9_232 g = some (r, g') → FR W g g') : ∀ (n9 : Nat) (v2 v3 : Int) (g : Gx) (r : Int) (g' : Gx), St_isTooMuch_l9 c1 K9_232 n9 v2 v3 g = some (r, g') → FR W g g' := by
  intro n9
  induction n9 with
  | zero => intro v2 v3 g r g' h; cases h
  | succ n9 ih9 =>
    intro v2 v3 g r g' h
    rw [St_isTooMuch_l9] at h
    by_cases hc : (g 7 10) ≤ v3
    · rw [if_pos hc] at h
      exact FR.tr (FR.rf _ _) (hK9_232 g r g' h)
    · rw [if_neg hc] at h
      by_cases hc : ¬ (rat g 9 160 v3) = 0
      · rw [if_pos hc] at h
        by_cases hc : (rat g 9 160 v3) = 1
        · rw [if_pos hc] at h
          obtain ⟨g2, hq, h⟩ := lett_inv h
          refine FR.tr (FR.rf _ _) (FR.tr (FR.cl (fr_St_beginItems (wr (v2 + 1)) g g2 hq.symm) (sub_tr (by decide) hW)) ?_)
          exact FR.tr (FR.rs (FR.rs (FR.rf _ _) (hW _ (by decide))) (hW _ (by decide))) (ih9 (wr (v2 + 1)) (wr (v3 + 1)) (rset (rset g2 25 5 (wr (v2 + 1)) 0) 27 5 (wr (v2 + 1)) 0) r g' h)
        · rw [if_neg hc] at h
          by_cases hc : ¬ (rat g 9 160 v3) = 4
          · rw [if_pos hc] at h
            by_cases hc : ¬ (rat g 9 160 v3) = 2
            · rw [if_pos hc] at h
              by_cases hc : ¬ (rat g 9 160 v3) = 3
              · rw [if_pos hc] at h
                refine FR.tr (FR.rf _ _) (fr_St_isTooMuch_l182 c1 (wr (v2 + (-1))) v3 _ W (sub_tr (by decide) hW) ?_ fu 0 g r g' h)
                · intro g4 r g' h
                  exact FR.tr (FR.rf _ _) (ih9 (wr (v2 + (-1))) (wr (v3 + 1)) g4 r g' h)
              · rw [if_neg hc] at h
                obtain ⟨g5, hq, h⟩ := lett_inv h
                refine FR.tr (FR.rf _ _) (FR.tr (FR.cl (fr_St_endWay v2 g g5 hq.symm) (sub_tr (by decide) hW)) ?_)
                obtain ⟨g6, hq, h⟩ := lett_inv h
                refine FR.tr (FR.rf _ _) (FR.tr (FR.cl (fr_St_addItem (wr (v2 + (-1))) (rat g5 25 5 (wr ((wr (v2 + (-1))) + 1))) (wr ((rat g5 27 5 (wr ((wr (v2 + (-1))) + 1))) + (Ji_bitCount (St_toldOf (rat g5 11 160 v3) c1 g5)))) g5 g6 hq.symm) (sub_tr (by decide) hW)) ?_)
                exact FR.tr (FR.rf _ _) (ih9 (wr (v2 + (-1))) (wr (v3 + 1)) g6 r g' h)
            · rw [if_neg hc] at h
              obtain ⟨g7, hq, h⟩ := lett_inv h
              refine FR.tr (FR.rf _ _) (FR.tr (FR.cl (fr_St_endWay v2 g g7 hq.symm) (sub_tr (by decide) hW)) ?_)
              exact FR.tr (FR.rf _ _) (ih9 v2 (wr (v3 + 1)) g7 r g' h)
          · rw [if_neg hc] at h
            obtain ⟨g8, hq, h⟩ := lett_inv h
            refine FR.tr (FR.rf _ _) (FR.tr (FR.cl (fr_St_beginItems (wr (v2 + 1)) g g8 hq.symm) (sub_tr (by decide) hW)) ?_)
            exact FR.tr (FR.rs (FR.rs (FR.rf _ _) (hW _ (by decide))) (hW _ (by decide))) (ih9 (wr (v2 + 1)) (wr (v3 + 1)) (rset (rset g8 25 5 (wr (v2 + 1)) 0) 27 5 (wr (v2 + 1)) 0) r g' h)
      · rw [if_neg hc] at h
        exact FR.tr (FR.rs (FR.rf _ _) (hW _ (by decide))) (ih9 v2 (wr (v3 + 1)) (rset g 23 5 v2 (St_upTo 25 (wr ((rat g 23 5 v2) + 1)))) r g' h)
set_option maxRecDepth 100000 in
theorem fr_St_isTooMuch (a1 : Int) (g : Gx) (r : Int) (g' : Gx) (h : St_isTooMuch a1 g = some (r, g')) : FR [21, 23, 25, 27] g g' := by
  rw [St_isTooMuch] at h
  obtain ⟨g1, hq, h⟩ := lett_inv h
  refine FR.tr (FR.rf _ _) (FR.tr (FR.cl (fr_St_beginItems 0 g g1 hq.symm) (by decide)) ?_)
  refine FR.tr (FR.rf _ _) (fr_St_isTooMuch_l9 a1 _ [21, 23, 25, 27] (by decide) ?_ fu 0 0 g1 r g' h)
  · intro g9 r g' h
    by_cases hc : 30 < (rat g9 21 5 0)
    · rw [if_pos hc] at h
      cases h
      exact (FR.rf _ _)
    · rw [if_neg hc] at h
      by_cases hc : (rat g9 23 5 0) ≤ 24
      · rw [if_pos hc] at h
        cases h
        exact (FR.rf _ _)
      · rw [if_neg hc] at h
        cases h
        exact (FR.rf _ _)
set_option maxRecDepth 100000 in
theorem fr_Hi_say (a1 a2 : Int) (g : Gx) (g' : Gx) (h : Hi_say a1 a2 g = g') : FR [35, 37] g g' := by
  rw [Hi_say] at h
  by_cases hc : 24 ≤ (rat g 37 30 a1)
  · rw [if_pos hc] at h
    subst h
    exact (FR.rf _ _)
  · rw [if_neg hc] at h
    subst h
    exact (FR.rs (FR.rs (FR.rf _ _) (by decide)) (by decide))
set_option maxRecDepth 100000 in
theorem fr_Hi_choose_l82 (c1 : Int) (c2 : Int) (c4 : Int) (c5 : Int) (K82_134 : Gx → Option (Int × Gx)) (W : List Nat) (hW : ∀ c ∈ ([35, 37] : List Nat), c ∈ W) (hK82_134 : ∀ (g : Gx) (r : Int) (g' : Gx), K82_134 g = some (r, g') → FR W g g') : ∀ (n82 : Nat) (v6 : Int) (g : Gx) (r : Int) (g' : Gx), Hi_choose_l82 c1 c2 c4 c5 K82_134 n82 v6 g = some (r, g') → FR W g g' := by
  intro n82
  induction n82 with
  | zero => intro v6 g r g' h; cases h
  | succ n82 ih82 =>
    intro v6 g r g' h
    rw [Hi_choose_l82] at h
    by_cases hc : 6 ≤ v6
    · rw [if_pos hc] at h
      exact FR.tr (FR.rf _ _) (hK82_134 g r g' h)
    · rw [if_neg hc] at h
      by_cases hc : (Op_has c5 v6) = 0
      · rw [if_pos hc] at h
        exact FR.tr (FR.rf _ _) (ih82 (wr (v6 + 1)) g r g' h)
      · rw [if_neg hc] at h
        obtain ⟨g1, hq, h⟩ := lett_inv h
        refine FR.tr (FR.rf _ _) (FR.tr (FR.cl (fr_Hi_say c1 (wr ((wr ((wr ((wr (1000 * (St_chooser c2 g))) + (wr (100 * v6)))) + 26)) + c4)) g g1 hq.symm) (sub_tr (by decide) hW)) ?_)
        exact FR.tr (FR.rf _ _) (ih82 (wr (v6 + 1)) g1 r g' h)
set_option maxRecDepth 100000 in
theorem fr_Hi_choose (a1 a2 a3 : Int) (g : Gx) (r : Int) (g' : Gx) (h : Hi_choose a1 a2 a3 g = some (r, g')) : FR [35, 37, 39, 41, 3122, 3123] g g' := by
  rw [Hi_choose] at h
  by_cases hc : (g 33 11) < (g 33 10)
  · rw [if_pos hc] at h
    refine FR.tr (FR.go (FR.rf _ _) ⟨rfl, by decide⟩) (fr_Hi_choose_l82 a1 a2 (rat g 39 30 (g 33 11)) (St_toldOf a2 a3 (gset g 33 11 (wr ((g 33 11) + 1)))) _ [35, 37, 39, 41, 3122, 3123] (by decide) ?_ fu 0 (gset g 33 11 (wr ((g 33 11) + 1))) r g' h)
    · intro g2 r g' h
      cases h
      exact (FR.rf _ _)
  · rw [if_neg hc] at h
    refine FR.tr (FR.go (FR.go (FR.rs (FR.rs (FR.rf _ _) (by decide)) (by decide)) ⟨rfl, by decide⟩) ⟨rfl, by decide⟩) (fr_Hi_choose_l82 a1 a2 (rat (rset g 39 30 (g 33 11) 0) 39 30 (g 33 11)) (St_toldOf a2 a3 (gset (gset (rset (rset g 39 30 (g 33 11) 0) 41 30 (g 33 11) a2) 33 10 (wr ((g 33 11) + 1))) 33 11 (wr ((g 33 11) + 1)))) _ [35, 37, 39, 41, 3122, 3123] (by decide) ?_ fu 0 (gset (gset (rset (rset g 39 30 (g 33 11) 0) 41 30 (g 33 11) a2) 33 10 (wr ((g 33 11) + 1))) 33 11 (wr ((g 33 11) + 1))) r g' h)
    · intro g3 r g' h
      cases h
      exact (FR.rf _ _)
set_option maxRecDepth 100000 in
theorem fr_Hi_beginRounds (a1 a2 : Int) (g : Gx) (g' : Gx) (h : Hi_beginRounds a1 a2 g = g') : FR [47, 49, 3124] g g' := by
  rw [Hi_beginRounds] at h
  subst h
  exact (FR.go (FR.rs (FR.rs (FR.rf _ _) (by decide)) (by decide)) ⟨rfl, by decide⟩)
set_option maxRecDepth 100000 in
theorem fr_Hi_endRound (a1 : Int) (g : Gx) (r : Int) (g' : Gx) (h : Hi_endRound a1 g = (r, g')) : FR [49, 3124] g g' := by
  rw [Hi_endRound] at h
  by_cases hc : (rat g 49 4 (wr ((g 33 12) - 1))) ≤ 0
  · rw [if_pos hc] at h
    cases h
    exact (FR.go (FR.rf _ _) ⟨rfl, by decide⟩)
  · rw [if_neg hc] at h
    cases h
    exact (FR.ra (FR.rf _ _) (by decide))
set_option maxRecDepth 100000 in
theorem fr_Hi_walk_l24 (c1 : Int) (c2 : Int) (K24_180 : Gx → Option Gx) (W : List Nat) (hW : ∀ c ∈ ([35, 37, 39, 41, 47, 49, 3122, 3123, 3124] : List Nat), c ∈ W) (hK24_180 : ∀ (g : Gx) (g' : Gx), K24_180 g = some g' → FR W g g') : ∀ (n24 : Nat) (v3 v4 : Int) (g : Gx) (g' : Gx), Hi_walk_l24 c1 c2 K24_180 n24 v3 v4 g = some g' → FR W g g' := by
  intro n24
  induction n24 with
  | zero => intro v3 v4 g g' h; cases h
  | succ n24 ih24 =>
    intro v3 v4 g g' h
    rw [Hi_walk_l24] at h
    by_cases hc : 1000000 ≤ v4
    · rw [if_pos hc] at h
      exact FR.tr (FR.rf _ _) (hK24_180 g g' h)
    · rw [if_neg hc] at h
      by_cases hc : (St_size g) ≤ v3
      · rw [if_pos hc] at h
        exact FR.tr (FR.rf _ _) (hK24_180 g g' h)
      · rw [if_neg hc] at h
        by_cases hd : (St_kind v3 g) < 0 ∨ 5 < (St_kind v3 g)
        · rw [if_pos hd] at h
          exact FR.tr (FR.rf _ _) (ih24 (wr (v3 + 1)) (wr (v4 + 1)) g g' h)
        rw [if_neg hd] at h
        by_cases hx0 : (St_kind v3 g) = 0
        · rw [if_pos hx0] at h
          obtain ⟨g1, hq, h⟩ := lett_inv h
          refine FR.tr (FR.rf _ _) (FR.tr (FR.cl (fr_Hi_say c1 (St_value v3 g) g g1 hq.symm) (sub_tr (by decide) hW)) ?_)
          exact FR.tr (FR.rf _ _) (ih24 (wr (v3 + 1)) (wr (v4 + 1)) g1 g' h)
        rw [if_neg hx0] at h
        by_cases hx1 : (St_kind v3 g) = 1
        · rw [if_pos hx1] at h
          obtain ⟨q2, hq, h⟩ := Option.bind_eq_some_iff.mp h
          refine FR.tr (FR.rf _ _) (FR.tr (FR.cl (fr_Hi_choose c1 (St_value v3 g) c2 g q2.1 q2.2 hq) (sub_tr (by decide) hW)) ?_)
          exact FR.tr (FR.rf _ _) (ih24 (St_wayStart (St_value v3 g) q2.1 q2.2) (wr (v4 + 1)) q2.2 g' h)
        rw [if_neg hx1] at h
        by_cases hx2 : (St_kind v3 g) = 2
        · rw [if_pos hx2] at h
          exact FR.tr (FR.rf _ _) (ih24 (St_end (St_value v3 g) g) (wr (v4 + 1)) g g' h)
        rw [if_neg hx2] at h
        by_cases hx3 : (St_kind v3 g) = 3
        · rw [if_pos hx3] at h
          exact FR.tr (FR.rf _ _) (ih24 (wr (v3 + 1)) (wr (v4 + 1)) g g' h)
        rw [if_neg hx3] at h
        by_cases hx4 : (St_kind v3 g) = 4
        · rw [if_pos hx4] at h
          obtain ⟨g3, hq, h⟩ := lett_inv h
          refine FR.tr (FR.rf _ _) (FR.tr (FR.cl (fr_Hi_beginRounds (wr (v3 + 1)) (St_value v3 g) g g3 hq.symm) (sub_tr (by decide) hW)) ?_)
          exact FR.tr (FR.rf _ _) (ih24 (wr (v3 + 1)) (wr (v4 + 1)) g3 g' h)
        rw [if_neg hx4] at h
        obtain ⟨q4, hq, h⟩ := lett_inv h
        refine FR.tr (FR.rf _ _) (FR.tr (FR.cl (fr_Hi_endRound (wr (v3 + 1)) g q4.1 q4.2 hq.symm) (sub_tr (by decide) hW)) ?_)
        exact FR.tr (FR.rf _ _) (ih24 q4.1 (wr (v4 + 1)) q4.2 g' h)
set_option maxRecDepth 100000 in
theorem fr_Hi_walk (a1 a2 : Int) (g : Gx) (g' : Gx) (h : Hi_walk a1 a2 g = some g') : FR [35, 37, 39, 41, 47, 49, 3122, 3123, 3124] g g' := by
  rw [Hi_walk] at h
  refine FR.tr (FR.go (FR.go (FR.rs (FR.rf _ _) (by decide)) ⟨rfl, by decide⟩) ⟨rfl, by decide⟩) (fr_Hi_walk_l24 a1 a2 _ [35, 37, 39, 41, 47, 49, 3122, 3123, 3124] (by decide) ?_ fu 0 0 (gset (gset (rset g 37 30 a1 0) 33 11 0) 33 12 0) g' h)
  · intro g5 g' h
    cases h
    exact (FR.rf _ _)
set_option maxRecDepth 100000 in
theorem fr_Hi_turn_l7 (c1 : Int) (K7_90 : Gx → Option (Int × Gx)) (W : List Nat) (hW : ∀ c ∈ ([39, 43, 45, 3122] : List Nat), c ∈ W) (hK7_90 : ∀ (g : Gx) (r : Int) (g' : Gx), K7_90 g = some (r, g') → FR W g g') : ∀ (n7 : Nat) (v2 : Int) (g : Gx) (r : Int) (g' : Gx), Hi_turn_l7 c1 K7_90 n7 v2 g = some (r, g') → FR W g g' := by
  intro n7
  induction n7 with
  | zero => intro v2 g r g' h; cases h
  | succ n7 ih7 =>
    intro v2 g r g' h
    rw [Hi_turn_l7] at h
    by_cases hc : v2 < 0
    · rw [if_pos hc] at h
      exact FR.tr (FR.rf _ _) (hK7_90 g r g' h)
    · rw [if_neg hc] at h
      by_cases hc : (St_wayCount (rat g 41 30 v2) g) ≤ (wr ((rat g 39 30 v2) + 1))
      · rw [if_pos hc] at h
        exact FR.tr (FR.rf _ _) (ih7 (wr (v2 + (-1))) g r g' h)
      · rw [if_neg hc] at h
        cases h
        exact (FR.rs (FR.rs (FR.go (FR.ra (FR.rf _ _) (hW _ (by decide))) ⟨rfl, hW _ (by decide)⟩) (hW _ (by decide))) (hW _ (by decide)))
set_option maxRecDepth 100000 in
theorem fr_Hi_turn (a1 : Int) (g : Gx) (r : Int) (g' : Gx) (h : Hi_turn a1 g = some (r, g')) : FR [39, 43, 45, 3122] g g' := by
  rw [Hi_turn] at h
  refine FR.tr (FR.rf _ _) (fr_Hi_turn_l7 a1 _ [39, 43, 45, 3122] (by decide) ?_ fu (wr ((g 33 11) - 1)) g r g' h)
  · intro g1 r g' h
    cases h
    exact (FR.rf _ _)
set_option maxRecDepth 100000 in
theorem fr_Hi_make_l96 (c1 : Int) (K96_140 : Gx → Option (Int × Gx)) (W : List Nat) (hW : ∀ c ∈ ([35, 37, 39, 41, 43, 45, 47, 49, 3121, 3122, 3123, 3124] : List Nat), c ∈ W) (hK96_140 : ∀ (g : Gx) (r : Int) (g' : Gx), K96_140 g = some (r, g') → FR W g g') : ∀ (n96 : Nat) (v2 : Int) (g : Gx) (r : Int) (g' : Gx), Hi_make_l96 c1 K96_140 n96 v2 g = some (r, g') → FR W g g' := by
  intro n96
  induction n96 with
  | zero => intro v2 g r g' h; cases h
  | succ n96 ih96 =>
    intro v2 g r g' h
    rw [Hi_make_l96] at h
    by_cases hc : v2 = 0
    · rw [if_pos hc] at h
      exact FR.tr (FR.rf _ _) (hK96_140 g r g' h)
    · rw [if_neg hc] at h
      by_cases hc : 30 ≤ (g 33 9)
      · rw [if_pos hc] at h
        exact FR.tr (FR.rf _ _) (hK96_140 g r g' h)
      · rw [if_neg hc] at h
        obtain ⟨g2, hq, h⟩ := Option.bind_eq_some_iff.mp h
        refine FR.tr (FR.rf _ _) (FR.tr (FR.cl (fr_Hi_walk (g 33 9) c1 g g2 hq) (sub_tr (by decide) hW)) ?_)
        obtain ⟨q3, hq, h⟩ := Option.bind_eq_some_iff.mp h
        refine FR.tr (FR.rf _ _) (FR.tr (FR.cl (fr_Hi_turn (g2 33 9) g2 q3.1 q3.2 hq) (sub_tr (by decide) hW)) ?_)
        exact FR.tr (FR.go (FR.rf _ _) ⟨rfl, hW _ (by decide)⟩) (ih96 q3.1 (gset q3.2 33 9 (wr ((q3.2 33 9) + 1))) r g' h)
set_option maxRecDepth 100000 in
theorem fr_Hi_make (a1 : Int) (g : Gx) (r : Int) (g' : Gx) (h : Hi_make a1 g = some (r, g')) : FR [21, 23, 25, 27, 35, 37, 39, 41, 43, 45, 47, 49, 3121, 3122, 3123, 3124, 3125, 3126, 3127, 3128] g g' := by
  rw [Hi_make] at h
  by_cases hc : ¬ (g 33 13) = (St_version g)
  · rw [if_pos hc] at h
    obtain ⟨q1, hq, h⟩ := Option.bind_eq_some_iff.mp h
    refine FR.tr (FR.go (FR.go (FR.go (FR.go (FR.go (FR.rf _ _) ⟨rfl, by decide⟩) ⟨rfl, by decide⟩) ⟨rfl, by decide⟩) ⟨rfl, by decide⟩) ⟨rfl, by decide⟩) (FR.tr (FR.cl (fr_St_isTooMuch a1 (gset (gset (gset (gset (gset g 33 13 (St_version g)) 33 14 a1) 33 16 (wr ((g 33 16) + 1))) 33 9 0) 33 10 0) q1.1 q1.2 hq) (by decide)) ?_)
    by_cases hc : q1.1 = 0 ∨ q1.1 = 1
    · rw [if_pos hc] at h
      by_cases hc : ¬ q1.1 = 0
      · rw [if_pos hc] at h
        refine FR.tr (FR.go (FR.rf _ _) ⟨rfl, by decide⟩) (fr_Hi_make_l96 a1 _ [21, 23, 25, 27, 35, 37, 39, 41, 43, 45, 47, 49, 3121, 3122, 3123, 3124, 3125, 3126, 3127, 3128] (by decide) ?_ fu 0 (gset q1.2 33 15 q1.1) r g' h)
        · intro g4 r g' h
          by_cases hc : ¬ (g4 33 15) = 0
          · rw [if_pos hc] at h
            cases h
            exact (FR.rf _ _)
          · rw [if_neg hc] at h
            cases h
            exact (FR.rf _ _)
      · rw [if_neg hc] at h
        refine FR.tr (FR.go (FR.rf _ _) ⟨rfl, by decide⟩) (fr_Hi_make_l96 a1 _ [21, 23, 25, 27, 35, 37, 39, 41, 43, 45, 47, 49, 3121, 3122, 3123, 3124, 3125, 3126, 3127, 3128] (by decide) ?_ fu 1 (gset q1.2 33 15 q1.1) r g' h)
        · intro g5 r g' h
          by_cases hc : ¬ (g5 33 15) = 0
          · rw [if_pos hc] at h
            cases h
            exact (FR.rf _ _)
          · rw [if_neg hc] at h
            cases h
            exact (FR.rf _ _)
    · rw [if_neg hc] at h; cases h
  · rw [if_neg hc] at h
    by_cases hc : ¬ (g 33 14) = a1
    · rw [if_pos hc] at h
      obtain ⟨q6, hq, h⟩ := Option.bind_eq_some_iff.mp h
      refine FR.tr (FR.go (FR.go (FR.go (FR.go (FR.go (FR.rf _ _) ⟨rfl, by decide⟩) ⟨rfl, by decide⟩) ⟨rfl, by decide⟩) ⟨rfl, by decide⟩) ⟨rfl, by decide⟩) (FR.tr (FR.cl (fr_St_isTooMuch a1 (gset (gset (gset (gset (gset g 33 13 (St_version g)) 33 14 a1) 33 16 (wr ((g 33 16) + 1))) 33 9 0) 33 10 0) q6.1 q6.2 hq) (by decide)) ?_)
      by_cases hc : q6.1 = 0 ∨ q6.1 = 1
      · rw [if_pos hc] at h
        by_cases hc : ¬ q6.1 = 0
        · rw [if_pos hc] at h
          refine FR.tr (FR.go (FR.rf _ _) ⟨rfl, by decide⟩) (fr_Hi_make_l96 a1 _ [21, 23, 25, 27, 35, 37, 39, 41, 43, 45, 47, 49, 3121, 3122, 3123, 3124, 3125, 3126, 3127, 3128] (by decide) ?_ fu 0 (gset q6.2 33 15 q6.1) r g' h)
          · intro g7 r g' h
            by_cases hc : ¬ (g7 33 15) = 0
            · rw [if_pos hc] at h
              cases h
              exact (FR.rf _ _)
            · rw [if_neg hc] at h
              cases h
              exact (FR.rf _ _)
        · rw [if_neg hc] at h
          refine FR.tr (FR.go (FR.rf _ _) ⟨rfl, by decide⟩) (fr_Hi_make_l96 a1 _ [21, 23, 25, 27, 35, 37, 39, 41, 43, 45, 47, 49, 3121, 3122, 3123, 3124, 3125, 3126, 3127, 3128] (by decide) ?_ fu 1 (gset q6.2 33 15 q6.1) r g' h)
          · intro g8 r g' h
            by_cases hc : ¬ (g8 33 15) = 0
            · rw [if_pos hc] at h
              cases h
              exact (FR.rf _ _)
            · rw [if_neg hc] at h
              cases h
              exact (FR.rf _ _)
      · rw [if_neg hc] at h; cases h
    · rw [if_neg hc] at h
      by_cases hc : ¬ (g 33 15) = 0
      · rw [if_pos hc] at h
        cases h
        exact (FR.rf _ _)
      · rw [if_neg hc] at h
        cases h
        exact (FR.rf _ _)
set_option maxRecDepth 100000 in
theorem fr_Op_hindrance (a1 : Int) (g : Gx) (r : Int) (g' : Gx) (h : Op_hindrance a1 g = some (r, g')) : FR [9, 11, 13, 15, 17, 19, 21, 23, 25, 27, 30, 32, 35, 37, 39, 41, 43, 45, 47, 49, 1458, 1459, 1460, 2796, 2797, 2798, 2799, 2800, 2801, 3121, 3122, 3123, 3124, 3125, 3126, 3127, 3128] g g' := by
  rw [Op_hindrance] at h
  obtain ⟨q1, hq, h⟩ := Option.bind_eq_some_iff.mp h
  refine FR.tr (FR.rf _ _) (FR.tr (FR.cl (fr_Pr_firstFault g q1.1 q1.2 hq) (by decide)) ?_)
  by_cases hc : q1.1 = (-1)
  · rw [if_pos hc] at h
    obtain ⟨q2, hq, h⟩ := Option.bind_eq_some_iff.mp h
    refine FR.tr (FR.rf _ _) (FR.tr (FR.cl (fr_Hi_make (q1.2 0 11) q1.2 q2.1 q2.2 hq) (by decide)) ?_)
    by_cases hc : ¬ q2.1 = 0
    · rw [if_pos hc] at h
      by_cases hc : (Hi_size q2.2) ≤ a1
      · rw [if_pos hc] at h
        cases h
        exact (FR.rf _ _)
      · rw [if_neg hc] at h
        cases h
        exact (FR.rf _ _)
    · rw [if_neg hc] at h
      cases h
      exact (FR.rf _ _)
  · rw [if_neg hc] at h
    cases h
    exact (FR.rf _ _)
set_option maxRecDepth 100000 in
theorem fr_Op_histories (g : Gx) (r : Int) (g' : Gx) (h : Op_histories g = some (r, g')) : FR [9, 11, 13, 15, 17, 19, 21, 23, 25, 27, 30, 32, 35, 37, 39, 41, 43, 45, 47, 49, 1458, 1459, 1460, 2796, 2797, 2798, 2799, 2800, 2801, 3121, 3122, 3123, 3124, 3125, 3126, 3127, 3128] g g' := by
  rw [Op_histories] at h
  obtain ⟨q1, hq, h⟩ := Option.bind_eq_some_iff.mp h
  refine FR.tr (FR.rf _ _) (FR.tr (FR.cl (fr_Op_hindrance 0 g q1.1 q1.2 hq) (by decide)) ?_)
  by_cases hc : q1.1 = 0
  · rw [if_pos hc] at h
    cases h
    exact (FR.rf _ _)
  · rw [if_neg hc] at h
    cases h
    exact (FR.rf _ _)
set_option maxRecDepth 100000 in
theorem fr_Md_says (a1 a2 a3 : Int) (g : Gx) (r : Int) (g' : Gx) (h : Md_says a1 a2 a3 g = some (r, g')) : FR [111, 6924] g g' := by
  rw [Md_says] at h
  by_cases hc : ¬ (g 92 36) = 24
  · rw [if_pos hc] at h
    by_cases hc : 30 ≤ (g 92 26)
    · rw [if_pos hc] at h
      cases h
      exact (FR.go (FR.rf _ _) ⟨rfl, by decide⟩)
    · rw [if_neg hc] at h
      by_cases hc : 0 ≤ (wr ((wr (24 * (g 92 26))) + (g 92 36))) ∧ (wr ((wr (24 * (g 92 26))) + (g 92 36))) < 720
      · rw [if_pos hc] at h
        cases h
        exact (FR.go (FR.gs (FR.rf _ _) (by decide)) ⟨rfl, by decide⟩)
      · rw [if_neg hc] at h; cases h
  · rw [if_neg hc] at h
    cases h
    exact (FR.rf _ _)
set_option maxRecDepth 100000 in
theorem fr_Md_chooses_l67 (c1 : Int) (c3 : Int) (K67_160 : Int → Gx → Option (Int × Gx)) (W : List Nat) (hW : ∀ c ∈ ([111, 6924] : List Nat), c ∈ W) (hK67_160 : ∀ (x4 : Int) (g : Gx) (r : Int) (g' : Gx), K67_160 x4 g = some (r, g') → FR W g g') : ∀ (n67 : Nat) (v4 v5 : Int) (g : Gx) (r : Int) (g' : Gx), Md_chooses_l67 c1 c3 K67_160 n67 v4 v5 g = some (r, g') → FR W g g' := by
  intro n67
  induction n67 with
  | zero => intro v4 v5 g r g' h; cases h
  | succ n67 ih67 =>
    intro v4 v5 g r g' h
    rw [Md_chooses_l67] at h
    by_cases hc : 6 ≤ v5
    · rw [if_pos hc] at h
      exact FR.tr (FR.rf _ _) (hK67_160 v4 g r g' h)
    · rw [if_neg hc] at h
      by_cases hc : 0 ≤ c1 ∧ c1 < 170
      · rw [if_pos hc] at h
        by_cases hc : 5 ≤ (g 102 c1.toNat)
        · rw [if_pos hc] at h
          exact FR.tr (FR.rf _ _) (hK67_160 v4 g r g' h)
        · rw [if_neg hc] at h
          by_cases hc : 0 ≤ c1 ∧ c1 < 170
          · rw [if_pos hc] at h
            by_cases hc : v5 = (g 100 c1.toNat)
            · rw [if_pos hc] at h
              exact FR.tr (FR.rf _ _) (ih67 v4 (wr (v5 + 1)) g r g' h)
            · rw [if_neg hc] at h
              by_cases hc : 0 ≤ c1 ∧ c1 < 170
              · rw [if_pos hc] at h
                by_cases hc : ¬ (jand (jshr c3 (wr ((wr (6 * (g 102 c1.toNat))) + v5))) 1) = 1
                · rw [if_pos hc] at h
                  exact FR.tr (FR.rf _ _) (ih67 v4 (wr (v5 + 1)) g r g' h)
                · rw [if_neg hc] at h
                  by_cases hc : v4 = 0
                  · rw [if_pos hc] at h
                    exact FR.tr (FR.rf _ _) (ih67 0 (wr (v5 + 1)) g r g' h)
                  · rw [if_neg hc] at h
                    by_cases hc : 0 ≤ c1 ∧ c1 < 170
                    · rw [if_pos hc] at h
                      by_cases hc : 0 ≤ (g 92 35) ∧ (g 92 35) < 30
                      · rw [if_pos hc] at h
                        obtain ⟨q1, hq, h⟩ := Option.bind_eq_some_iff.mp h
                        refine FR.tr (FR.rf _ _) (FR.tr (FR.cl (fr_Md_says (g 100 c1.toNat) v5 (wr (26 + (g 114 (g 92 35).toNat))) g q1.1 q1.2 hq) (sub_tr (by decide) hW)) ?_)
                        by_cases hc : q1.1 = 0
                        · rw [if_pos hc] at h
                          exact FR.tr (FR.rf _ _) (ih67 0 (wr (v5 + 1)) q1.2 r g' h)
                        · rw [if_neg hc] at h
                          exact FR.tr (FR.rf _ _) (ih67 1 (wr (v5 + 1)) q1.2 r g' h)
                      · rw [if_neg hc] at h; cases h
                    · rw [if_neg hc] at h; cases h
              · rw [if_neg hc] at h; cases h
          · rw [if_neg hc] at h; cases h
      · rw [if_neg hc] at h; cases h
set_option maxRecDepth 100000 in
theorem fr_Md_chooses (a1 a2 a3 : Int) (g : Gx) (r : Int) (g' : Gx) (h : Md_chooses a1 a2 a3 g = some (r, g')) : FR [111, 114, 115, 116, 6923, 6924] g g' := by
  rw [Md_chooses] at h
  by_cases hc : ¬ (g 92 35) = 30
  · rw [if_pos hc] at h
    by_cases hc : (g 92 35) < a2
    · rw [if_pos hc] at h
      by_cases hc : 0 ≤ a1 ∧ a1 < 170
      · rw [if_pos hc] at h
        by_cases hc : 0 ≤ (g 92 35) ∧ (g 92 35) < 30
        · rw [if_pos hc] at h
          by_cases hc : 0 ≤ a1 ∧ a1 < 170
          · rw [if_pos hc] at h
            by_cases hc : 0 ≤ (g 92 35) ∧ (g 92 35) < 30
            · rw [if_pos hc] at h
              refine FR.tr (FR.gs (FR.gs (FR.rf _ _) (by decide)) (by decide)) (fr_Md_chooses_l67 a1 a3 _ [111, 114, 115, 116, 6923, 6924] (by decide) ?_ fu 1 0 (gset (gset g 115 ((g 92 35).toNat) (wr ((g 101 a1.toNat) - 1))) 116 ((g 92 35).toNat) (g 100 a1.toNat)) r g' h)
              · intro x2 g3 r g' h
                by_cases hc : x2 = 0 ∨ x2 = 1
                · rw [if_pos hc] at h; cases h
                  exact (FR.go (FR.rf _ _) ⟨rfl, by decide⟩)
                · rw [if_neg hc] at h; cases h
            · rw [if_neg hc] at h; cases h
          · rw [if_neg hc] at h; cases h
        · rw [if_neg hc] at h; cases h
      · rw [if_neg hc] at h; cases h
    · rw [if_neg hc] at h
      by_cases hc : 0 ≤ (g 92 35) ∧ (g 92 35) < 30
      · rw [if_pos hc] at h
        by_cases hc : 0 ≤ a1 ∧ a1 < 170
        · rw [if_pos hc] at h
          by_cases hc : 0 ≤ (g 92 35) ∧ (g 92 35) < 30
          · rw [if_pos hc] at h
            by_cases hc : 0 ≤ a1 ∧ a1 < 170
            · rw [if_pos hc] at h
              by_cases hc : 0 ≤ (g 92 35) ∧ (g 92 35) < 30
              · rw [if_pos hc] at h
                refine FR.tr (FR.gs (FR.gs (FR.gs (FR.rf _ _) (by decide)) (by decide)) (by decide)) (fr_Md_chooses_l67 a1 a3 _ [111, 114, 115, 116, 6923, 6924] (by decide) ?_ fu 1 0 (gset (gset (gset g 114 ((g 92 35).toNat) 0) 115 ((g 92 35).toNat) (wr ((g 101 a1.toNat) - 1))) 116 ((g 92 35).toNat) (g 100 a1.toNat)) r g' h)
                · intro x4 g5 r g' h
                  by_cases hc : x4 = 0 ∨ x4 = 1
                  · rw [if_pos hc] at h; cases h
                    exact (FR.go (FR.rf _ _) ⟨rfl, by decide⟩)
                  · rw [if_neg hc] at h; cases h
              · rw [if_neg hc] at h; cases h
            · rw [if_neg hc] at h; cases h
          · rw [if_neg hc] at h; cases h
        · rw [if_neg hc] at h; cases h
      · rw [if_neg hc] at h; cases h
  · rw [if_neg hc] at h
    cases h
    exact (FR.rf _ _)
set_option maxRecDepth 100000 in
theorem fr_Md_goes_l12 (c1 : Int) (c2 : Int) (K12_208 : Gx → Option (Int × Gx)) (W : List Nat) (hW : ∀ c ∈ ([111, 114, 115, 116, 117, 6923, 6924] : List Nat), c ∈ W) (hK12_208 : ∀ (g : Gx) (r : Int) (g' : Gx), K12_208 g = some (r, g') → FR W g g') : ∀ (n12 : Nat) (v3 : Int) (g : Gx) (r : Int) (g' : Gx), Md_goes_l12 c1 c2 K12_208 n12 v3 g = some (r, g') → FR W g g' := by
  intro n12
  induction n12 with
  | zero => intro v3 g r g' h; cases h
  | succ n12 ih12 =>
    intro v3 g r g' h
    rw [Md_goes_l12] at h
    by_cases hc : (g 92 9) ≤ v3
    · rw [if_pos hc] at h
      exact FR.tr (FR.rf _ _) (hK12_208 g r g' h)
    · rw [if_neg hc] at h
      by_cases hc : 0 ≤ v3 ∧ v3 < 170
      · rw [if_pos hc] at h
        by_cases hc : ¬ (g 99 v3.toNat) = 0
        · rw [if_pos hc] at h
          by_cases hc : 0 ≤ v3 ∧ v3 < 170
          · rw [if_pos hc] at h
            by_cases hc : ¬ (g 99 v3.toNat) = 1
            · rw [if_pos hc] at h
              by_cases hc : 0 ≤ v3 ∧ v3 < 170
              · rw [if_pos hc] at h
                by_cases hc : ¬ (g 99 v3.toNat) = 2
                · rw [if_pos hc] at h
                  by_cases hc : 0 ≤ v3 ∧ v3 < 170
                  · rw [if_pos hc] at h
                    by_cases hc : ¬ (g 99 v3.toNat) = 3
                    · rw [if_pos hc] at h
                      by_cases hc : 0 ≤ v3 ∧ v3 < 170
                      · rw [if_pos hc] at h
                        by_cases hc : 0 ≤ (g 102 v3.toNat) ∧ (g 102 v3.toNat) < 170
                        · rw [if_pos hc] at h
                          by_cases hc : 0 ≤ (g 102 v3.toNat) ∧ (g 102 v3.toNat) < 170
                          · rw [if_pos hc] at h
                            obtain ⟨y1, hy1, h⟩ := lett_inv h
                            by_cases hc : 0 ≤ (g 102 v3.toNat) ∧ (g 102 v3.toNat) < 170
                            · rw [if_pos hc] at h
                              by_cases hc : 0 ≤ (g 102 v3.toNat) ∧ (g 102 v3.toNat) < 170
                              · rw [if_pos hc] at h
                                exact FR.tr (FR.gs (FR.rf _ _) (hW _ (by decide))) (ih12 y1 (gset g 117 ((g 102 v3.toNat).toNat) (wr ((g 117 (g 102 v3.toNat).toNat) + 1))) r g' h)
                              · rw [if_neg hc] at h; cases h
                            · rw [if_neg hc] at h; cases h
                          · rw [if_neg hc] at h; cases h
                        · rw [if_neg hc] at h; cases h
                      · rw [if_neg hc] at h; cases h
                    · rw [if_neg hc] at h
                      by_cases hc : 0 ≤ v3 ∧ v3 < 170
                      · rw [if_pos hc] at h
                        exact FR.tr (FR.gs (FR.rf _ _) (hW _ (by decide))) (ih12 (wr (v3 + 1)) (gset g 117 v3.toNat 1) r g' h)
                      · rw [if_neg hc] at h; cases h
                  · rw [if_neg hc] at h; cases h
                · rw [if_neg hc] at h
                  by_cases hc : 0 ≤ v3 ∧ v3 < 170
                  · rw [if_pos hc] at h
                    by_cases hc : 0 ≤ (g 102 v3.toNat) ∧ (g 102 v3.toNat) < 170
                    · rw [if_pos hc] at h
                      exact FR.tr (FR.rf _ _) (ih12 (g 103 (g 102 v3.toNat).toNat) g r g' h)
                    · rw [if_neg hc] at h; cases h
                  · rw [if_neg hc] at h; cases h
              · rw [if_neg hc] at h; cases h
            · rw [if_neg hc] at h
              obtain ⟨q2, hq, h⟩ := Option.bind_eq_some_iff.mp h
              refine FR.tr (FR.rf _ _) (FR.tr (FR.cl (fr_Md_chooses v3 c1 c2 g q2.1 q2.2 hq) (sub_tr (by decide) hW)) ?_)
              by_cases hc : ¬ q2.1 = 0
              · rw [if_pos hc] at h
                by_cases hc : 0 ≤ (wr ((q2.2 92 35) - 1)) ∧ (wr ((q2.2 92 35) - 1)) < 30
                · rw [if_pos hc] at h
                  by_cases hc : 0 ≤ (wr ((wr (4 * v3)) + (q2.2 114 (wr ((q2.2 92 35) - 1)).toNat))) ∧ (wr ((wr (4 * v3)) + (q2.2 114 (wr ((q2.2 92 35) - 1)).toNat))) < 680
                  · rw [if_pos hc] at h
                    exact FR.tr (FR.rf _ _) (ih12 (q2.2 104 (wr ((wr (4 * v3)) + (q2.2 114 (wr ((q2.2 92 35) - 1)).toNat))).toNat) q2.2 r g' h)
                  · rw [if_neg hc] at h; cases h
                · rw [if_neg hc] at h; cases h
              · rw [if_neg hc] at h
                cases h
                exact (FR.rf _ _)
          · rw [if_neg hc] at h; cases h
        · rw [if_neg hc] at h
          by_cases hc : 0 ≤ v3 ∧ v3 < 170
          · rw [if_pos hc] at h
            by_cases hc : 0 ≤ v3 ∧ v3 < 170
            · rw [if_pos hc] at h
              by_cases hc : 0 ≤ v3 ∧ v3 < 170
              · rw [if_pos hc] at h
                obtain ⟨q3, hq, h⟩ := Option.bind_eq_some_iff.mp h
                refine FR.tr (FR.rf _ _) (FR.tr (FR.cl (fr_Md_says (g 100 v3.toNat) (g 101 v3.toNat) (g 102 v3.toNat) g q3.1 q3.2 hq) (sub_tr (by decide) hW)) ?_)
                by_cases hc : ¬ q3.1 = 0
                · rw [if_pos hc] at h
                  exact FR.tr (FR.rf _ _) (ih12 (wr (v3 + 1)) q3.2 r g' h)
                · rw [if_neg hc] at h
                  cases h
                  exact (FR.rf _ _)
              · rw [if_neg hc] at h; cases h
            · rw [if_neg hc] at h; cases h
          · rw [if_neg hc] at h; cases h
      · rw [if_neg hc] at h; cases h
set_option maxRecDepth 100000 in
theorem fr_Md_goes (a1 a2 : Int) (g : Gx) (r : Int) (g' : Gx) (h : Md_goes a1 a2 g = some (r, g')) : FR [111, 114, 115, 116, 117, 6923, 6924] g g' := by
  rw [Md_goes] at h
  refine FR.tr (FR.go (FR.go (FR.rf _ _) ⟨rfl, by decide⟩) ⟨rfl, by decide⟩) (fr_Md_goes_l12 a1 a2 _ [111, 114, 115, 116, 117, 6923, 6924] (by decide) ?_ fu 0 (gset (gset g 92 36 0) 92 35 0) r g' h)
  · intro g4 r g' h
    cases h
    exact (FR.rf _ _)
set_option maxRecDepth 100000 in
theorem fr_Md_unfolds_l50 (c1 : Int) (c2 : Int) (K50_133 : Gx → Option (Int × Gx)) (W : List Nat) (hW : ∀ c ∈ ([112, 113] : List Nat), c ∈ W) (hK50_133 : ∀ (g : Gx) (r : Int) (g' : Gx), K50_133 g = some (r, g') → FR W g g') : ∀ (n50 : Nat) (v4 : Int) (g : Gx) (r : Int) (g' : Gx), Md_unfolds_l50 c1 c2 K50_133 n50 v4 g = some (r, g') → FR W g g' := by
  intro n50
  induction n50 with
  | zero => intro v4 g r g' h; cases h
  | succ n50 ih50 =>
    intro v4 g r g' h
    rw [Md_unfolds_l50] at h
    by_cases hc : 30 ≤ v4
    · rw [if_pos hc] at h
      exact FR.tr (FR.rf _ _) (hK50_133 g r g' h)
    · rw [if_neg hc] at h
      by_cases hc : (g 92 35) ≤ v4
      · rw [if_pos hc] at h
        by_cases hc : 0 ≤ (wr ((wr (30 * (g 92 26))) + v4)) ∧ (wr ((wr (30 * (g 92 26))) + v4)) < 900
        · rw [if_pos hc] at h
          by_cases hc : (g 92 35) ≤ v4
          · rw [if_pos hc] at h
            by_cases hc : 0 ≤ (wr ((wr (30 * (g 92 26))) + v4)) ∧ (wr ((wr (30 * (g 92 26))) + v4)) < 900
            · rw [if_pos hc] at h
              exact FR.tr (FR.gs (FR.gs (FR.rf _ _) (hW _ (by decide))) (hW _ (by decide))) (ih50 (wr (v4 + 1)) (gset (gset g 112 ((wr ((wr (30 * (g 92 26))) + v4)).toNat) (-1)) 113 ((wr ((wr (30 * (g 92 26))) + v4)).toNat) (-1)) r g' h)
            · rw [if_neg hc] at h; cases h
          · rw [if_neg hc] at h
            by_cases hc : 0 ≤ v4 ∧ v4 < 30
            · rw [if_pos hc] at h
              by_cases hc : 0 ≤ (wr ((wr (30 * (g 92 26))) + v4)) ∧ (wr ((wr (30 * (g 92 26))) + v4)) < 900
              · rw [if_pos hc] at h
                exact FR.tr (FR.gs (FR.gs (FR.rf _ _) (hW _ (by decide))) (hW _ (by decide))) (ih50 (wr (v4 + 1)) (gset (gset g 112 ((wr ((wr (30 * (g 92 26))) + v4)).toNat) (-1)) 113 ((wr ((wr (30 * (g 92 26))) + v4)).toNat) (g 116 v4.toNat)) r g' h)
              · rw [if_neg hc] at h; cases h
            · rw [if_neg hc] at h; cases h
        · rw [if_neg hc] at h; cases h
      · rw [if_neg hc] at h
        by_cases hc : 0 ≤ v4 ∧ v4 < 30
        · rw [if_pos hc] at h
          by_cases hc : 0 ≤ (wr ((wr (30 * (g 92 26))) + v4)) ∧ (wr ((wr (30 * (g 92 26))) + v4)) < 900
          · rw [if_pos hc] at h
            by_cases hc : (g 92 35) ≤ v4
            · rw [if_pos hc] at h
              by_cases hc : 0 ≤ (wr ((wr (30 * (g 92 26))) + v4)) ∧ (wr ((wr (30 * (g 92 26))) + v4)) < 900
              · rw [if_pos hc] at h
                exact FR.tr (FR.gs (FR.gs (FR.rf _ _) (hW _ (by decide))) (hW _ (by decide))) (ih50 (wr (v4 + 1)) (gset (gset g 112 ((wr ((wr (30 * (g 92 26))) + v4)).toNat) (g 114 v4.toNat)) 113 ((wr ((wr (30 * (g 92 26))) + v4)).toNat) (-1)) r g' h)
              · rw [if_neg hc] at h; cases h
            · rw [if_neg hc] at h
              by_cases hc : 0 ≤ v4 ∧ v4 < 30
              · rw [if_pos hc] at h
                by_cases hc : 0 ≤ (wr ((wr (30 * (g 92 26))) + v4)) ∧ (wr ((wr (30 * (g 92 26))) + v4)) < 900
                · rw [if_pos hc] at h
                  exact FR.tr (FR.gs (FR.gs (FR.rf _ _) (hW _ (by decide))) (hW _ (by decide))) (ih50 (wr (v4 + 1)) (gset (gset g 112 ((wr ((wr (30 * (g 92 26))) + v4)).toNat) (g 114 v4.toNat)) 113 ((wr ((wr (30 * (g 92 26))) + v4)).toNat) (g 116 v4.toNat)) r g' h)
                · rw [if_neg hc] at h; cases h
              · rw [if_neg hc] at h; cases h
          · rw [if_neg hc] at h; cases h
        · rw [if_neg hc] at h; cases h
set_option maxRecDepth 100000 in
theorem fr_Md_unfolds_l151 (c1 : Int) (c2 : Int) (K151_179 : Int → Gx → Option (Int × Gx)) (W : List Nat) (hW : ∀ c ∈ ([] : List Nat), c ∈ W) (hK151_179 : ∀ (x4 : Int) (g : Gx) (r : Int) (g' : Gx), K151_179 x4 g = some (r, g') → FR W g g') : ∀ (n151 : Nat) (v4 : Int) (g : Gx) (r : Int) (g' : Gx), Md_unfolds_l151 c1 c2 K151_179 n151 v4 g = some (r, g') → FR W g g' := by
  intro n151
  induction n151 with
  | zero => intro v4 g r g' h; cases h
  | succ n151 ih151 =>
    intro v4 g r g' h
    rw [Md_unfolds_l151] at h
    by_cases hc : v4 < 0
    · rw [if_pos hc] at h
      exact FR.tr (FR.rf _ _) (hK151_179 v4 g r g' h)
    · rw [if_neg hc] at h
      by_cases hc : 0 ≤ v4 ∧ v4 < 30
      · rw [if_pos hc] at h
        by_cases hc : 0 ≤ v4 ∧ v4 < 30
        · rw [if_pos hc] at h
          by_cases hc : ¬ (g 114 v4.toNat) = (g 115 v4.toNat)
          · rw [if_pos hc] at h
            exact FR.tr (FR.rf _ _) (hK151_179 v4 g r g' h)
          · rw [if_neg hc] at h
            exact FR.tr (FR.rf _ _) (ih151 (wr (v4 + (-1))) g r g' h)
        · rw [if_neg hc] at h; cases h
      · rw [if_neg hc] at h; cases h
set_option maxRecDepth 100000 in
theorem fr_Md_unfolds_l9 (c1 : Int) (K9_213 : Gx → Option (Int × Gx)) (W : List Nat) (hW : ∀ c ∈ ([110, 111, 112, 113, 114, 115, 116, 117, 6914, 6923, 6924] : List Nat), c ∈ W) (hK9_213 : ∀ (g : Gx) (r : Int) (g' : Gx), K9_213 g = some (r, g') → FR W g g') : ∀ (n9 : Nat) (v2 v3 : Int) (g : Gx) (r : Int) (g' : Gx), Md_unfolds_l9 c1 K9_213 n9 v2 v3 g = some (r, g') → FR W g g' := by
  intro n9
  induction n9 with
  | zero => intro v2 v3 g r g' h; cases h
  | succ n9 ih9 =>
    intro v2 v3 g r g' h
    rw [Md_unfolds_l9] at h
    by_cases hc : v3 = 0
    · rw [if_pos hc] at h
      exact FR.tr (FR.rf _ _) (hK9_213 g r g' h)
    · rw [if_neg hc] at h
      obtain ⟨q1, hq, h⟩ := Option.bind_eq_some_iff.mp h
      refine FR.tr (FR.rf _ _) (FR.tr (FR.cl (fr_Md_goes v2 c1 g q1.1 q1.2 hq) (sub_tr (by decide) hW)) ?_)
      by_cases hc : q1.1 = 0
      · rw [if_pos hc] at h
        cases h
        exact (FR.rf _ _)
      · rw [if_neg hc] at h
        by_cases hc : ¬ (q1.2 92 26) = 30
        · rw [if_pos hc] at h
          by_cases hc : 0 ≤ (q1.2 92 26) ∧ (q1.2 92 26) < 30
          · rw [if_pos hc] at h
            refine FR.tr (FR.gs (FR.rf _ _) (hW _ (by decide))) (fr_Md_unfolds_l50 c1 v2 _ W (sub_tr (by decide) hW) ?_ fu 0 (gset q1.2 110 ((q1.2 92 26).toNat) (q1.2 92 36)) r g' h)
            · intro g2 r g' h
              refine FR.tr (FR.go (FR.rf _ _) ⟨rfl, hW _ (by decide)⟩) (fr_Md_unfolds_l151 c1 v2 _ W (sub_tr (by decide) hW) ?_ fu (wr ((g2 92 35) - 1)) (gset g2 92 26 (wr ((g2 92 26) + 1))) r g' h)
              · intro x3 g4 r g' h
                obtain ⟨y5, hy5, h⟩ := lett_inv h
                by_cases hc : y5 = 0
                · rw [if_pos hc] at h
                  exact FR.tr (FR.rf _ _) (ih9 v2 y5 g4 r g' h)
                · rw [if_neg hc] at h
                  by_cases hc : 0 ≤ x3 ∧ x3 < 30
                  · rw [if_pos hc] at h
                    by_cases hc : 0 ≤ x3 ∧ x3 < 30
                    · rw [if_pos hc] at h
                      exact FR.tr (FR.gs (FR.rf _ _) (hW _ (by decide))) (ih9 (wr (x3 + 1)) y5 (gset g4 114 x3.toNat (wr ((g4 114 x3.toNat) + 1))) r g' h)
                    · rw [if_neg hc] at h; cases h
                  · rw [if_neg hc] at h; cases h
          · rw [if_neg hc] at h; cases h
        · rw [if_neg hc] at h
          cases h
          exact (FR.rf _ _)
set_option maxRecDepth 100000 in
theorem fr_Md_unfolds (a1 : Int) (g : Gx) (r : Int) (g' : Gx) (h : Md_unfolds a1 g = some (r, g')) : FR [110, 111, 112, 113, 114, 115, 116, 117, 6914, 6923, 6924] g g' := by
  rw [Md_unfolds] at h
  refine FR.tr (FR.go (FR.rf _ _) ⟨rfl, by decide⟩) (fr_Md_unfolds_l9 a1 _ [110, 111, 112, 113, 114, 115, 116, 117, 6914, 6923, 6924] (by decide) ?_ fu 0 1 (gset g 92 26 0) r g' h)
  · intro g6 r g' h
    cases h
    exact (FR.rf _ _)
set_option maxRecDepth 100000 in
theorem fr_Md_without (g : Gx) (r : Int) (g' : Gx) (h : Md_without g = some (r, g')) : FR [99, 100, 101, 102, 103, 104, 105, 110, 111, 112, 113, 114, 115, 116, 117, 6896, 6897, 6904, 6905, 6906, 6908, 6914, 6923, 6924] g g' := by
  rw [Md_without] at h
  obtain ⟨q1, hq, h⟩ := Option.bind_eq_some_iff.mp h
  refine FR.tr (FR.rf _ _) (FR.tr (FR.cl (fr_Md_reads g q1.1 q1.2 hq) (by decide)) ?_)
  by_cases hc : ¬ q1.1 = (-1)
  · rw [if_pos hc] at h
    cases h
    exact (FR.rf _ _)
  · rw [if_neg hc] at h
    obtain ⟨q2, hq, h⟩ := Option.bind_eq_some_iff.mp h
    refine FR.tr (FR.rf _ _) (FR.tr (FR.cl (fr_Md_unfolds (q1.2 92 7) q1.2 q2.1 q2.2 hq) (by decide)) ?_)
    cases h
    exact (FR.rf _ _)
set_option maxRecDepth 100000 in
theorem fr_Md_histories (g : Gx) (r : Int) (g' : Gx) (h : Md_histories g = some (r, g')) : FR [99, 100, 101, 102, 103, 104, 105, 110, 111, 112, 113, 114, 115, 116, 117, 6896, 6897, 6904, 6905, 6906, 6908, 6914, 6923, 6924] g g' := by
  rw [Md_histories] at h
  obtain ⟨q1, hq, h⟩ := Option.bind_eq_some_iff.mp h
  refine FR.tr (FR.rf _ _) (FR.tr (FR.cl (fr_Md_without g q1.1 q1.2 hq) (by decide)) ?_)
  by_cases hc : q1.1 = 0
  · rw [if_pos hc] at h
    cases h
    exact (FR.rf _ _)
  · rw [if_neg hc] at h
    cases h
    exact (FR.rf _ _)
set_option maxRecDepth 100000 in
theorem fr_Op_said (a1 a2 : Int) (g : Gx) (r : Int) (g' : Gx) (h : Op_said a1 a2 g = some (r, g')) : FR [9, 11, 13, 15, 17, 19, 21, 23, 25, 27, 30, 32, 35, 37, 39, 41, 43, 45, 47, 49, 1458, 1459, 1460, 2796, 2797, 2798, 2799, 2800, 2801, 3121, 3122, 3123, 3124, 3125, 3126, 3127, 3128] g g' := by
  rw [Op_said] at h
  by_cases hc : (Op_isHistory a1) = 0
  · rw [if_pos hc] at h
    cases h
    exact (FR.rf _ _)
  · rw [if_neg hc] at h
    by_cases hc : (-1) ≤ a2
    · rw [if_pos hc] at h
      obtain ⟨q1, hq, h⟩ := Option.bind_eq_some_iff.mp h
      refine FR.tr (FR.rf _ _) (FR.tr (FR.cl (fr_Op_hindrance a1 g q1.1 q1.2 hq) (by decide)) ?_)
      by_cases hc : q1.1 = 0
      · rw [if_pos hc] at h
        by_cases hc : ¬ a2 = (-1)
        · rw [if_pos hc] at h
          by_cases hc : (Hi_length a1 q1.2) ≤ a2
          · rw [if_pos hc] at h
            cases h
            exact (FR.rf _ _)
          · rw [if_neg hc] at h
            cases h
            exact (FR.rf _ _)
        · rw [if_neg hc] at h
          cases h
          exact (FR.rf _ _)
      · rw [if_neg hc] at h
        cases h
        exact (FR.rf _ _)
    · rw [if_neg hc] at h
      cases h
      exact (FR.rf _ _)
set_option maxRecDepth 100000 in
theorem fr_Md_lacksOne (a1 : Int) (g : Gx) (r : Int) (g' : Gx) (h : Md_lacksOne a1 g = some (r, g')) : FR [99, 100, 101, 102, 103, 104, 105, 110, 111, 112, 113, 114, 115, 116, 117, 6896, 6897, 6904, 6905, 6906, 6908, 6914, 6923, 6924] g g' := by
  rw [Md_lacksOne] at h
  obtain ⟨q1, hq, h⟩ := Option.bind_eq_some_iff.mp h
  refine FR.tr (FR.rf _ _) (FR.tr (FR.cl (fr_Md_without g q1.1 q1.2 hq) (by decide)) ?_)
  by_cases hc : q1.1 = 0
  · rw [if_pos hc] at h
    by_cases hc : (q1.2 92 26) ≤ a1
    · rw [if_pos hc] at h
      cases h
      exact (FR.rf _ _)
    · rw [if_neg hc] at h
      cases h
      exact (FR.rf _ _)
  · rw [if_neg hc] at h
    cases h
    exact (FR.rf _ _)
set_option maxRecDepth 100000 in
theorem fr_Md_code (a1 a2 : Int) (g : Gx) (r : Int) (g' : Gx) (h : Md_code a1 a2 g = some (r, g')) : FR [] g g' := by
  rw [Md_code] at h
  by_cases hc : 0 ≤ (wr ((wr (24 * a1)) + a2)) ∧ (wr ((wr (24 * a1)) + a2)) < 720
  · rw [if_pos hc] at h
    cases h
    exact (FR.rf _ _)
  · rw [if_neg hc] at h; cases h
set_option maxRecDepth 100000 in
theorem fr_Md_said (a1 a2 : Int) (g : Gx) (r : Int) (g' : Gx) (h : Md_said a1 a2 g = some (r, g')) : FR [99, 100, 101, 102, 103, 104, 105, 110, 111, 112, 113, 114, 115, 116, 117, 6896, 6897, 6904, 6905, 6906, 6908, 6914, 6923, 6924] g g' := by
  rw [Md_said] at h
  by_cases hc : (Md_isHistory a1) = 0
  · rw [if_pos hc] at h
    cases h
    exact (FR.rf _ _)
  · rw [if_neg hc] at h
    by_cases hc : (-1) ≤ a2
    · rw [if_pos hc] at h
      obtain ⟨q1, hq, h⟩ := Option.bind_eq_some_iff.mp h
      refine FR.tr (FR.rf _ _) (FR.tr (FR.cl (fr_Md_lacksOne a1 g q1.1 q1.2 hq) (by decide)) ?_)
      by_cases hc : q1.1 = 0
      · rw [if_pos hc] at h
        by_cases hc : ¬ a2 = (-1)
        · rw [if_pos hc] at h
          by_cases hc : 0 ≤ a1 ∧ a1 < 30
          · rw [if_pos hc] at h
            by_cases hc : (q1.2 110 a1.toNat) ≤ a2
            · rw [if_pos hc] at h
              cases h
              exact (FR.rf _ _)
            · rw [if_neg hc] at h
              obtain ⟨q2, hq, h⟩ := Option.bind_eq_some_iff.mp h
              refine FR.tr (FR.rf _ _) (FR.tr (FR.cl (fr_Md_code a1 a2 q1.2 q2.1 q2.2 hq) (by decide)) ?_)
              cases h
              exact (FR.rf _ _)
          · rw [if_neg hc] at h; cases h
        · rw [if_neg hc] at h
          by_cases hc : 0 ≤ a1 ∧ a1 < 30
          · rw [if_pos hc] at h
            cases h
            exact (FR.rf _ _)
          · rw [if_neg hc] at h; cases h
      · rw [if_neg hc] at h
        cases h
        exact (FR.rf _ _)
    · rw [if_neg hc] at h
      cases h
      exact (FR.rf _ _)
set_option maxRecDepth 100000 in
theorem fr_Lk_load_l18 (c1 : Int) (c2 : Int) (K18_108 : Int → Gx → Option Gx) (W : List Nat) (hW : ∀ c ∈ ([52] : List Nat), c ∈ W) (hK18_108 : ∀ (x3 : Int) (g : Gx) (g' : Gx), K18_108 x3 g = some g' → FR W g g') : ∀ (n18 : Nat) (v3 v4 : Int) (g : Gx) (g' : Gx), Lk_load_l18 c1 c2 K18_108 n18 v3 v4 g = some g' → FR W g g' := by
  intro n18
  induction n18 with
  | zero => intro v3 v4 g g' h; cases h
  | succ n18 ih18 =>
    intro v3 v4 g g' h
    rw [Lk_load_l18] at h
    by_cases hc : (Hi_length c2 g) ≤ v4
    · rw [if_pos hc] at h
      exact FR.tr (FR.rf _ _) (hK18_108 v3 g g' h)
    · rw [if_neg hc] at h
      by_cases hc : (Op_sayer (Hi_word c2 v4 g)) = c1
      · rw [if_pos hc] at h
        obtain ⟨y1, hy1, h⟩ := lett_inv h
        exact FR.tr (FR.rs (FR.rf _ _) (hW _ (by decide))) (ih18 (wr (v3 + 1)) (wr (v4 + 1)) (rset g 52 720 (wr ((wr (c2 * 24)) + v3)) (wr (y1 + (Hi_word c2 v4 g)))) g' h)
      · rw [if_neg hc] at h
        by_cases hc : ¬ (Op_getter (Hi_word c2 v4 g)) = c1
        · rw [if_pos hc] at h
          exact FR.tr (FR.rf _ _) (ih18 v3 (wr (v4 + 1)) g g' h)
        · rw [if_neg hc] at h
          obtain ⟨y2, hy2, h⟩ := lett_inv h
          exact FR.tr (FR.rs (FR.rf _ _) (hW _ (by decide))) (ih18 (wr (v3 + 1)) (wr (v4 + 1)) (rset g 52 720 (wr ((wr (c2 * 24)) + v3)) (wr (y2 + (Hi_word c2 v4 g)))) g' h)
set_option maxRecDepth 100000 in
theorem fr_Lk_load_l2 (c1 : Int) (K2_123 : Gx → Option Gx) (W : List Nat) (hW : ∀ c ∈ ([52, 54] : List Nat), c ∈ W) (hK2_123 : ∀ (g : Gx) (g' : Gx), K2_123 g = some g' → FR W g g') : ∀ (n2 : Nat) (v2 : Int) (g : Gx) (g' : Gx), Lk_load_l2 c1 K2_123 n2 v2 g = some g' → FR W g g' := by
  intro n2
  induction n2 with
  | zero => intro v2 g g' h; cases h
  | succ n2 ih2 =>
    intro v2 g g' h
    rw [Lk_load_l2] at h
    by_cases hc : (Hi_size g) ≤ v2
    · rw [if_pos hc] at h
      exact FR.tr (FR.rf _ _) (hK2_123 g g' h)
    · rw [if_neg hc] at h
      refine FR.tr (FR.rf _ _) (fr_Lk_load_l18 c1 v2 _ W (sub_tr (by decide) hW) ?_ fu 0 0 g g' h)
      · intro x3 g4 g' h
        exact FR.tr (FR.rs (FR.rf _ _) (hW _ (by decide))) (ih2 (wr (v2 + 1)) (rset g4 54 30 v2 x3) g' h)
set_option maxRecDepth 100000 in
theorem fr_Lk_load (a1 : Int) (g : Gx) (g' : Gx) (h : Lk_load a1 g = some g') : FR [52, 54] g g' := by
  rw [Lk_load] at h
  refine FR.tr (FR.rf _ _) (fr_Lk_load_l2 a1 _ [52, 54] (by decide) ?_ fu 0 g g' h)
  · intro g5 g' h
    cases h
    exact (FR.rf _ _)
set_option maxRecDepth 100000 in
theorem fr_Op_look (a1 a2 a3 : Int) (g : Gx) (r : Int) (g' : Gx) (h : Op_look a1 a2 a3 g = some (r, g')) : FR [9, 11, 13, 15, 17, 19, 21, 23, 25, 27, 30, 32, 35, 37, 39, 41, 43, 45, 47, 49, 52, 54, 1458, 1459, 1460, 2796, 2797, 2798, 2799, 2800, 2801, 3121, 3122, 3123, 3124, 3125, 3126, 3127, 3128] g g' := by
  rw [Op_look] at h
  by_cases hc : (Op_isTalker a1) = 0
  · rw [if_pos hc] at h
    cases h
    exact (FR.rf _ _)
  · rw [if_neg hc] at h
    by_cases hc : (Op_isHistory a2) = 0
    · rw [if_pos hc] at h
      cases h
      exact (FR.rf _ _)
    · rw [if_neg hc] at h
      by_cases hc : (-1) ≤ a3
      · rw [if_pos hc] at h
        obtain ⟨q1, hq, h⟩ := Option.bind_eq_some_iff.mp h
        refine FR.tr (FR.rf _ _) (FR.tr (FR.cl (fr_Op_hindrance a2 g q1.1 q1.2 hq) (by decide)) ?_)
        by_cases hc : q1.1 = 0
        · rw [if_pos hc] at h
          obtain ⟨g2, hq, h⟩ := Option.bind_eq_some_iff.mp h
          refine FR.tr (FR.rf _ _) (FR.tr (FR.cl (fr_Lk_load a1 q1.2 g2 hq) (by decide)) ?_)
          by_cases hc : ¬ a3 = (-1)
          · rw [if_pos hc] at h
            by_cases hc : (Lk_length a2 g2) ≤ a3
            · rw [if_pos hc] at h
              cases h
              exact (FR.rf _ _)
            · rw [if_neg hc] at h
              cases h
              exact (FR.rf _ _)
          · rw [if_neg hc] at h
            cases h
            exact (FR.rf _ _)
        · rw [if_neg hc] at h
          cases h
          exact (FR.rf _ _)
      · rw [if_neg hc] at h
        cases h
        exact (FR.rf _ _)
set_option maxRecDepth 100000 in
theorem fr_Md_findLooks_l23 (c1 : Int) (c2 : Int) (K23_107 : Int → Gx → Option Gx) (W : List Nat) (hW : ∀ c ∈ ([119] : List Nat), c ∈ W) (hK23_107 : ∀ (x3 : Int) (g : Gx) (g' : Gx), K23_107 x3 g = some g' → FR W g g') : ∀ (n23 : Nat) (v3 v4 : Int) (g : Gx) (g' : Gx), Md_findLooks_l23 c1 c2 K23_107 n23 v3 v4 g = some g' → FR W g g' := by
  intro n23
  induction n23 with
  | zero => intro v3 v4 g g' h; cases h
  | succ n23 ih23 =>
    intro v3 v4 g g' h
    rw [Md_findLooks_l23] at h
    by_cases hc : 0 ≤ c1 ∧ c1 < 30
    · rw [if_pos hc] at h
      by_cases hc : (g 110 c1.toNat) ≤ v4
      · rw [if_pos hc] at h
        exact FR.tr (FR.rf _ _) (hK23_107 v3 g g' h)
      · rw [if_neg hc] at h
        obtain ⟨q1, hq, h⟩ := Option.bind_eq_some_iff.mp h
        refine FR.tr (FR.rf _ _) (FR.tr (FR.cl (fr_Md_code c1 v4 g q1.1 q1.2 hq) (sub_tr (by decide) hW)) ?_)
        by_cases hc : (Md_from q1.1) = c2
        · rw [if_pos hc] at h
          by_cases hc : ¬ (Md_from q1.1) = c2
          · rw [if_pos hc] at h
            by_cases hc : 0 ≤ (wr ((wr (24 * (wr ((wr (6 * c1)) + c2)))) + v3)) ∧ (wr ((wr (24 * (wr ((wr (6 * c1)) + c2)))) + v3)) < 4320
            · rw [if_pos hc] at h
              exact FR.tr (FR.gs (FR.rf _ _) (hW _ (by decide))) (ih23 (wr (v3 + 1)) (wr (v4 + 1)) (gset q1.2 119 ((wr ((wr (24 * (wr ((wr (6 * c1)) + c2)))) + v3)).toNat) (wr (20000 + q1.1))) g' h)
            · rw [if_neg hc] at h; cases h
          · rw [if_neg hc] at h
            by_cases hc : 0 ≤ (wr ((wr (24 * (wr ((wr (6 * c1)) + c2)))) + v3)) ∧ (wr ((wr (24 * (wr ((wr (6 * c1)) + c2)))) + v3)) < 4320
            · rw [if_pos hc] at h
              exact FR.tr (FR.gs (FR.rf _ _) (hW _ (by decide))) (ih23 (wr (v3 + 1)) (wr (v4 + 1)) (gset q1.2 119 ((wr ((wr (24 * (wr ((wr (6 * c1)) + c2)))) + v3)).toNat) (wr (10000 + q1.1))) g' h)
            · rw [if_neg hc] at h; cases h
        · rw [if_neg hc] at h
          by_cases hc : ¬ (Md_to q1.1) = c2
          · rw [if_pos hc] at h
            exact FR.tr (FR.rf _ _) (ih23 v3 (wr (v4 + 1)) q1.2 g' h)
          · rw [if_neg hc] at h
            by_cases hc : ¬ (Md_from q1.1) = c2
            · rw [if_pos hc] at h
              by_cases hc : 0 ≤ (wr ((wr (24 * (wr ((wr (6 * c1)) + c2)))) + v3)) ∧ (wr ((wr (24 * (wr ((wr (6 * c1)) + c2)))) + v3)) < 4320
              · rw [if_pos hc] at h
                exact FR.tr (FR.gs (FR.rf _ _) (hW _ (by decide))) (ih23 (wr (v3 + 1)) (wr (v4 + 1)) (gset q1.2 119 ((wr ((wr (24 * (wr ((wr (6 * c1)) + c2)))) + v3)).toNat) (wr (20000 + q1.1))) g' h)
              · rw [if_neg hc] at h; cases h
            · rw [if_neg hc] at h
              by_cases hc : 0 ≤ (wr ((wr (24 * (wr ((wr (6 * c1)) + c2)))) + v3)) ∧ (wr ((wr (24 * (wr ((wr (6 * c1)) + c2)))) + v3)) < 4320
              · rw [if_pos hc] at h
                exact FR.tr (FR.gs (FR.rf _ _) (hW _ (by decide))) (ih23 (wr (v3 + 1)) (wr (v4 + 1)) (gset q1.2 119 ((wr ((wr (24 * (wr ((wr (6 * c1)) + c2)))) + v3)).toNat) (wr (10000 + q1.1))) g' h)
              · rw [if_neg hc] at h; cases h
    · rw [if_neg hc] at h; cases h
set_option maxRecDepth 100000 in
theorem fr_Md_findLooks_l12 (c1 : Int) (K12_125 : Gx → Option Gx) (W : List Nat) (hW : ∀ c ∈ ([118, 119] : List Nat), c ∈ W) (hK12_125 : ∀ (g : Gx) (g' : Gx), K12_125 g = some g' → FR W g g') : ∀ (n12 : Nat) (v2 : Int) (g : Gx) (g' : Gx), Md_findLooks_l12 c1 K12_125 n12 v2 g = some g' → FR W g g' := by
  intro n12
  induction n12 with
  | zero => intro v2 g g' h; cases h
  | succ n12 ih12 =>
    intro v2 g g' h
    rw [Md_findLooks_l12] at h
    by_cases hc : 6 ≤ v2
    · rw [if_pos hc] at h
      exact FR.tr (FR.rf _ _) (hK12_125 g g' h)
    · rw [if_neg hc] at h
      refine FR.tr (FR.rf _ _) (fr_Md_findLooks_l23 c1 v2 _ W (sub_tr (by decide) hW) ?_ fu 0 0 g g' h)
      · intro x2 g3 g' h
        by_cases hc : 0 ≤ (wr ((wr (6 * c1)) + v2)) ∧ (wr ((wr (6 * c1)) + v2)) < 180
        · rw [if_pos hc] at h
          exact FR.tr (FR.gs (FR.rf _ _) (hW _ (by decide))) (ih12 (wr (v2 + 1)) (gset g3 118 ((wr ((wr (6 * c1)) + v2)).toNat) x2) g' h)
        · rw [if_neg hc] at h; cases h
set_option maxRecDepth 100000 in
theorem fr_Md_findLooks_l2 (K2_131 : Gx → Option Gx) (W : List Nat) (hW : ∀ c ∈ ([118, 119] : List Nat), c ∈ W) (hK2_131 : ∀ (g : Gx) (g' : Gx), K2_131 g = some g' → FR W g g') : ∀ (n2 : Nat) (v1 : Int) (g : Gx) (g' : Gx), Md_findLooks_l2 K2_131 n2 v1 g = some g' → FR W g g' := by
  intro n2
  induction n2 with
  | zero => intro v1 g g' h; cases h
  | succ n2 ih2 =>
    intro v1 g g' h
    rw [Md_findLooks_l2] at h
    by_cases hc : (g 92 26) ≤ v1
    · rw [if_pos hc] at h
      exact FR.tr (FR.rf _ _) (hK2_131 g g' h)
    · rw [if_neg hc] at h
      refine FR.tr (FR.rf _ _) (fr_Md_findLooks_l12 v1 _ W (sub_tr (by decide) hW) ?_ fu 0 g g' h)
      · intro g4 g' h
        exact FR.tr (FR.rf _ _) (ih2 (wr (v1 + 1)) g4 g' h)
set_option maxRecDepth 100000 in
theorem fr_Md_findLooks (g : Gx) (g' : Gx) (h : Md_findLooks g = some g') : FR [118, 119] g g' := by
  rw [Md_findLooks] at h
  refine FR.tr (FR.rf _ _) (fr_Md_findLooks_l2 _ [118, 119] (by decide) ?_ fu 0 g g' h)
  · intro g5 g' h
    cases h
    exact (FR.rf _ _)
set_option maxRecDepth 100000 in
theorem fr_Md_lookAt (a1 a2 a3 : Int) (g : Gx) (r : Int) (g' : Gx) (h : Md_lookAt a1 a2 a3 g = some (r, g')) : FR [] g g' := by
  rw [Md_lookAt] at h
  by_cases hc : 0 ≤ (wr ((wr (6 * a2)) + a1)) ∧ (wr ((wr (6 * a2)) + a1)) < 180
  · rw [if_pos hc] at h
    by_cases hc : (g 118 (wr ((wr (6 * a2)) + a1)).toNat) ≤ a3
    · rw [if_pos hc] at h
      cases h
      exact (FR.rf _ _)
    · rw [if_neg hc] at h
      by_cases hc : 0 ≤ (wr ((wr (24 * (wr ((wr (6 * a2)) + a1)))) + a3)) ∧ (wr ((wr (24 * (wr ((wr (6 * a2)) + a1)))) + a3)) < 4320
      · rw [if_pos hc] at h
        cases h
        exact (FR.rf _ _)
      · rw [if_neg hc] at h; cases h
  · rw [if_neg hc] at h; cases h
set_option maxRecDepth 100000 in
theorem fr_Md_look (a1 a2 a3 : Int) (g : Gx) (r : Int) (g' : Gx) (h : Md_look a1 a2 a3 g = some (r, g')) : FR [99, 100, 101, 102, 103, 104, 105, 110, 111, 112, 113, 114, 115, 116, 117, 118, 119, 6896, 6897, 6904, 6905, 6906, 6908, 6914, 6923, 6924] g g' := by
  rw [Md_look] at h
  by_cases hc : (Md_isOne a1) = 0
  · rw [if_pos hc] at h
    cases h
    exact (FR.rf _ _)
  · rw [if_neg hc] at h
    by_cases hc : (Md_isHistory a2) = 0
    · rw [if_pos hc] at h
      cases h
      exact (FR.rf _ _)
    · rw [if_neg hc] at h
      by_cases hc : (-1) ≤ a3
      · rw [if_pos hc] at h
        obtain ⟨q1, hq, h⟩ := Option.bind_eq_some_iff.mp h
        refine FR.tr (FR.rf _ _) (FR.tr (FR.cl (fr_Md_lacksOne a2 g q1.1 q1.2 hq) (by decide)) ?_)
        by_cases hc : q1.1 = 0
        · rw [if_pos hc] at h
          obtain ⟨g2, hq, h⟩ := Option.bind_eq_some_iff.mp h
          refine FR.tr (FR.rf _ _) (FR.tr (FR.cl (fr_Md_findLooks q1.2 g2 hq) (by decide)) ?_)
          by_cases hc : ¬ a3 = (-1)
          · rw [if_pos hc] at h
            obtain ⟨q3, hq, h⟩ := Option.bind_eq_some_iff.mp h
            refine FR.tr (FR.rf _ _) (FR.tr (FR.cl (fr_Md_lookAt a1 a2 a3 g2 q3.1 q3.2 hq) (by decide)) ?_)
            cases h
            exact (FR.rf _ _)
          · rw [if_neg hc] at h
            by_cases hc : 0 ≤ (wr ((wr (6 * a2)) + a1)) ∧ (wr ((wr (6 * a2)) + a1)) < 180
            · rw [if_pos hc] at h
              cases h
              exact (FR.rf _ _)
            · rw [if_neg hc] at h; cases h
        · rw [if_neg hc] at h
          cases h
          exact (FR.rf _ _)
      · rw [if_neg hc] at h
        cases h
        exact (FR.rf _ _)
set_option maxRecDepth 100000 in
theorem fr_Lk_common_l23 (c1 : Int) (c2 : Int) (c3 : Int) (K23_66 : Int → Gx → Option (Int × Gx)) (W : List Nat) (hW : ∀ c ∈ ([] : List Nat), c ∈ W) (hK23_66 : ∀ (x4 : Int) (g : Gx) (r : Int) (g' : Gx), K23_66 x4 g = some (r, g') → FR W g g') : ∀ (n23 : Nat) (v4 : Int) (g : Gx) (r : Int) (g' : Gx), Lk_common_l23 c1 c2 c3 K23_66 n23 v4 g = some (r, g') → FR W g g' := by
  intro n23
  induction n23 with
  | zero => intro v4 g r g' h; cases h
  | succ n23 ih23 =>
    intro v4 g r g' h
    rw [Lk_common_l23] at h
    by_cases hc : c3 ≤ v4
    · rw [if_pos hc] at h
      exact FR.tr (FR.rf _ _) (hK23_66 v4 g r g' h)
    · rw [if_neg hc] at h
      by_cases hc : ¬ (rat g 52 720 (wr ((wr (c1 * 24)) + v4))) = (rat g 52 720 (wr ((wr (c2 * 24)) + v4)))
      · rw [if_pos hc] at h
        exact FR.tr (FR.rf _ _) (hK23_66 v4 g r g' h)
      · rw [if_neg hc] at h
        exact FR.tr (FR.rf _ _) (ih23 (wr (v4 + 1)) g r g' h)
set_option maxRecDepth 100000 in
theorem fr_Lk_common (a1 a2 : Int) (g : Gx) (r : Int) (g' : Gx) (h : Lk_common a1 a2 g = some (r, g')) : FR [] g g' := by
  rw [Lk_common] at h
  refine FR.tr (FR.rf _ _) (fr_Lk_common_l23 a1 a2 (imin (rat g 54 30 a1) (rat g 54 30 a2)) _ [] (by decide) ?_ fu 0 g r g' h)
  · intro x1 g2 r g' h
    cases h
    exact (FR.rf _ _)
set_option maxRecDepth 100000 in
theorem fr_Lk_isFirst_l2 (c1 : Int) (c2 : Int) (K2_38 : Gx → Option (Int × Gx)) (W : List Nat) (hW : ∀ c ∈ ([] : List Nat), c ∈ W) (hK2_38 : ∀ (g : Gx) (r : Int) (g' : Gx), K2_38 g = some (r, g') → FR W g g') : ∀ (n2 : Nat) (v3 : Int) (g : Gx) (r : Int) (g' : Gx), Lk_isFirst_l2 c1 c2 K2_38 n2 v3 g = some (r, g') → FR W g g' := by
  intro n2
  induction n2 with
  | zero => intro v3 g r g' h; cases h
  | succ n2 ih2 =>
    intro v3 g r g' h
    rw [Lk_isFirst_l2] at h
    by_cases hc : c1 ≤ v3
    · rw [if_pos hc] at h
      exact FR.tr (FR.rf _ _) (hK2_38 g r g' h)
    · rw [if_neg hc] at h
      by_cases hc : (Op_has c2 v3) = 0
      · rw [if_pos hc] at h
        exact FR.tr (FR.rf _ _) (ih2 (wr (v3 + 1)) g r g' h)
      · rw [if_neg hc] at h
        obtain ⟨q1, hq, h⟩ := Option.bind_eq_some_iff.mp h
        refine FR.tr (FR.rf _ _) (FR.tr (FR.cl (fr_Lk_common v3 c1 g q1.1 q1.2 hq) (sub_tr (by decide) hW)) ?_)
        by_cases hc : (Lk_bothEnd v3 c1 q1.1 q1.2) = 0
        · rw [if_pos hc] at h
          exact FR.tr (FR.rf _ _) (ih2 (wr (v3 + 1)) q1.2 r g' h)
        · rw [if_neg hc] at h
          cases h
          exact (FR.rf _ _)
set_option maxRecDepth 100000 in
theorem fr_Lk_isFirst (a1 a2 : Int) (g : Gx) (r : Int) (g' : Gx) (h : Lk_isFirst a1 a2 g = some (r, g')) : FR [] g g' := by
  rw [Lk_isFirst] at h
  refine FR.tr (FR.rf _ _) (fr_Lk_isFirst_l2 a1 a2 _ [] (by decide) ?_ fu 0 g r g' h)
  · intro g2 r g' h
    cases h
    exact (FR.rf _ _)
set_option maxRecDepth 100000 in
theorem fr_Lk_unlike_l4 (c1 : Int) (K4_41 : Int → Gx → Option (Int × Gx)) (W : List Nat) (hW : ∀ c ∈ ([] : List Nat), c ∈ W) (hK4_41 : ∀ (x2 : Int) (g : Gx) (r : Int) (g' : Gx), K4_41 x2 g = some (r, g') → FR W g g') : ∀ (n4 : Nat) (v2 v3 : Int) (g : Gx) (r : Int) (g' : Gx), Lk_unlike_l4 c1 K4_41 n4 v2 v3 g = some (r, g') → FR W g g' := by
  intro n4
  induction n4 with
  | zero => intro v2 v3 g r g' h; cases h
  | succ n4 ih4 =>
    intro v2 v3 g r g' h
    rw [Lk_unlike_l4] at h
    by_cases hc : (Hi_size g) ≤ v3
    · rw [if_pos hc] at h
      exact FR.tr (FR.rf _ _) (hK4_41 v2 g r g' h)
    · rw [if_neg hc] at h
      by_cases hc : (Op_has c1 v3) = 0
      · rw [if_pos hc] at h
        exact FR.tr (FR.rf _ _) (ih4 v2 (wr (v3 + 1)) g r g' h)
      · rw [if_neg hc] at h
        obtain ⟨q1, hq, h⟩ := Option.bind_eq_some_iff.mp h
        refine FR.tr (FR.rf _ _) (FR.tr (FR.cl (fr_Lk_isFirst v3 c1 g q1.1 q1.2 hq) (sub_tr (by decide) hW)) ?_)
        by_cases hc : q1.1 = 0
        · rw [if_pos hc] at h
          exact FR.tr (FR.rf _ _) (ih4 v2 (wr (v3 + 1)) q1.2 r g' h)
        · rw [if_neg hc] at h
          exact FR.tr (FR.rf _ _) (ih4 (wr (v2 + 1)) (wr (v3 + 1)) q1.2 r g' h)
set_option maxRecDepth 100000 in
theorem fr_Lk_unlike (a1 : Int) (g : Gx) (r : Int) (g' : Gx) (h : Lk_unlike a1 g = some (r, g')) : FR [] g g' := by
  rw [Lk_unlike] at h
  refine FR.tr (FR.rf _ _) (fr_Lk_unlike_l4 a1 _ [] (by decide) ?_ fu 0 0 g r g' h)
  · intro x2 g3 r g' h
    cases h
    exact (FR.rf _ _)
set_option maxRecDepth 100000 in
theorem fr_Op_looks (a1 : Int) (g : Gx) (r : Int) (g' : Gx) (h : Op_looks a1 g = some (r, g')) : FR [9, 11, 13, 15, 17, 19, 21, 23, 25, 27, 30, 32, 35, 37, 39, 41, 43, 45, 47, 49, 52, 54, 1458, 1459, 1460, 2796, 2797, 2798, 2799, 2800, 2801, 3121, 3122, 3123, 3124, 3125, 3126, 3127, 3128] g g' := by
  rw [Op_looks] at h
  by_cases hc : ¬ (Op_isTalker a1) = 0
  · rw [if_pos hc] at h
    obtain ⟨q1, hq, h⟩ := Option.bind_eq_some_iff.mp h
    refine FR.tr (FR.rf _ _) (FR.tr (FR.cl (fr_Op_hindrance 0 g q1.1 q1.2 hq) (by decide)) ?_)
    by_cases hc : q1.1 = 0
    · rw [if_pos hc] at h
      obtain ⟨g2, hq, h⟩ := Option.bind_eq_some_iff.mp h
      refine FR.tr (FR.rf _ _) (FR.tr (FR.cl (fr_Lk_load a1 q1.2 g2 hq) (by decide)) ?_)
      obtain ⟨q3, hq, h⟩ := Option.bind_eq_some_iff.mp h
      refine FR.tr (FR.rf _ _) (FR.tr (FR.cl (fr_Lk_unlike (Hi_all g2) g2 q3.1 q3.2 hq) (by decide)) ?_)
      cases h
      exact (FR.rf _ _)
    · rw [if_neg hc] at h
      cases h
      exact (FR.rf _ _)
  · rw [if_neg hc] at h
    cases h
    exact (FR.rf _ _)
set_option maxRecDepth 100000 in
theorem fr_Md_unlike_l3 (c1 : Int) (c2 : Int) (c3 : Int) (K3_40 : Int → Gx → Option (Int × Gx)) (W : List Nat) (hW : ∀ c ∈ ([] : List Nat), c ∈ W) (hK3_40 : ∀ (x4 : Int) (g : Gx) (r : Int) (g' : Gx), K3_40 x4 g = some (r, g') → FR W g g') : ∀ (n3 : Nat) (v4 : Int) (g : Gx) (r : Int) (g' : Gx), Md_unlike_l3 c1 c2 c3 K3_40 n3 v4 g = some (r, g') → FR W g g' := by
  intro n3
  induction n3 with
  | zero => intro v4 g r g' h; cases h
  | succ n3 ih3 =>
    intro v4 g r g' h
    rw [Md_unlike_l3] at h
    obtain ⟨q1, hq, h⟩ := Option.bind_eq_some_iff.mp h
    refine FR.tr (FR.rf _ _) (FR.tr (FR.cl (fr_Md_lookAt c1 c2 v4 g q1.1 q1.2 hq) (sub_tr (by decide) hW)) ?_)
    by_cases hc : q1.1 = (-1)
    · rw [if_pos hc] at h
      exact FR.tr (FR.rf _ _) (hK3_40 v4 q1.2 r g' h)
    · rw [if_neg hc] at h
      obtain ⟨q2, hq, h⟩ := Option.bind_eq_some_iff.mp h
      refine FR.tr (FR.rf _ _) (FR.tr (FR.cl (fr_Md_lookAt c1 c2 v4 q1.2 q2.1 q2.2 hq) (sub_tr (by decide) hW)) ?_)
      obtain ⟨q3, hq, h⟩ := Option.bind_eq_some_iff.mp h
      refine FR.tr (FR.rf _ _) (FR.tr (FR.cl (fr_Md_lookAt c1 c3 v4 q2.2 q3.1 q3.2 hq) (sub_tr (by decide) hW)) ?_)
      by_cases hc : ¬ q2.1 = q3.1
      · rw [if_pos hc] at h
        exact FR.tr (FR.rf _ _) (hK3_40 v4 q3.2 r g' h)
      · rw [if_neg hc] at h
        exact FR.tr (FR.rf _ _) (ih3 (wr (v4 + 1)) q3.2 r g' h)
set_option maxRecDepth 100000 in
theorem fr_Md_unlike (a1 a2 a3 : Int) (g : Gx) (r : Int) (g' : Gx) (h : Md_unlike a1 a2 a3 g = some (r, g')) : FR [] g g' := by
  rw [Md_unlike] at h
  refine FR.tr (FR.rf _ _) (fr_Md_unlike_l3 a1 a2 a3 _ [] (by decide) ?_ fu 0 g r g' h)
  · intro x4 g5 r g' h
    obtain ⟨q6, hq, h⟩ := Option.bind_eq_some_iff.mp h
    refine FR.tr (FR.rf _ _) (FR.tr (FR.cl (fr_Md_lookAt a1 a2 x4 g5 q6.1 q6.2 hq) (by decide)) ?_)
    obtain ⟨q7, hq, h⟩ := Option.bind_eq_some_iff.mp h
    refine FR.tr (FR.rf _ _) (FR.tr (FR.cl (fr_Md_lookAt a1 a3 x4 q6.2 q7.1 q7.2 hq) (by decide)) ?_)
    by_cases hc : ¬ q6.1 = q7.1
    · rw [if_pos hc] at h
      cases h
      exact (FR.rf _ _)
    · rw [if_neg hc] at h
      cases h
      exact (FR.rf _ _)
set_option maxRecDepth 100000 in
theorem fr_Md_looksOf_l34 (c1 : Int) (c2 : Int) (c3 : Int) (c4 : Int) (K34_81 : Int → Gx → Option (Int × Gx)) (W : List Nat) (hW : ∀ c ∈ ([] : List Nat), c ∈ W) (hK34_81 : ∀ (x5 : Int) (g : Gx) (r : Int) (g' : Gx), K34_81 x5 g = some (r, g') → FR W g g') : ∀ (n34 : Nat) (v5 v6 : Int) (g : Gx) (r : Int) (g' : Gx), Md_looksOf_l34 c1 c2 c3 c4 K34_81 n34 v5 v6 g = some (r, g') → FR W g g' := by
  intro n34
  induction n34 with
  | zero => intro v5 v6 g r g' h; cases h
  | succ n34 ih34 =>
    intro v5 v6 g r g' h
    rw [Md_looksOf_l34] at h
    by_cases hc : c4 ≤ v6
    · rw [if_pos hc] at h
      exact FR.tr (FR.rf _ _) (hK34_81 v5 g r g' h)
    · rw [if_neg hc] at h
      by_cases hc : v5 = 0
      · rw [if_pos hc] at h
        exact FR.tr (FR.rf _ _) (ih34 0 (wr (v6 + 1)) g r g' h)
      · rw [if_neg hc] at h
        by_cases hc : (jand (jshr c2 v6) 1) = 0
        · rw [if_pos hc] at h
          exact FR.tr (FR.rf _ _) (ih34 1 (wr (v6 + 1)) g r g' h)
        · rw [if_neg hc] at h
          obtain ⟨q1, hq, h⟩ := Option.bind_eq_some_iff.mp h
          refine FR.tr (FR.rf _ _) (FR.tr (FR.cl (fr_Md_unlike c1 v6 c4 g q1.1 q1.2 hq) (sub_tr (by decide) hW)) ?_)
          by_cases hc : q1.1 = (-1)
          · rw [if_pos hc] at h
            exact FR.tr (FR.rf _ _) (ih34 0 (wr (v6 + 1)) q1.2 r g' h)
          · rw [if_neg hc] at h
            exact FR.tr (FR.rf _ _) (ih34 1 (wr (v6 + 1)) q1.2 r g' h)
set_option maxRecDepth 100000 in
theorem fr_Md_looksOf_l5 (c1 : Int) (c2 : Int) (K5_100 : Int → Gx → Option (Int × Gx)) (W : List Nat) (hW : ∀ c ∈ ([] : List Nat), c ∈ W) (hK5_100 : ∀ (x3 : Int) (g : Gx) (r : Int) (g' : Gx), K5_100 x3 g = some (r, g') → FR W g g') : ∀ (n5 : Nat) (v3 v4 : Int) (g : Gx) (r : Int) (g' : Gx), Md_looksOf_l5 c1 c2 K5_100 n5 v3 v4 g = some (r, g') → FR W g g' := by
  intro n5
  induction n5 with
  | zero => intro v3 v4 g r g' h; cases h
  | succ n5 ih5 =>
    intro v3 v4 g r g' h
    rw [Md_looksOf_l5] at h
    by_cases hc : (g 92 26) ≤ v4
    · rw [if_pos hc] at h
      exact FR.tr (FR.rf _ _) (hK5_100 v3 g r g' h)
    · rw [if_neg hc] at h
      by_cases hc : ¬ (jand (jshr c2 v4) 1) = 1
      · rw [if_pos hc] at h
        refine FR.tr (FR.rf _ _) (fr_Md_looksOf_l34 c1 c2 v3 v4 _ W (sub_tr (by decide) hW) ?_ fu 0 0 g r g' h)
        · intro x2 g3 r g' h
          by_cases hc : x2 = 0
          · rw [if_pos hc] at h
            exact FR.tr (FR.rf _ _) (ih5 (wr (v3 + 0)) (wr (v4 + 1)) g3 r g' h)
          · rw [if_neg hc] at h
            exact FR.tr (FR.rf _ _) (ih5 (wr (v3 + 1)) (wr (v4 + 1)) g3 r g' h)
      · rw [if_neg hc] at h
        refine FR.tr (FR.rf _ _) (fr_Md_looksOf_l34 c1 c2 v3 v4 _ W (sub_tr (by decide) hW) ?_ fu 1 0 g r g' h)
        · intro x4 g5 r g' h
          by_cases hc : x4 = 0
          · rw [if_pos hc] at h
            exact FR.tr (FR.rf _ _) (ih5 (wr (v3 + 0)) (wr (v4 + 1)) g5 r g' h)
          · rw [if_neg hc] at h
            exact FR.tr (FR.rf _ _) (ih5 (wr (v3 + 1)) (wr (v4 + 1)) g5 r g' h)
set_option maxRecDepth 100000 in
theorem fr_Md_looksOf (a1 a2 : Int) (g : Gx) (r : Int) (g' : Gx) (h : Md_looksOf a1 a2 g = some (r, g')) : FR [] g g' := by
  rw [Md_looksOf] at h
  refine FR.tr (FR.rf _ _) (fr_Md_looksOf_l5 a1 a2 _ [] (by decide) ?_ fu 0 0 g r g' h)
  · intro x6 g7 r g' h
    cases h
    exact (FR.rf _ _)
set_option maxRecDepth 100000 in
theorem fr_Md_looks (a1 : Int) (g : Gx) (r : Int) (g' : Gx) (h : Md_looks a1 g = some (r, g')) : FR [99, 100, 101, 102, 103, 104, 105, 110, 111, 112, 113, 114, 115, 116, 117, 118, 119, 6896, 6897, 6904, 6905, 6906, 6908, 6914, 6923, 6924] g g' := by
  rw [Md_looks] at h
  by_cases hc : ¬ (Md_isOne a1) = 0
  · rw [if_pos hc] at h
    obtain ⟨q1, hq, h⟩ := Option.bind_eq_some_iff.mp h
    refine FR.tr (FR.rf _ _) (FR.tr (FR.cl (fr_Md_without g q1.1 q1.2 hq) (by decide)) ?_)
    by_cases hc : q1.1 = 0
    · rw [if_pos hc] at h
      obtain ⟨g2, hq, h⟩ := Option.bind_eq_some_iff.mp h
      refine FR.tr (FR.rf _ _) (FR.tr (FR.cl (fr_Md_findLooks q1.2 g2 hq) (by decide)) ?_)
      obtain ⟨q3, hq, h⟩ := Option.bind_eq_some_iff.mp h
      refine FR.tr (FR.rf _ _) (FR.tr (FR.cl (fr_Md_looksOf a1 (Md_allBits g2) g2 q3.1 q3.2 hq) (by decide)) ?_)
      cases h
      exact (FR.rf _ _)
    · rw [if_neg hc] at h
      cases h
      exact (FR.rf _ _)
  · rw [if_neg hc] at h
    cases h
    exact (FR.rf _ _)
set_option maxRecDepth 100000 in
theorem fr_Hi_parter_l19 (c3 : Int) (K19_56 : Int → Gx → Option (Int × Gx)) (W : List Nat) (hW : ∀ c ∈ ([] : List Nat), c ∈ W) (hK19_56 : ∀ (x4 : Int) (g : Gx) (r : Int) (g' : Gx), K19_56 x4 g = some (r, g') → FR W g g') : ∀ (n19 : Nat) (v4 v5 : Int) (g : Gx) (r : Int) (g' : Gx), Hi_parter_l19 c3 K19_56 n19 v4 v5 g = some (r, g') → FR W g g' := by
  intro n19
  induction n19 with
  | zero => intro v4 v5 g r g' h; cases h
  | succ n19 ih19 =>
    intro v4 v5 g r g' h
    rw [Hi_parter_l19] at h
    by_cases hc : c3 ≤ v5
    · rw [if_pos hc] at h
      exact FR.tr (FR.rf _ _) (hK19_56 v4 g r g' h)
    · rw [if_neg hc] at h
      by_cases hc : (rat g 43 30 v4) ≤ (rat g 43 30 v5)
      · rw [if_pos hc] at h
        exact FR.tr (FR.rf _ _) (ih19 v4 (wr (v5 + 1)) g r g' h)
      · rw [if_neg hc] at h
        exact FR.tr (FR.rf _ _) (ih19 v5 (wr (v5 + 1)) g r g' h)
set_option maxRecDepth 100000 in
theorem fr_Hi_parter (a1 a2 : Int) (g : Gx) (r : Int) (g' : Gx) (h : Hi_parter a1 a2 g = some (r, g')) : FR [] g g' := by
  rw [Hi_parter] at h
  refine FR.tr (FR.rf _ _) (fr_Hi_parter_l19 (imax a1 a2) _ [] (by decide) ?_ fu (imin a1 a2) (wr ((imin a1 a2) + 1)) g r g' h)
  · intro x1 g2 r g' h
    cases h
    exact (FR.rf _ _)
set_option maxRecDepth 100000 in
theorem fr_Op_parts (a1 a2 : Int) (g : Gx) (r : Int) (g' : Gx) (h : Op_parts a1 a2 g = some (r, g')) : FR [9, 11, 13, 15, 17, 19, 21, 23, 25, 27, 30, 32, 35, 37, 39, 41, 43, 45, 47, 49, 1458, 1459, 1460, 2796, 2797, 2798, 2799, 2800, 2801, 3121, 3122, 3123, 3124, 3125, 3126, 3127, 3128] g g' := by
  rw [Op_parts] at h
  by_cases hc : (Op_isHistory a1) = 0
  · rw [if_pos hc] at h
    cases h
    exact (FR.rf _ _)
  · rw [if_neg hc] at h
    by_cases hc : (Op_isHistory a2) = 0
    · rw [if_pos hc] at h
      cases h
      exact (FR.rf _ _)
    · rw [if_neg hc] at h
      by_cases hc : ¬ a1 = a2
      · rw [if_pos hc] at h
        obtain ⟨q1, hq, h⟩ := Option.bind_eq_some_iff.mp h
        refine FR.tr (FR.rf _ _) (FR.tr (FR.cl (fr_Op_hindrance (imax a1 a2) g q1.1 q1.2 hq) (by decide)) ?_)
        by_cases hc : q1.1 = 0
        · rw [if_pos hc] at h
          obtain ⟨q2, hq, h⟩ := Option.bind_eq_some_iff.mp h
          refine FR.tr (FR.rf _ _) (FR.tr (FR.cl (fr_Hi_parter a1 a2 q1.2 q2.1 q2.2 hq) (by decide)) ?_)
          cases h
          exact (FR.rf _ _)
        · rw [if_neg hc] at h
          cases h
          exact (FR.rf _ _)
      · rw [if_neg hc] at h
        cases h
        exact (FR.rf _ _)
set_option maxRecDepth 100000 in
theorem fr_Md_parting_l2 (c1 : Int) (c2 : Int) (K2_33 : Int → Gx → Option (Int × Gx)) (W : List Nat) (hW : ∀ c ∈ ([] : List Nat), c ∈ W) (hK2_33 : ∀ (x3 : Int) (g : Gx) (r : Int) (g' : Gx), K2_33 x3 g = some (r, g') → FR W g g') : ∀ (n2 : Nat) (v3 : Int) (g : Gx) (r : Int) (g' : Gx), Md_parting_l2 c1 c2 K2_33 n2 v3 g = some (r, g') → FR W g g' := by
  intro n2
  induction n2 with
  | zero => intro v3 g r g' h; cases h
  | succ n2 ih2 =>
    intro v3 g r g' h
    rw [Md_parting_l2] at h
    by_cases hc : 0 ≤ (wr ((wr (30 * c1)) + v3)) ∧ (wr ((wr (30 * c1)) + v3)) < 900
    · rw [if_pos hc] at h
      by_cases hc : 0 ≤ (wr ((wr (30 * c2)) + v3)) ∧ (wr ((wr (30 * c2)) + v3)) < 900
      · rw [if_pos hc] at h
        by_cases hc : ¬ (g 112 (wr ((wr (30 * c1)) + v3)).toNat) = (g 112 (wr ((wr (30 * c2)) + v3)).toNat)
        · rw [if_pos hc] at h
          exact FR.tr (FR.rf _ _) (hK2_33 v3 g r g' h)
        · rw [if_neg hc] at h
          exact FR.tr (FR.rf _ _) (ih2 (wr (v3 + 1)) g r g' h)
      · rw [if_neg hc] at h; cases h
    · rw [if_neg hc] at h; cases h
set_option maxRecDepth 100000 in
theorem fr_Md_parting (a1 a2 : Int) (g : Gx) (r : Int) (g' : Gx) (h : Md_parting a1 a2 g = some (r, g')) : FR [] g g' := by
  rw [Md_parting] at h
  refine FR.tr (FR.rf _ _) (fr_Md_parting_l2 a1 a2 _ [] (by decide) ?_ fu 0 g r g' h)
  · intro x1 g2 r g' h
    by_cases hc : 0 ≤ (wr ((wr (30 * a1)) + x1)) ∧ (wr ((wr (30 * a1)) + x1)) < 900
    · rw [if_pos hc] at h
      cases h
      exact (FR.rf _ _)
    · rw [if_neg hc] at h; cases h
set_option maxRecDepth 100000 in
theorem fr_Md_parts (a1 a2 : Int) (g : Gx) (r : Int) (g' : Gx) (h : Md_parts a1 a2 g = some (r, g')) : FR [99, 100, 101, 102, 103, 104, 105, 110, 111, 112, 113, 114, 115, 116, 117, 6896, 6897, 6904, 6905, 6906, 6908, 6914, 6923, 6924] g g' := by
  rw [Md_parts] at h
  by_cases hc : (Md_isHistory a1) = 0
  · rw [if_pos hc] at h
    cases h
    exact (FR.rf _ _)
  · rw [if_neg hc] at h
    by_cases hc : (Md_isHistory a2) = 0
    · rw [if_pos hc] at h
      cases h
      exact (FR.rf _ _)
    · rw [if_neg hc] at h
      by_cases hc : ¬ a1 = a2
      · rw [if_pos hc] at h
        obtain ⟨y1, hy1, h⟩ := lett_inv h
        obtain ⟨q2, hq, h⟩ := Option.bind_eq_some_iff.mp h
        refine FR.tr (FR.rf _ _) (FR.tr (FR.cl (fr_Md_lacksOne y1 g q2.1 q2.2 hq) (by decide)) ?_)
        by_cases hc : q2.1 = 0
        · rw [if_pos hc] at h
          obtain ⟨q3, hq, h⟩ := Option.bind_eq_some_iff.mp h
          refine FR.tr (FR.rf _ _) (FR.tr (FR.cl (fr_Md_parting a1 a2 q2.2 q3.1 q3.2 hq) (by decide)) ?_)
          cases h
          exact (FR.rf _ _)
        · rw [if_neg hc] at h
          cases h
          exact (FR.rf _ _)
      · rw [if_neg hc] at h
        cases h
        exact (FR.rf _ _)
set_option maxRecDepth 100000 in
theorem fr_Kn_searchFor_l17 (c1 : Int) (c2 : Int) (K17_122 : Gx → Option (Int × Gx)) (W : List Nat) (hW : ∀ c ∈ ([57] : List Nat), c ∈ W) (hK17_122 : ∀ (g : Gx) (r : Int) (g' : Gx), K17_122 g = some (r, g') → FR W g g') : ∀ (n17 : Nat) (v3 : Int) (g : Gx) (r : Int) (g' : Gx), Kn_searchFor_l17 c1 c2 K17_122 n17 v3 g = some (r, g') → FR W g g' := by
  intro n17
  induction n17 with
  | zero => intro v3 g r g' h; cases h
  | succ n17 ih17 =>
    intro v3 g r g' h
    rw [Kn_searchFor_l17] at h
    by_cases hc : (Hi_size g) ≤ v3
    · rw [if_pos hc] at h
      exact FR.tr (FR.rf _ _) (hK17_122 g r g' h)
    · rw [if_neg hc] at h
      obtain ⟨q1, hq, h⟩ := Option.bind_eq_some_iff.mp h
      refine FR.tr (FR.rf _ _) (FR.tr (FR.cl (fr_Lk_common c2 v3 g q1.1 q1.2 hq) (sub_tr (by decide) hW)) ?_)
      by_cases hc : ¬ (Lk_bothEnd c2 v3 q1.1 q1.2) = 0
      · rw [if_pos hc] at h
        exact FR.tr (FR.rf _ _) (ih17 (wr (v3 + 1)) q1.2 r g' h)
      · rw [if_neg hc] at h
        by_cases hc : ¬ (Kn_bothGet c2 v3 q1.1 q1.2) = 0
        · rw [if_pos hc] at h
          exact FR.tr (FR.rf _ _) (ih17 (wr (v3 + 1)) q1.2 r g' h)
        · rw [if_neg hc] at h
          obtain ⟨q2, hq, h⟩ := Option.bind_eq_some_iff.mp h
          refine FR.tr (FR.rf _ _) (FR.tr (FR.cl (fr_Hi_parter c2 v3 q1.2 q2.1 q2.2 hq) (sub_tr (by decide) hW)) ?_)
          by_cases hc : q2.1 = c1
          · rw [if_pos hc] at h
            exact FR.tr (FR.rf _ _) (ih17 (wr (v3 + 1)) q2.2 r g' h)
          · rw [if_neg hc] at h
            cases h
            exact (FR.rs (FR.rs (FR.rs (FR.rs (FR.rf _ _) (hW _ (by decide))) (hW _ (by decide))) (hW _ (by decide))) (hW _ (by decide)))
set_option maxRecDepth 100000 in
theorem fr_Kn_searchFor_l2 (c1 : Int) (K2_128 : Gx → Option (Int × Gx)) (W : List Nat) (hW : ∀ c ∈ ([57] : List Nat), c ∈ W) (hK2_128 : ∀ (g : Gx) (r : Int) (g' : Gx), K2_128 g = some (r, g') → FR W g g') : ∀ (n2 : Nat) (v2 : Int) (g : Gx) (r : Int) (g' : Gx), Kn_searchFor_l2 c1 K2_128 n2 v2 g = some (r, g') → FR W g g' := by
  intro n2
  induction n2 with
  | zero => intro v2 g r g' h; cases h
  | succ n2 ih2 =>
    intro v2 g r g' h
    rw [Kn_searchFor_l2] at h
    by_cases hc : (Hi_size g) ≤ v2
    · rw [if_pos hc] at h
      exact FR.tr (FR.rf _ _) (hK2_128 g r g' h)
    · rw [if_neg hc] at h
      refine FR.tr (FR.rf _ _) (fr_Kn_searchFor_l17 c1 v2 _ W (sub_tr (by decide) hW) ?_ fu (wr (v2 + 1)) g r g' h)
      · intro g3 r g' h
        exact FR.tr (FR.rf _ _) (ih2 (wr (v2 + 1)) g3 r g' h)
set_option maxRecDepth 100000 in
theorem fr_Kn_searchFor (a1 : Int) (g : Gx) (r : Int) (g' : Gx) (h : Kn_searchFor a1 g = some (r, g')) : FR [57] g g' := by
  rw [Kn_searchFor] at h
  refine FR.tr (FR.rf _ _) (fr_Kn_searchFor_l2 a1 _ [57] (by decide) ?_ fu 0 g r g' h)
  · intro g4 r g' h
    cases h
    exact (FR.rf _ _)
set_option maxRecDepth 100000 in
theorem fr_Kn_search_l36 (K36_65 : Gx → Option Gx) (W : List Nat) (hW : ∀ c ∈ ([52, 54, 57] : List Nat), c ∈ W) (hK36_65 : ∀ (g : Gx) (g' : Gx), K36_65 g = some g' → FR W g g') : ∀ (n36 : Nat) (v1 : Int) (g : Gx) (g' : Gx), Kn_search_l36 K36_65 n36 v1 g = some g' → FR W g g' := by
  intro n36
  induction n36 with
  | zero => intro v1 g g' h; cases h
  | succ n36 ih36 =>
    intro v1 g g' h
    rw [Kn_search_l36] at h
    by_cases hc : 6 ≤ v1
    · rw [if_pos hc] at h
      exact FR.tr (FR.rf _ _) (hK36_65 g g' h)
    · rw [if_neg hc] at h
      obtain ⟨g1, hq, h⟩ := Option.bind_eq_some_iff.mp h
      refine FR.tr (FR.rf _ _) (FR.tr (FR.cl (fr_Lk_load v1 g g1 hq) (sub_tr (by decide) hW)) ?_)
      obtain ⟨q2, hq, h⟩ := Option.bind_eq_some_iff.mp h
      refine FR.tr (FR.rf _ _) (FR.tr (FR.cl (fr_Kn_searchFor v1 g1 q2.1 q2.2 hq) (sub_tr (by decide) hW)) ?_)
      by_cases hc : q2.1 = 0
      · rw [if_pos hc] at h
        exact FR.tr (FR.rf _ _) (ih36 (wr (v1 + 1)) q2.2 g' h)
      · rw [if_neg hc] at h
        cases h
        exact (FR.rf _ _)
set_option maxRecDepth 100000 in
theorem fr_Kn_search (g : Gx) (g' : Gx) (h : Kn_search g = some g') : FR [52, 54, 57, 4525] g g' := by
  rw [Kn_search] at h
  by_cases hc : ¬ (g 55 5) = (Hi_makings g)
  · rw [if_pos hc] at h
    refine FR.tr (FR.rl (FR.go (FR.rf _ _) ⟨rfl, by decide⟩) (by decide)) (fr_Kn_search_l36 _ [52, 54, 57, 4525] (by decide) ?_ fu 0 (rfill (gset g 55 5 (Hi_makings g)) 57 4 (-1)) g' h)
    · intro g3 g' h
      cases h
      exact (FR.rf _ _)
  · rw [if_neg hc] at h
    cases h
    exact (FR.rf _ _)
set_option maxRecDepth 100000 in
theorem fr_Kn_soundness (g : Gx) (r : Int) (g' : Gx) (h : Kn_soundness g = some (r, g')) : FR [52, 54, 57, 4525] g g' := by
  rw [Kn_soundness] at h
  obtain ⟨g1, hq, h⟩ := Option.bind_eq_some_iff.mp h
  refine FR.tr (FR.rf _ _) (FR.tr (FR.cl (fr_Kn_search g g1 hq) (by decide)) ?_)
  by_cases hc : ¬ (rat g1 57 4 0) = (-1)
  · rw [if_pos hc] at h
    cases h
    exact (FR.rf _ _)
  · rw [if_neg hc] at h
    cases h
    exact (FR.rf _ _)
set_option maxRecDepth 100000 in
theorem fr_Op_sound (g : Gx) (r : Int) (g' : Gx) (h : Op_sound g = some (r, g')) : FR [9, 11, 13, 15, 17, 19, 21, 23, 25, 27, 30, 32, 35, 37, 39, 41, 43, 45, 47, 49, 52, 54, 57, 1458, 1459, 1460, 2796, 2797, 2798, 2799, 2800, 2801, 3121, 3122, 3123, 3124, 3125, 3126, 3127, 3128, 4525] g g' := by
  rw [Op_sound] at h
  obtain ⟨q1, hq, h⟩ := Option.bind_eq_some_iff.mp h
  refine FR.tr (FR.rf _ _) (FR.tr (FR.cl (fr_Op_hindrance 0 g q1.1 q1.2 hq) (by decide)) ?_)
  by_cases hc : q1.1 = 0
  · rw [if_pos hc] at h
    obtain ⟨q2, hq, h⟩ := Option.bind_eq_some_iff.mp h
    refine FR.tr (FR.rf _ _) (FR.tr (FR.cl (fr_Kn_soundness q1.2 q2.1 q2.2 hq) (by decide)) ?_)
    cases h
    exact (FR.rf _ _)
  · rw [if_neg hc] at h
    cases h
    exact (FR.rf _ _)
set_option maxRecDepth 100000 in
theorem fr_Md_isSound_l26 (c1 : Int) (c2 : Int) (K26_124 : Gx → Option (Int × Gx)) (W : List Nat) (hW : ∀ c ∈ ([120] : List Nat), c ∈ W) (hK26_124 : ∀ (g : Gx) (r : Int) (g' : Gx), K26_124 g = some (r, g') → FR W g g') : ∀ (n26 : Nat) (v3 : Int) (g : Gx) (r : Int) (g' : Gx), Md_isSound_l26 c1 c2 K26_124 n26 v3 g = some (r, g') → FR W g g' := by
  intro n26
  induction n26 with
  | zero => intro v3 g r g' h; cases h
  | succ n26 ih26 =>
    intro v3 g r g' h
    rw [Md_isSound_l26] at h
    by_cases hc : (g 92 26) ≤ v3
    · rw [if_pos hc] at h
      exact FR.tr (FR.rf _ _) (hK26_124 g r g' h)
    · rw [if_neg hc] at h
      obtain ⟨q2, hq, h⟩ := Option.bind_eq_some_iff.mp h
      refine FR.tr (FR.rf _ _) (FR.tr (FR.cl (fr_Md_unlike c1 c2 v3 g q2.1 q2.2 hq) (sub_tr (by decide) hW)) ?_)
      by_cases hc : q2.1 = (-1)
      · rw [if_pos hc] at h
        exact FR.tr (FR.rf _ _) (ih26 (wr (v3 + 1)) q2.2 r g' h)
      · rw [if_neg hc] at h
        obtain ⟨q3, hq, h⟩ := Option.bind_eq_some_iff.mp h
        refine FR.tr (FR.rf _ _) (FR.tr (FR.cl (fr_Md_parting c2 v3 q2.2 q3.1 q3.2 hq) (sub_tr (by decide) hW)) ?_)
        by_cases hc : q3.1 = c1
        · rw [if_pos hc] at h
          exact FR.tr (FR.rf _ _) (ih26 (wr (v3 + 1)) q3.2 r g' h)
        · rw [if_neg hc] at h
          obtain ⟨q4, hq, h⟩ := Option.bind_eq_some_iff.mp h
          refine FR.tr (FR.rf _ _) (FR.tr (FR.cl (fr_Md_lookAt c1 c2 q2.1 q3.2 q4.1 q4.2 hq) (sub_tr (by decide) hW)) ?_)
          by_cases hc : q4.1 < 20000
          · rw [if_pos hc] at h
            cases h
            exact (FR.gs (FR.gs (FR.gs (FR.gs (FR.rf _ _) (hW _ (by decide))) (hW _ (by decide))) (hW _ (by decide))) (hW _ (by decide)))
          · rw [if_neg hc] at h
            obtain ⟨q5, hq, h⟩ := Option.bind_eq_some_iff.mp h
            refine FR.tr (FR.rf _ _) (FR.tr (FR.cl (fr_Md_lookAt c1 v3 q2.1 q4.2 q5.1 q5.2 hq) (sub_tr (by decide) hW)) ?_)
            by_cases hc : 20000 ≤ q5.1
            · rw [if_pos hc] at h
              exact FR.tr (FR.rf _ _) (ih26 (wr (v3 + 1)) q5.2 r g' h)
            · rw [if_neg hc] at h
              cases h
              exact (FR.gs (FR.gs (FR.gs (FR.gs (FR.rf _ _) (hW _ (by decide))) (hW _ (by decide))) (hW _ (by decide))) (hW _ (by decide)))
set_option maxRecDepth 100000 in
theorem fr_Md_isSound_l14 (c1 : Int) (K14_130 : Gx → Option (Int × Gx)) (W : List Nat) (hW : ∀ c ∈ ([120] : List Nat), c ∈ W) (hK14_130 : ∀ (g : Gx) (r : Int) (g' : Gx), K14_130 g = some (r, g') → FR W g g') : ∀ (n14 : Nat) (v2 : Int) (g : Gx) (r : Int) (g' : Gx), Md_isSound_l14 c1 K14_130 n14 v2 g = some (r, g') → FR W g g' := by
  intro n14
  induction n14 with
  | zero => intro v2 g r g' h; cases h
  | succ n14 ih14 =>
    intro v2 g r g' h
    rw [Md_isSound_l14] at h
    by_cases hc : (g 92 26) ≤ v2
    · rw [if_pos hc] at h
      exact FR.tr (FR.rf _ _) (hK14_130 g r g' h)
    · rw [if_neg hc] at h
      refine FR.tr (FR.rf _ _) (fr_Md_isSound_l26 c1 v2 _ W (sub_tr (by decide) hW) ?_ fu (wr (v2 + 1)) g r g' h)
      · intro g6 r g' h
        exact FR.tr (FR.rf _ _) (ih14 (wr (v2 + 1)) g6 r g' h)
set_option maxRecDepth 100000 in
theorem fr_Md_isSound_l6 (K6_136 : Gx → Option (Int × Gx)) (W : List Nat) (hW : ∀ c ∈ ([120] : List Nat), c ∈ W) (hK6_136 : ∀ (g : Gx) (r : Int) (g' : Gx), K6_136 g = some (r, g') → FR W g g') : ∀ (n6 : Nat) (v1 : Int) (g : Gx) (r : Int) (g' : Gx), Md_isSound_l6 K6_136 n6 v1 g = some (r, g') → FR W g g' := by
  intro n6
  induction n6 with
  | zero => intro v1 g r g' h; cases h
  | succ n6 ih6 =>
    intro v1 g r g' h
    rw [Md_isSound_l6] at h
    by_cases hc : 6 ≤ v1
    · rw [if_pos hc] at h
      exact FR.tr (FR.rf _ _) (hK6_136 g r g' h)
    · rw [if_neg hc] at h
      refine FR.tr (FR.rf _ _) (fr_Md_isSound_l14 v1 _ W (sub_tr (by decide) hW) ?_ fu 0 g r g' h)
      · intro g7 r g' h
        exact FR.tr (FR.rf _ _) (ih6 (wr (v1 + 1)) g7 r g' h)
set_option maxRecDepth 100000 in
theorem fr_Md_isSound (g : Gx) (r : Int) (g' : Gx) (h : Md_isSound g = some (r, g')) : FR [118, 119, 120] g g' := by
  rw [Md_isSound] at h
  obtain ⟨g1, hq, h⟩ := Option.bind_eq_some_iff.mp h
  refine FR.tr (FR.rf _ _) (FR.tr (FR.cl (fr_Md_findLooks g g1 hq) (by decide)) ?_)
  refine FR.tr (FR.rf _ _) (fr_Md_isSound_l6 _ [118, 119, 120] (by decide) ?_ fu 0 g1 r g' h)
  · intro g8 r g' h
    cases h
    exact (FR.rf _ _)
set_option maxRecDepth 100000 in
theorem fr_Md_sound (g : Gx) (r : Int) (g' : Gx) (h : Md_sound g = some (r, g')) : FR [99, 100, 101, 102, 103, 104, 105, 110, 111, 112, 113, 114, 115, 116, 117, 118, 119, 120, 6896, 6897, 6904, 6905, 6906, 6908, 6914, 6923, 6924] g g' := by
  rw [Md_sound] at h
  obtain ⟨q1, hq, h⟩ := Option.bind_eq_some_iff.mp h
  refine FR.tr (FR.rf _ _) (FR.tr (FR.cl (fr_Md_without g q1.1 q1.2 hq) (by decide)) ?_)
  by_cases hc : q1.1 = 0
  · rw [if_pos hc] at h
    obtain ⟨q2, hq, h⟩ := Option.bind_eq_some_iff.mp h
    refine FR.tr (FR.rf _ _) (FR.tr (FR.cl (fr_Md_isSound q1.2 q2.1 q2.2 hq) (by decide)) ?_)
    by_cases hc : q2.1 = 0
    · rw [if_pos hc] at h
      cases h
      exact (FR.rf _ _)
    · rw [if_neg hc] at h
      cases h
      exact (FR.rf _ _)
  · rw [if_neg hc] at h
    cases h
    exact (FR.rf _ _)
set_option maxRecDepth 100000 in
theorem fr_Kn_momentPart (a1 : Int) (g : Gx) (r : Int) (g' : Gx) (h : Kn_momentPart a1 g = some (r, g')) : FR [52, 54, 57, 4525] g g' := by
  rw [Kn_momentPart] at h
  obtain ⟨g1, hq, h⟩ := Option.bind_eq_some_iff.mp h
  refine FR.tr (FR.rf _ _) (FR.tr (FR.cl (fr_Kn_search g g1 hq) (by decide)) ?_)
  cases h
  exact (FR.rf _ _)
set_option maxRecDepth 100000 in
theorem fr_Op_moment (a1 : Int) (g : Gx) (r : Int) (g' : Gx) (h : Op_moment a1 g = some (r, g')) : FR [9, 11, 13, 15, 17, 19, 21, 23, 25, 27, 30, 32, 35, 37, 39, 41, 43, 45, 47, 49, 52, 54, 57, 1458, 1459, 1460, 2796, 2797, 2798, 2799, 2800, 2801, 3121, 3122, 3123, 3124, 3125, 3126, 3127, 3128, 4525] g g' := by
  rw [Op_moment] at h
  by_cases hc : a1 < 0
  · rw [if_pos hc] at h
    cases h
    exact (FR.rf _ _)
  · rw [if_neg hc] at h
    by_cases hc : a1 ≤ 3
    · rw [if_pos hc] at h
      obtain ⟨q1, hq, h⟩ := Option.bind_eq_some_iff.mp h
      refine FR.tr (FR.rf _ _) (FR.tr (FR.cl (fr_Op_hindrance 0 g q1.1 q1.2 hq) (by decide)) ?_)
      by_cases hc : q1.1 = 0
      · rw [if_pos hc] at h
        obtain ⟨q2, hq, h⟩ := Option.bind_eq_some_iff.mp h
        refine FR.tr (FR.rf _ _) (FR.tr (FR.cl (fr_Kn_momentPart a1 q1.2 q2.1 q2.2 hq) (by decide)) ?_)
        cases h
        exact (FR.rf _ _)
      · rw [if_neg hc] at h
        cases h
        exact (FR.rf _ _)
    · rw [if_neg hc] at h
      cases h
      exact (FR.rf _ _)
set_option maxRecDepth 100000 in
theorem fr_Md_momentOf (a1 : Int) (g : Gx) (r : Int) (g' : Gx) (h : Md_momentOf a1 g = some (r, g')) : FR [99, 100, 101, 102, 103, 104, 105, 110, 111, 112, 113, 114, 115, 116, 117, 118, 119, 120, 6896, 6897, 6904, 6905, 6906, 6908, 6914, 6923, 6924] g g' := by
  rw [Md_momentOf] at h
  obtain ⟨q1, hq, h⟩ := Option.bind_eq_some_iff.mp h
  refine FR.tr (FR.rf _ _) (FR.tr (FR.cl (fr_Md_without g q1.1 q1.2 hq) (by decide)) ?_)
  by_cases hc : q1.1 = 0
  · rw [if_pos hc] at h
    obtain ⟨q2, hq, h⟩ := Option.bind_eq_some_iff.mp h
    refine FR.tr (FR.rf _ _) (FR.tr (FR.cl (fr_Md_isSound q1.2 q2.1 q2.2 hq) (by decide)) ?_)
    by_cases hc : q2.1 = 0
    · rw [if_pos hc] at h
      by_cases hc : 0 ≤ a1 ∧ a1 < 4
      · rw [if_pos hc] at h
        cases h
        exact (FR.rf _ _)
      · rw [if_neg hc] at h; cases h
    · rw [if_neg hc] at h
      cases h
      exact (FR.rf _ _)
  · rw [if_neg hc] at h
    cases h
    exact (FR.rf _ _)
