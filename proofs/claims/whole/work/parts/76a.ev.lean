/-! The small machine does what the functions say. Printed by wip/gen/gen_parts.py. -/
set_option maxRecDepth 100000 in
set_option maxHeartbeats 4000000 in
theorem ev_Tx_append1 (a1 : Int) (g : Gx) (r : Int) (g' : Gx) (h : Tx_append1 a1 g = (r, g')) : Ev 1 0 [some (.inr (.inr 1)), some (.inl a1)] [] g (some (.inl r)) g' := by
  rw [Tx_append1] at h
  refine ev_runs 4 (0, [some (.inr (.inr 1)), some (.inl a1)], [], g) (8, [some (.inr (.inr 1)), some (.inl a1)], [.inl (g 1 1), .inl (g 1 2)], g) rfl ?_
  by_cases hc : (g 1 2) < (g 1 1)
  · rw [if_pos hc] at h
    refine es (13, [some (.inr (.inr 1)), some (.inl a1)], [], g) (congrArg some (if_pos hc)) ?_
    refine ev_runs 5 (13, [some (.inr (.inr 1)), some (.inl a1)], [], g) (22, [some (.inr (.inr 1)), some (.inl a1)], [.inl a1, .inl (g 1 2), .inr (.inr 2)], g) rfl ?_
    refine ec 0 25 [.inr (.inr 2), .inl (g 1 2), .inl a1] [] rfl (ev_Row_set rfl rfl _ _ _) ?_
    show Ev 1 25 [some (.inr (.inr 1)), some (.inl a1)] [] (rset g 3 160 (g 1 2) a1) _ _
    refine ev_runs 13 (25, [some (.inr (.inr 1)), some (.inl a1)], [], (rset g 3 160 (g 1 2) a1)) (46, [some (.inr (.inr 1)), some (.inl a1)], [.inl 1], (gset (gset (rset g 3 160 (g 1 2) a1) 1 2 (wr ((g 1 2) + 1))) 1 3 (wr ((g 1 3) + 1)))) rfl ?_
    cases h
    exact er rfl
  · rw [if_neg hc] at h
    refine es (11, [some (.inr (.inr 1)), some (.inl a1)], [], g) (congrArg some (if_neg hc)) ?_
    refine ev_runs 1 (11, [some (.inr (.inr 1)), some (.inl a1)], [], g) (12, [some (.inr (.inr 1)), some (.inl a1)], [.inl 0], g) rfl ?_
    cases h
    exact er rfl
set_option maxRecDepth 100000 in
set_option maxHeartbeats 4000000 in
theorem ev_Tx_append4 (a1 : Int) (g : Gx) (r : Int) (g' : Gx) (h : Tx_append4 a1 g = (r, g')) : Ev 1 0 [some (.inr (.inr 4)), some (.inl a1)] [] g (some (.inl r)) g' := by
  rw [Tx_append4] at h
  refine ev_runs 4 (0, [some (.inr (.inr 4)), some (.inl a1)], [], g) (8, [some (.inr (.inr 4)), some (.inl a1)], [.inl (g 4 1), .inl (g 4 2)], g) rfl ?_
  by_cases hc : (g 4 2) < (g 4 1)
  · rw [if_pos hc] at h
    refine es (13, [some (.inr (.inr 4)), some (.inl a1)], [], g) (congrArg some (if_pos hc)) ?_
    refine ev_runs 5 (13, [some (.inr (.inr 4)), some (.inl a1)], [], g) (22, [some (.inr (.inr 4)), some (.inl a1)], [.inl a1, .inl (g 4 2), .inr (.inr 5)], g) rfl ?_
    refine ec 0 25 [.inr (.inr 5), .inl (g 4 2), .inl a1] [] rfl (ev_Row_set rfl rfl _ _ _) ?_
    show Ev 1 25 [some (.inr (.inr 4)), some (.inl a1)] [] (rset g 6 80 (g 4 2) a1) _ _
    refine ev_runs 13 (25, [some (.inr (.inr 4)), some (.inl a1)], [], (rset g 6 80 (g 4 2) a1)) (46, [some (.inr (.inr 4)), some (.inl a1)], [.inl 1], (gset (gset (rset g 6 80 (g 4 2) a1) 4 2 (wr ((g 4 2) + 1))) 4 3 (wr ((g 4 3) + 1)))) rfl ?_
    cases h
    exact er rfl
  · rw [if_neg hc] at h
    refine es (11, [some (.inr (.inr 4)), some (.inl a1)], [], g) (congrArg some (if_neg hc)) ?_
    refine ev_runs 1 (11, [some (.inr (.inr 4)), some (.inl a1)], [], g) (12, [some (.inr (.inr 4)), some (.inl a1)], [.inl 0], g) rfl ?_
    cases h
    exact er rfl
set_option maxRecDepth 100000 in
set_option maxHeartbeats 4000000 in
theorem ev_Tx_length1 (g : Gx) (r : Int) (h : Tx_length1 g = r) : Ev 2 0 [some (.inr (.inr 1))] [] g (some (.inl r)) g := by
  rw [Tx_length1] at h
  refine ev_runs 2 (0, [some (.inr (.inr 1))], [], g) (4, [some (.inr (.inr 1))], [.inl (g 1 2)], g) rfl ?_
  subst h
  exact er rfl
set_option maxRecDepth 100000 in
set_option maxHeartbeats 4000000 in
theorem ev_Tx_length4 (g : Gx) (r : Int) (h : Tx_length4 g = r) : Ev 2 0 [some (.inr (.inr 4))] [] g (some (.inl r)) g := by
  rw [Tx_length4] at h
  refine ev_runs 2 (0, [some (.inr (.inr 4))], [], g) (4, [some (.inr (.inr 4))], [.inl (g 4 2)], g) rfl ?_
  subst h
  exact er rfl
set_option maxRecDepth 100000 in
set_option maxHeartbeats 4000000 in
theorem ev_Op_type (a1 a2 : Int) (g : Gx) (r : Int) (g' : Gx) (h : Op_type a1 a2 g = (r, g')) : Ev 3 0 [some (.inr (.inr 0)), some (.inl a1), some (.inl a2), none] [] g (some (.inl r)) g' := by
  rw [Op_type] at h
  refine ev_runs 1 (0, [some (.inr (.inr 0)), some (.inl a1), some (.inl a2), none], [], g) (1, [some (.inr (.inr 0)), some (.inl a1), some (.inl a2), none], [.inl a1], g) rfl ?_
  by_cases hc : a1 < 0
  · rw [if_pos hc] at h
    refine es (20, [some (.inr (.inr 0)), some (.inl a1), some (.inl a2), none], [], g) (congrArg some (if_pos hc)) ?_
    refine ev_runs 1 (20, [some (.inr (.inr 0)), some (.inl a1), some (.inl a2), none], [], g) (22, [some (.inr (.inr 0)), some (.inl a1), some (.inl a2), none], [.inl (-2)], g) rfl ?_
    cases h
    exact er rfl
  · rw [if_neg hc] at h
    refine es (4, [some (.inr (.inr 0)), some (.inl a1), some (.inl a2), none], [], g) (congrArg some (if_neg hc)) ?_
    refine ev_runs 2 (4, [some (.inr (.inr 0)), some (.inl a1), some (.inl a2), none], [], g) (6, [some (.inr (.inr 0)), some (.inl a1), some (.inl a2), none], [.inl 1, .inl a1], g) rfl ?_
    by_cases hc : 1 < a1
    · rw [if_pos hc] at h
      refine es (20, [some (.inr (.inr 0)), some (.inl a1), some (.inl a2), none], [], g) (congrArg some (if_pos hc)) ?_
      refine ev_runs 1 (20, [some (.inr (.inr 0)), some (.inl a1), some (.inl a2), none], [], g) (22, [some (.inr (.inr 0)), some (.inl a1), some (.inl a2), none], [.inl (-2)], g) rfl ?_
      cases h
      exact er rfl
    · rw [if_neg hc] at h
      refine es (9, [some (.inr (.inr 0)), some (.inl a1), some (.inl a2), none], [], g) (congrArg some (if_neg hc)) ?_
      refine ev_runs 1 (9, [some (.inr (.inr 0)), some (.inl a1), some (.inl a2), none], [], g) (10, [some (.inr (.inr 0)), some (.inl a1), some (.inl a2), none], [.inl a2], g) rfl ?_
      by_cases hc : a2 < 0
      · rw [if_pos hc] at h
        refine es (20, [some (.inr (.inr 0)), some (.inl a1), some (.inl a2), none], [], g) (congrArg some (if_pos hc)) ?_
        refine ev_runs 1 (20, [some (.inr (.inr 0)), some (.inl a1), some (.inl a2), none], [], g) (22, [some (.inr (.inr 0)), some (.inl a1), some (.inl a2), none], [.inl (-2)], g) rfl ?_
        cases h
        exact er rfl
      · rw [if_neg hc] at h
        refine es (13, [some (.inr (.inr 0)), some (.inl a1), some (.inl a2), none], [], g) (congrArg some (if_neg hc)) ?_
        refine ev_runs 2 (13, [some (.inr (.inr 0)), some (.inl a1), some (.inl a2), none], [], g) (17, [some (.inr (.inr 0)), some (.inl a1), some (.inl a2), none], [.inl 255, .inl a2], g) rfl ?_
        by_cases hc : a2 ≤ 255
        · rw [if_pos hc] at h
          refine es (23, [some (.inr (.inr 0)), some (.inl a1), some (.inl a2), none], [], g) (congrArg some (if_pos hc)) ?_
          refine ev_runs 1 (23, [some (.inr (.inr 0)), some (.inl a1), some (.inl a2), none], [], g) (24, [some (.inr (.inr 0)), some (.inl a1), some (.inl a2), none], [.inl a1], g) rfl ?_
          by_cases hc : ¬ a1 = 0
          · rw [if_pos hc] at h
            refine es (34, [some (.inr (.inr 0)), some (.inl a1), some (.inl a2), none], [], g) (congrArg some (if_pos hc)) ?_
            refine ev_runs 5 (34, [some (.inr (.inr 0)), some (.inl a1), some (.inl a2), none], [], g) (41, [some (.inr (.inr 0)), some (.inl a1), some (.inl a2), some (.inr (.inr 4))], [.inl a2, .inr (.inr 4)], g) rfl ?_
            obtain ⟨q1, hq, h⟩ := lett_inv h
            have hb_q1 : q1.1 = 0 ∨ q1.1 = 1 := by rw [hq]; exact bo_Tx_append4 a2 g
            refine ec 1 44 [.inr (.inr 4), .inl a2] [] rfl (ev_Tx_append4 a2 g q1.1 q1.2 hq.symm) ?_
            show Ev 3 44 [some (.inr (.inr 0)), some (.inl a1), some (.inl a2), some (.inr (.inr 4))] [.inl q1.1] q1.2 _ _
            by_cases hc : q1.1 = 0
            · rw [if_pos hc] at h
              refine es (54, [some (.inr (.inr 0)), some (.inl a1), some (.inl a2), some (.inr (.inr 4))], [], q1.2) (congrArg some (if_pos hc)) ?_
              refine ev_runs 1 (54, [some (.inr (.inr 0)), some (.inl a1), some (.inl a2), some (.inr (.inr 4))], [], q1.2) (56, [some (.inr (.inr 0)), some (.inl a1), some (.inl a2), some (.inr (.inr 4))], [.inl (-4)], q1.2) rfl ?_
              cases h
              exact er rfl
            · rw [if_neg hc] at h
              refine es (47, [some (.inr (.inr 0)), some (.inl a1), some (.inl a2), some (.inr (.inr 4))], [], q1.2) (congrArg some (if_neg hc)) ?_
              refine ev_runs 1 (47, [some (.inr (.inr 0)), some (.inl a1), some (.inl a2), some (.inr (.inr 4))], [], q1.2) (48, [some (.inr (.inr 0)), some (.inl a1), some (.inl a2), some (.inr (.inr 4))], [.inr (.inr 4)], q1.2) rfl ?_
              refine ec 2 51 [.inr (.inr 4)] [] rfl (ev_Tx_length4 q1.2 _ rfl) ?_
              show Ev 3 51 [some (.inr (.inr 0)), some (.inl a1), some (.inl a2), some (.inr (.inr 4))] [.inl (Tx_length4 q1.2)] q1.2 _ _
              refine ev_runs 1 (51, [some (.inr (.inr 0)), some (.inl a1), some (.inl a2), some (.inr (.inr 4))], [.inl (Tx_length4 q1.2)], q1.2) (56, [some (.inr (.inr 0)), some (.inl a1), some (.inl a2), some (.inr (.inr 4))], [.inl (Tx_length4 q1.2)], q1.2) rfl ?_
              cases h
              exact er rfl
          · rw [if_neg hc] at h
            refine es (27, [some (.inr (.inr 0)), some (.inl a1), some (.inl a2), none], [], g) (congrArg some (if_neg hc)) ?_
            refine ev_runs 6 (27, [some (.inr (.inr 0)), some (.inl a1), some (.inl a2), none], [], g) (41, [some (.inr (.inr 0)), some (.inl a1), some (.inl a2), some (.inr (.inr 1))], [.inl a2, .inr (.inr 1)], g) rfl ?_
            obtain ⟨q2, hq, h⟩ := lett_inv h
            have hb_q2 : q2.1 = 0 ∨ q2.1 = 1 := by rw [hq]; exact bo_Tx_append1 a2 g
            refine ec 1 44 [.inr (.inr 1), .inl a2] [] rfl (ev_Tx_append1 a2 g q2.1 q2.2 hq.symm) ?_
            show Ev 3 44 [some (.inr (.inr 0)), some (.inl a1), some (.inl a2), some (.inr (.inr 1))] [.inl q2.1] q2.2 _ _
            by_cases hc : q2.1 = 0
            · rw [if_pos hc] at h
              refine es (54, [some (.inr (.inr 0)), some (.inl a1), some (.inl a2), some (.inr (.inr 1))], [], q2.2) (congrArg some (if_pos hc)) ?_
              refine ev_runs 1 (54, [some (.inr (.inr 0)), some (.inl a1), some (.inl a2), some (.inr (.inr 1))], [], q2.2) (56, [some (.inr (.inr 0)), some (.inl a1), some (.inl a2), some (.inr (.inr 1))], [.inl (-4)], q2.2) rfl ?_
              cases h
              exact er rfl
            · rw [if_neg hc] at h
              refine es (47, [some (.inr (.inr 0)), some (.inl a1), some (.inl a2), some (.inr (.inr 1))], [], q2.2) (congrArg some (if_neg hc)) ?_
              refine ev_runs 1 (47, [some (.inr (.inr 0)), some (.inl a1), some (.inl a2), some (.inr (.inr 1))], [], q2.2) (48, [some (.inr (.inr 0)), some (.inl a1), some (.inl a2), some (.inr (.inr 1))], [.inr (.inr 1)], q2.2) rfl ?_
              refine ec 2 51 [.inr (.inr 1)] [] rfl (ev_Tx_length1 q2.2 _ rfl) ?_
              show Ev 3 51 [some (.inr (.inr 0)), some (.inl a1), some (.inl a2), some (.inr (.inr 1))] [.inl (Tx_length1 q2.2)] q2.2 _ _
              refine ev_runs 1 (51, [some (.inr (.inr 0)), some (.inl a1), some (.inl a2), some (.inr (.inr 1))], [.inl (Tx_length1 q2.2)], q2.2) (56, [some (.inr (.inr 0)), some (.inl a1), some (.inl a2), some (.inr (.inr 1))], [.inl (Tx_length1 q2.2)], q2.2) rfl ?_
              cases h
              exact er rfl
        · rw [if_neg hc] at h
          refine es (20, [some (.inr (.inr 0)), some (.inl a1), some (.inl a2), none], [], g) (congrArg some (if_neg hc)) ?_
          refine ev_runs 1 (20, [some (.inr (.inr 0)), some (.inl a1), some (.inl a2), none], [], g) (22, [some (.inr (.inr 0)), some (.inl a1), some (.inl a2), none], [.inl (-2)], g) rfl ?_
          cases h
          exact er rfl
set_option maxRecDepth 100000 in
set_option maxHeartbeats 4000000 in
theorem ev_Md_in (a0 a2 a4 : Int) (g : Gx) (r : Int) (h : Md_in a0 a2 a4 = r) : Ev 4 0 [some (.inr (.inl a0)), none, some (.inr (.inl a2)), none, some (.inr (.inl a4)), none] [] g (some (.inl r)) g := by
  rw [Md_in] at h
  refine ev_runs 3 (0, [some (.inr (.inl a0)), none, some (.inr (.inl a2)), none, some (.inr (.inl a4)), none], [], g) (3, [some (.inr (.inl a0)), none, some (.inr (.inl a2)), none, some (.inr (.inl a4)), none], [.inl (mcmp a0 a2)], g) rfl ?_
  by_cases hc : (mcmp a0 a2) < 0
  · rw [if_pos hc] at h
    refine es (17, [some (.inr (.inl a0)), none, some (.inr (.inl a2)), none, some (.inr (.inl a4)), none], [], g) (congrArg some (if_pos hc)) ?_
    refine ev_runs 1 (17, [some (.inr (.inl a0)), none, some (.inr (.inl a2)), none, some (.inr (.inl a4)), none], [], g) (18, [some (.inr (.inl a0)), none, some (.inr (.inl a2)), none, some (.inr (.inl a4)), none], [.inl 0], g) rfl ?_
    subst h
    exact er rfl
  · rw [if_neg hc] at h
    refine es (6, [some (.inr (.inl a0)), none, some (.inr (.inl a2)), none, some (.inr (.inl a4)), none], [], g) (congrArg some (if_neg hc)) ?_
    refine ev_runs 3 (6, [some (.inr (.inl a0)), none, some (.inr (.inl a2)), none, some (.inr (.inl a4)), none], [], g) (10, [some (.inr (.inl a0)), none, some (.inr (.inl a2)), none, some (.inr (.inl a4)), none], [.inl (mcmp a0 a4)], g) rfl ?_
    by_cases hc : 0 < (mcmp a0 a4)
    · rw [if_pos hc] at h
      refine es (17, [some (.inr (.inl a0)), none, some (.inr (.inl a2)), none, some (.inr (.inl a4)), none], [], g) (congrArg some (if_pos hc)) ?_
      refine ev_runs 1 (17, [some (.inr (.inl a0)), none, some (.inr (.inl a2)), none, some (.inr (.inl a4)), none], [], g) (18, [some (.inr (.inl a0)), none, some (.inr (.inl a2)), none, some (.inr (.inl a4)), none], [.inl 0], g) rfl ?_
      subst h
      exact er rfl
    · rw [if_neg hc] at h
      refine es (13, [some (.inr (.inl a0)), none, some (.inr (.inl a2)), none, some (.inr (.inl a4)), none], [], g) (congrArg some (if_neg hc)) ?_
      refine ev_runs 2 (13, [some (.inr (.inl a0)), none, some (.inr (.inl a2)), none, some (.inr (.inl a4)), none], [], g) (18, [some (.inr (.inl a0)), none, some (.inr (.inl a2)), none, some (.inr (.inl a4)), none], [.inl 1], g) rfl ?_
      subst h
      exact er rfl
set_option maxRecDepth 100000 in
set_option maxHeartbeats 4000000 in
theorem ev_Md_roomOf (a0 : Int) (g : Gx) (r : Int) (h : Md_roomOf a0 = r) : Ev 5 0 [some (.inl a0)] [] g (some (.inl r)) g := by
  rw [Md_roomOf] at h
  refine ev_runs 1 (0, [some (.inl a0)], [], g) (1, [some (.inl a0)], [.inl a0], g) rfl ?_
  by_cases hc : ¬ a0 = 0
  · rw [if_pos hc] at h
    refine es (10, [some (.inl a0)], [], g) (congrArg some (if_pos hc)) ?_
    refine ev_runs 1 (10, [some (.inl a0)], [], g) (12, [some (.inl a0)], [.inl 80], g) rfl ?_
    subst h
    exact er rfl
  · rw [if_neg hc] at h
    refine es (4, [some (.inl a0)], [], g) (congrArg some (if_neg hc)) ?_
    refine ev_runs 2 (4, [some (.inl a0)], [], g) (12, [some (.inl a0)], [.inl 160], g) rfl ?_
    subst h
    exact er rfl
set_option maxRecDepth 100000 in
set_option maxHeartbeats 4000000 in
theorem ev_Md_type (a1 a2 : Int) (g : Gx) (r : Int) (g' : Gx) (h : Md_type a1 a2 g = some (r, g')) : Ev 6 0 [some (.inr (.inr 92)), some (.inl a1), some (.inl a2)] [] g (some (.inl r)) g' := by
  rw [Md_type] at h
  refine ev_runs 4 (0, [some (.inr (.inr 92)), some (.inl a1), some (.inl a2)], [], g) (4, [some (.inr (.inr 92)), some (.inl a1), some (.inl a2)], [.inr (.inl 1), .inr (.inl 0), .inr (.inl a1)], g) rfl ?_
  refine ec 4 7 [.inr (.inl a1), .inr (.inl 0), .inr (.inl 1)] [] rfl (ev_Md_in a1 0 1 g _ rfl) ?_
  show Ev 6 7 [some (.inr (.inr 92)), some (.inl a1), some (.inl a2)] [.inl (Md_in a1 0 1)] g _ _
  by_cases hc : (Md_in a1 0 1) = 0
  · rw [if_pos hc] at h
    refine es (22, [some (.inr (.inr 92)), some (.inl a1), some (.inl a2)], [], g) (congrArg some (if_pos hc)) ?_
    refine ev_runs 1 (22, [some (.inr (.inr 92)), some (.inl a1), some (.inl a2)], [], g) (24, [some (.inr (.inr 92)), some (.inl a1), some (.inl a2)], [.inl (-2)], g) rfl ?_
    cases h
    exact er rfl
  · rw [if_neg hc] at h
    refine es (10, [some (.inr (.inr 92)), some (.inl a1), some (.inl a2)], [], g) (congrArg some (if_neg hc)) ?_
    refine ev_runs 4 (10, [some (.inr (.inr 92)), some (.inl a1), some (.inl a2)], [], g) (16, [some (.inr (.inr 92)), some (.inl a1), some (.inl a2)], [.inr (.inl 255), .inr (.inl 0), .inr (.inl a2)], g) rfl ?_
    refine ec 4 19 [.inr (.inl a2), .inr (.inl 0), .inr (.inl 255)] [] rfl (ev_Md_in a2 0 255 g _ rfl) ?_
    show Ev 6 19 [some (.inr (.inr 92)), some (.inl a1), some (.inl a2)] [.inl (Md_in a2 0 255)] g _ _
    by_cases hc : ¬ (Md_in a2 0 255) = 0
    · rw [if_pos hc] at h
      refine es (25, [some (.inr (.inr 92)), some (.inl a1), some (.inl a2)], [], g) (congrArg some (if_pos hc)) ?_
      refine ev_runs 3 (25, [some (.inr (.inr 92)), some (.inl a1), some (.inl a2)], [], g) (30, [some (.inr (.inr 92)), some (.inl a1), some (.inl a2)], [.inl a1, .inr (.inr 98)], g) rfl ?_
      by_cases hc : 0 ≤ a1 ∧ a1 < 2
      · rw [if_pos hc] at h
        refine es (31, [some (.inr (.inr 92)), some (.inl a1), some (.inl a2)], [.inl (g 98 a1.toNat)], g) (if_pos hc) ?_
        refine ev_runs 1 (31, [some (.inr (.inr 92)), some (.inl a1), some (.inl a2)], [.inl (g 98 a1.toNat)], g) (32, [some (.inr (.inr 92)), some (.inl a1), some (.inl a2)], [.inl a1, .inl (g 98 a1.toNat)], g) rfl ?_
        refine ec 5 35 [.inl a1] [.inl (g 98 a1.toNat)] rfl (ev_Md_roomOf a1 g _ rfl) ?_
        show Ev 6 35 [some (.inr (.inr 92)), some (.inl a1), some (.inl a2)] [.inl (Md_roomOf a1), .inl (g 98 a1.toNat)] g _ _
        by_cases hc : ¬ (g 98 a1.toNat) = (Md_roomOf a1)
        · rw [if_pos hc] at h
          refine es (41, [some (.inr (.inr 92)), some (.inl a1), some (.inl a2)], [], g) (congrArg some (if_pos hc)) ?_
          refine ev_runs 8 (41, [some (.inr (.inr 92)), some (.inl a1), some (.inl a2)], [], g) (55, [some (.inr (.inr 92)), some (.inl a1), some (.inl a2)], [.inl a1, .inr (.inr 98), .inl (wr (160 * a1)), .inr (.inr 97)], g) rfl ?_
          by_cases hc : 0 ≤ a1 ∧ a1 < 2
          · rw [if_pos hc] at h
            refine es (56, [some (.inr (.inr 92)), some (.inl a1), some (.inl a2)], [.inl (g 98 a1.toNat), .inl (wr (160 * a1)), .inr (.inr 97)], g) (if_pos hc) ?_
            refine ev_runs 2 (56, [some (.inr (.inr 92)), some (.inl a1), some (.inl a2)], [.inl (g 98 a1.toNat), .inl (wr (160 * a1)), .inr (.inr 97)], g) (58, [some (.inr (.inr 92)), some (.inl a1), some (.inl a2)], [.inl a2, .inl (wr ((wr (160 * a1)) + (g 98 a1.toNat))), .inr (.inr 97)], g) rfl ?_
            by_cases hc : 0 ≤ (wr ((wr (160 * a1)) + (g 98 a1.toNat))) ∧ (wr ((wr (160 * a1)) + (g 98 a1.toNat))) < 240
            · rw [if_pos hc] at h
              refine es (59, [some (.inr (.inr 92)), some (.inl a1), some (.inl a2)], [], (gset g 97 ((wr ((wr (160 * a1)) + (g 98 a1.toNat))).toNat) a2)) (if_pos hc) ?_
              refine ev_runs 4 (59, [some (.inr (.inr 92)), some (.inl a1), some (.inl a2)], [], (gset g 97 ((wr ((wr (160 * a1)) + (g 98 a1.toNat))).toNat) a2)) (65, [some (.inr (.inr 92)), some (.inl a1), some (.inl a2)], [.inl a1, .inr (.inr 98), .inl a1, .inr (.inr 98)], (gset g 97 ((wr ((wr (160 * a1)) + (g 98 a1.toNat))).toNat) a2)) rfl ?_
              by_cases hc : 0 ≤ a1 ∧ a1 < 2
              · rw [if_pos hc] at h
                refine es (66, [some (.inr (.inr 92)), some (.inl a1), some (.inl a2)], [.inl (g 98 a1.toNat), .inl a1, .inr (.inr 98)], (gset g 97 ((wr ((wr (160 * a1)) + (g 98 a1.toNat))).toNat) a2)) (if_pos hc) ?_
                refine ev_runs 2 (66, [some (.inr (.inr 92)), some (.inl a1), some (.inl a2)], [.inl (g 98 a1.toNat), .inl a1, .inr (.inr 98)], (gset g 97 ((wr ((wr (160 * a1)) + (g 98 a1.toNat))).toNat) a2)) (68, [some (.inr (.inr 92)), some (.inl a1), some (.inl a2)], [.inl (wr ((g 98 a1.toNat) + 1)), .inl a1, .inr (.inr 98)], (gset g 97 ((wr ((wr (160 * a1)) + (g 98 a1.toNat))).toNat) a2)) rfl ?_
                by_cases hc : 0 ≤ a1 ∧ a1 < 2
                · rw [if_pos hc] at h
                  refine es (69, [some (.inr (.inr 92)), some (.inl a1), some (.inl a2)], [], (gset (gset g 97 ((wr ((wr (160 * a1)) + (g 98 a1.toNat))).toNat) a2) 98 a1.toNat (wr ((g 98 a1.toNat) + 1)))) (if_pos hc) ?_
                  refine ev_runs 3 (69, [some (.inr (.inr 92)), some (.inl a1), some (.inl a2)], [], (gset (gset g 97 ((wr ((wr (160 * a1)) + (g 98 a1.toNat))).toNat) a2) 98 a1.toNat (wr ((g 98 a1.toNat) + 1)))) (74, [some (.inr (.inr 92)), some (.inl a1), some (.inl a2)], [.inl a1, .inr (.inr 98)], (gset (gset g 97 ((wr ((wr (160 * a1)) + (g 98 a1.toNat))).toNat) a2) 98 a1.toNat (wr ((g 98 a1.toNat) + 1)))) rfl ?_
                  by_cases hc : 0 ≤ a1 ∧ a1 < 2
                  · rw [if_pos hc] at h
                    refine es (75, [some (.inr (.inr 92)), some (.inl a1), some (.inl a2)], [.inl ((gset (gset g 97 ((wr ((wr (160 * a1)) + (g 98 a1.toNat))).toNat) a2) 98 a1.toNat (wr ((g 98 a1.toNat) + 1))) 98 a1.toNat)], (gset (gset g 97 ((wr ((wr (160 * a1)) + (g 98 a1.toNat))).toNat) a2) 98 a1.toNat (wr ((g 98 a1.toNat) + 1)))) (if_pos hc) ?_
                    cases h
                    exact er rfl
                  · rw [if_neg hc] at h; cases h
                · rw [if_neg hc] at h; cases h
              · rw [if_neg hc] at h; cases h
            · rw [if_neg hc] at h; cases h
          · rw [if_neg hc] at h; cases h
        · rw [if_neg hc] at h
          refine es (38, [some (.inr (.inr 92)), some (.inl a1), some (.inl a2)], [], g) (congrArg some (if_neg hc)) ?_
          refine ev_runs 1 (38, [some (.inr (.inr 92)), some (.inl a1), some (.inl a2)], [], g) (40, [some (.inr (.inr 92)), some (.inl a1), some (.inl a2)], [.inl (-4)], g) rfl ?_
          cases h
          exact er rfl
      · rw [if_neg hc] at h; cases h
    · rw [if_neg hc] at h
      refine es (22, [some (.inr (.inr 92)), some (.inl a1), some (.inl a2)], [], g) (congrArg some (if_neg hc)) ?_
      refine ev_runs 1 (22, [some (.inr (.inr 92)), some (.inl a1), some (.inl a2)], [], g) (24, [some (.inr (.inr 92)), some (.inl a1), some (.inl a2)], [.inl (-2)], g) rfl ?_
      cases h
      exact er rfl
set_option maxRecDepth 100000 in
set_option maxHeartbeats 4000000 in
theorem ev_Tx_empty1 (g : Gx) (r : Int) (g' : Gx) (h : Tx_empty1 g = (r, g')) : Ev 7 0 [some (.inr (.inr 1)), none] [] g (some (.inl r)) g' := by
  rw [Tx_empty1] at h
  refine ev_runs 13 (0, [some (.inr (.inr 1)), none], [], g) (21, [some (.inr (.inr 1)), some (.inl (g 1 2))], [.inl (g 1 2)], (gset (gset g 1 2 0) 1 3 (wr ((g 1 3) + 1)))) rfl ?_
  cases h
  exact er rfl
set_option maxRecDepth 100000 in
set_option maxHeartbeats 4000000 in
theorem ev_Tx_empty4 (g : Gx) (r : Int) (g' : Gx) (h : Tx_empty4 g = (r, g')) : Ev 7 0 [some (.inr (.inr 4)), none] [] g (some (.inl r)) g' := by
  rw [Tx_empty4] at h
  refine ev_runs 13 (0, [some (.inr (.inr 4)), none], [], g) (21, [some (.inr (.inr 4)), some (.inl (g 4 2))], [.inl (g 4 2)], (gset (gset g 4 2 0) 4 3 (wr ((g 4 3) + 1)))) rfl ?_
  cases h
  exact er rfl
set_option maxRecDepth 100000 in
set_option maxHeartbeats 4000000 in
theorem ev_Op_wipe (a1 : Int) (g : Gx) (r : Int) (g' : Gx) (h : Op_wipe a1 g = (r, g')) : Ev 8 0 [some (.inr (.inr 0)), some (.inl a1)] [] g (some (.inl r)) g' := by
  rw [Op_wipe] at h
  refine ev_runs 1 (0, [some (.inr (.inr 0)), some (.inl a1)], [], g) (1, [some (.inr (.inr 0)), some (.inl a1)], [.inl a1], g) rfl ?_
  by_cases hc : a1 < 0
  · rw [if_pos hc] at h
    refine es (9, [some (.inr (.inr 0)), some (.inl a1)], [], g) (congrArg some (if_pos hc)) ?_
    refine ev_runs 1 (9, [some (.inr (.inr 0)), some (.inl a1)], [], g) (11, [some (.inr (.inr 0)), some (.inl a1)], [.inl (-2)], g) rfl ?_
    cases h
    exact er rfl
  · rw [if_neg hc] at h
    refine es (4, [some (.inr (.inr 0)), some (.inl a1)], [], g) (congrArg some (if_neg hc)) ?_
    refine ev_runs 2 (4, [some (.inr (.inr 0)), some (.inl a1)], [], g) (6, [some (.inr (.inr 0)), some (.inl a1)], [.inl 1, .inl a1], g) rfl ?_
    by_cases hc : a1 ≤ 1
    · rw [if_pos hc] at h
      refine es (12, [some (.inr (.inr 0)), some (.inl a1)], [], g) (congrArg some (if_pos hc)) ?_
      refine ev_runs 2 (12, [some (.inr (.inr 0)), some (.inl a1)], [], g) (14, [some (.inr (.inr 0)), some (.inl a1)], [.inl 1, .inl a1], g) rfl ?_
      by_cases hc : ¬ a1 = 1
      · rw [if_pos hc] at h
        refine es (25, [some (.inr (.inr 0)), some (.inl a1)], [], g) (congrArg some (if_pos hc)) ?_
        refine ev_runs 5 (25, [some (.inr (.inr 0)), some (.inl a1)], [], g) (34, [some (.inr (.inr 0)), some (.inl a1)], [.inr (.inr 1)], (gset g 0 11 0)) rfl ?_
        obtain ⟨q1, hq, h⟩ := lett_inv h
        refine ec 7 37 [.inr (.inr 1)] [] rfl (ev_Tx_empty1 (gset g 0 11 0) q1.1 q1.2 hq.symm) ?_
        show Ev 8 37 [some (.inr (.inr 0)), some (.inl a1)] [.inl q1.1] q1.2 _ _
        cases h
        exact er rfl
      · rw [if_neg hc] at h
        refine es (17, [some (.inr (.inr 0)), some (.inl a1)], [], g) (congrArg some (if_neg hc)) ?_
        refine ev_runs 2 (17, [some (.inr (.inr 0)), some (.inl a1)], [], g) (21, [some (.inr (.inr 0)), some (.inl a1)], [.inr (.inr 4)], g) rfl ?_
        obtain ⟨q2, hq, h⟩ := lett_inv h
        refine ec 7 24 [.inr (.inr 4)] [] rfl (ev_Tx_empty4 g q2.1 q2.2 hq.symm) ?_
        show Ev 8 24 [some (.inr (.inr 0)), some (.inl a1)] [.inl q2.1] q2.2 _ _
        cases h
        exact er rfl
    · rw [if_neg hc] at h
      refine es (9, [some (.inr (.inr 0)), some (.inl a1)], [], g) (congrArg some (if_neg hc)) ?_
      refine ev_runs 1 (9, [some (.inr (.inr 0)), some (.inl a1)], [], g) (11, [some (.inr (.inr 0)), some (.inl a1)], [.inl (-2)], g) rfl ?_
      cases h
      exact er rfl
set_option maxRecDepth 100000 in
set_option maxHeartbeats 4000000 in
theorem ev_Md_wipe (a1 : Int) (g : Gx) (r : Int) (g' : Gx) (h : Md_wipe a1 g = some (r, g')) : Ev 9 0 [some (.inr (.inr 92)), some (.inl a1), none] [] g (some (.inl r)) g' := by
  rw [Md_wipe] at h
  refine ev_runs 4 (0, [some (.inr (.inr 92)), some (.inl a1), none], [], g) (4, [some (.inr (.inr 92)), some (.inl a1), none], [.inr (.inl 1), .inr (.inl 0), .inr (.inl a1)], g) rfl ?_
  refine ec 4 7 [.inr (.inl a1), .inr (.inl 0), .inr (.inl 1)] [] rfl (ev_Md_in a1 0 1 g _ rfl) ?_
  show Ev 9 7 [some (.inr (.inr 92)), some (.inl a1), none] [.inl (Md_in a1 0 1)] g _ _
  by_cases hc : ¬ (Md_in a1 0 1) = 0
  · rw [if_pos hc] at h
    refine es (13, [some (.inr (.inr 92)), some (.inl a1), none], [], g) (congrArg some (if_pos hc)) ?_
    refine ev_runs 3 (13, [some (.inr (.inr 92)), some (.inl a1), none], [], g) (18, [some (.inr (.inr 92)), some (.inl a1), none], [.inl a1, .inr (.inr 98)], g) rfl ?_
    by_cases hc : 0 ≤ a1 ∧ a1 < 2
    · rw [if_pos hc] at h
      refine es (19, [some (.inr (.inr 92)), some (.inl a1), none], [.inl (g 98 a1.toNat)], g) (if_pos hc) ?_
      refine ev_runs 5 (19, [some (.inr (.inr 92)), some (.inl a1), none], [.inl (g 98 a1.toNat)], g) (26, [some (.inr (.inr 92)), some (.inl a1), some (.inl (g 98 a1.toNat))], [.inl 0, .inl a1, .inr (.inr 98)], g) rfl ?_
      by_cases hc : 0 ≤ a1 ∧ a1 < 2
      · rw [if_pos hc] at h
        refine es (27, [some (.inr (.inr 92)), some (.inl a1), some (.inl (g 98 a1.toNat))], [], (gset g 98 a1.toNat 0)) (if_pos hc) ?_
        refine ev_runs 2 (27, [some (.inr (.inr 92)), some (.inl a1), some (.inl (g 98 a1.toNat))], [], (gset g 98 a1.toNat 0)) (29, [some (.inr (.inr 92)), some (.inl a1), some (.inl (g 98 a1.toNat))], [.inl a1, .inr (.inr 92)], (gset g 98 a1.toNat 0)) rfl ?_
        by_cases hc : ¬ a1 = 0
        · rw [if_pos hc] at h
          refine es (36, [some (.inr (.inr 92)), some (.inl a1), some (.inl (g 98 a1.toNat))], [.inr (.inr 92)], (gset g 98 a1.toNat 0)) (congrArg some (if_pos hc)) ?_
          refine ev_runs 4 (36, [some (.inr (.inr 92)), some (.inl a1), some (.inl (g 98 a1.toNat))], [.inr (.inr 92)], (gset g 98 a1.toNat 0)) (44, [some (.inr (.inr 92)), some (.inl a1), some (.inl (g 98 a1.toNat))], [.inl (g 98 a1.toNat)], (gset (gset g 98 a1.toNat 0) 92 7 (g 92 7))) rfl ?_
          cases h
          exact er rfl
        · rw [if_neg hc] at h
          refine es (32, [some (.inr (.inr 92)), some (.inl a1), some (.inl (g 98 a1.toNat))], [.inr (.inr 92)], (gset g 98 a1.toNat 0)) (congrArg some (if_neg hc)) ?_
          refine ev_runs 4 (32, [some (.inr (.inr 92)), some (.inl a1), some (.inl (g 98 a1.toNat))], [.inr (.inr 92)], (gset g 98 a1.toNat 0)) (44, [some (.inr (.inr 92)), some (.inl a1), some (.inl (g 98 a1.toNat))], [.inl (g 98 a1.toNat)], (gset (gset g 98 a1.toNat 0) 92 7 0)) rfl ?_
          cases h
          exact er rfl
      · rw [if_neg hc] at h; cases h
    · rw [if_neg hc] at h; cases h
  · rw [if_neg hc] at h
    refine es (10, [some (.inr (.inr 92)), some (.inl a1), none], [], g) (congrArg some (if_neg hc)) ?_
    refine ev_runs 1 (10, [some (.inr (.inr 92)), some (.inl a1), none], [], g) (12, [some (.inr (.inr 92)), some (.inl a1), none], [.inl (-2)], g) rfl ?_
    cases h
    exact er rfl
set_option maxRecDepth 100000 in
set_option maxHeartbeats 4000000 in
theorem ev_Tx_changes1 (g : Gx) (r : Int) (h : Tx_changes1 g = r) : Ev 10 0 [some (.inr (.inr 1))] [] g (some (.inl r)) g := by
  rw [Tx_changes1] at h
  refine ev_runs 2 (0, [some (.inr (.inr 1))], [], g) (4, [some (.inr (.inr 1))], [.inl (g 1 3)], g) rfl ?_
  subst h
  exact er rfl
set_option maxRecDepth 100000 in
set_option maxHeartbeats 4000000 in
theorem ev_Tx_changes4 (g : Gx) (r : Int) (h : Tx_changes4 g = r) : Ev 10 0 [some (.inr (.inr 4))] [] g (some (.inl r)) g := by
  rw [Tx_changes4] at h
  refine ev_runs 2 (0, [some (.inr (.inr 4))], [], g) (4, [some (.inr (.inr 4))], [.inl (g 4 3)], g) rfl ?_
  subst h
  exact er rfl
set_option maxRecDepth 100000 in
set_option maxHeartbeats 4000000 in
theorem ev_St_reset (g : Gx) (g' : Gx) (h : St_reset g = g') : Ev 11 0 [some (.inr (.inr 7))] [] g none g' := by
  rw [St_reset] at h
  refine ev_runs 12 (0, [some (.inr (.inr 7))], [], g) (20, [some (.inr (.inr 7))], [], (gset (gset (gset g 7 10 0) 7 11 0) 7 12 (wr ((g 7 12) + 1)))) rfl ?_
  subst h
  exact er rfl
set_option maxRecDepth 100000 in
set_option maxHeartbeats 4000000 in
theorem ev_Pr_restart (g : Gx) (g' : Gx) (h : Pr_restart g = g') : Ev 12 0 [some (.inr (.inr 28))] [] g none g' := by
  rw [Pr_restart] at h
  refine ev_runs 2 (0, [some (.inr (.inr 28))], [], g) (4, [some (.inr (.inr 28))], [.inr (.inr 7)], g) rfl ?_
  obtain ⟨g1, hq, h⟩ := lett_inv h
  refine ec 11 7 [.inr (.inr 7)] [] rfl (ev_St_reset g g1 hq.symm) ?_
  show Ev 12 7 [some (.inr (.inr 28))] [] g1 _ _
  refine ev_runs 15 (7, [some (.inr (.inr 28))], [], g1) (32, [some (.inr (.inr 28))], [], (gset (gset (gset (gset (gset g1 28 4 0) 28 5 0) 28 6 (-1)) 28 7 0) 28 8 0)) rfl ?_
  subst h
  exact er rfl
set_option maxRecDepth 100000 in
set_option maxHeartbeats 4000000 in
theorem ev_Tx_at1 (a1 : Int) (g : Gx) (r : Int) (h : Tx_at1 a1 g = r) : Ev 14 0 [some (.inr (.inr 1)), some (.inl a1)] [] g (some (.inl r)) g := by
  rw [Tx_at1] at h
  refine ev_runs 1 (0, [some (.inr (.inr 1)), some (.inl a1)], [], g) (1, [some (.inr (.inr 1)), some (.inl a1)], [.inl a1], g) rfl ?_
  by_cases hc : a1 < 0
  · rw [if_pos hc] at h
    refine es (23, [some (.inr (.inr 1)), some (.inl a1)], [], g) (congrArg some (if_pos hc)) ?_
    refine ev_runs 1 (23, [some (.inr (.inr 1)), some (.inl a1)], [], g) (24, [some (.inr (.inr 1)), some (.inl a1)], [.inl (-1)], g) rfl ?_
    subst h
    exact er rfl
  · rw [if_neg hc] at h
    refine es (4, [some (.inr (.inr 1)), some (.inl a1)], [], g) (congrArg some (if_neg hc)) ?_
    refine ev_runs 3 (4, [some (.inr (.inr 1)), some (.inl a1)], [], g) (9, [some (.inr (.inr 1)), some (.inl a1)], [.inl (g 1 2), .inl a1], g) rfl ?_
    by_cases hc : (g 1 2) ≤ a1
    · rw [if_pos hc] at h
      refine es (23, [some (.inr (.inr 1)), some (.inl a1)], [], g) (congrArg some (if_pos hc)) ?_
      refine ev_runs 1 (23, [some (.inr (.inr 1)), some (.inl a1)], [], g) (24, [some (.inr (.inr 1)), some (.inl a1)], [.inl (-1)], g) rfl ?_
      subst h
      exact er rfl
    · rw [if_neg hc] at h
      refine es (12, [some (.inr (.inr 1)), some (.inl a1)], [], g) (congrArg some (if_neg hc)) ?_
      refine ev_runs 3 (12, [some (.inr (.inr 1)), some (.inl a1)], [], g) (17, [some (.inr (.inr 1)), some (.inl a1)], [.inl a1, .inr (.inr 2)], g) rfl ?_
      refine ec 13 20 [.inr (.inr 2), .inl a1] [] rfl (ev_Row_at rfl rfl _ _) ?_
      show Ev 14 20 [some (.inr (.inr 1)), some (.inl a1)] [.inl (rat g 3 160 a1)] g _ _
      refine ev_runs 1 (20, [some (.inr (.inr 1)), some (.inl a1)], [.inl (rat g 3 160 a1)], g) (24, [some (.inr (.inr 1)), some (.inl a1)], [.inl (rat g 3 160 a1)], g) rfl ?_
      subst h
      exact er rfl
set_option maxRecDepth 100000 in
set_option maxHeartbeats 4000000 in
theorem ev_Tx_at4 (a1 : Int) (g : Gx) (r : Int) (h : Tx_at4 a1 g = r) : Ev 14 0 [some (.inr (.inr 4)), some (.inl a1)] [] g (some (.inl r)) g := by
  rw [Tx_at4] at h
  refine ev_runs 1 (0, [some (.inr (.inr 4)), some (.inl a1)], [], g) (1, [some (.inr (.inr 4)), some (.inl a1)], [.inl a1], g) rfl ?_
  by_cases hc : a1 < 0
  · rw [if_pos hc] at h
    refine es (23, [some (.inr (.inr 4)), some (.inl a1)], [], g) (congrArg some (if_pos hc)) ?_
    refine ev_runs 1 (23, [some (.inr (.inr 4)), some (.inl a1)], [], g) (24, [some (.inr (.inr 4)), some (.inl a1)], [.inl (-1)], g) rfl ?_
    subst h
    exact er rfl
  · rw [if_neg hc] at h
    refine es (4, [some (.inr (.inr 4)), some (.inl a1)], [], g) (congrArg some (if_neg hc)) ?_
    refine ev_runs 3 (4, [some (.inr (.inr 4)), some (.inl a1)], [], g) (9, [some (.inr (.inr 4)), some (.inl a1)], [.inl (g 4 2), .inl a1], g) rfl ?_
    by_cases hc : (g 4 2) ≤ a1
    · rw [if_pos hc] at h
      refine es (23, [some (.inr (.inr 4)), some (.inl a1)], [], g) (congrArg some (if_pos hc)) ?_
      refine ev_runs 1 (23, [some (.inr (.inr 4)), some (.inl a1)], [], g) (24, [some (.inr (.inr 4)), some (.inl a1)], [.inl (-1)], g) rfl ?_
      subst h
      exact er rfl
    · rw [if_neg hc] at h
      refine es (12, [some (.inr (.inr 4)), some (.inl a1)], [], g) (congrArg some (if_neg hc)) ?_
      refine ev_runs 3 (12, [some (.inr (.inr 4)), some (.inl a1)], [], g) (17, [some (.inr (.inr 4)), some (.inl a1)], [.inl a1, .inr (.inr 5)], g) rfl ?_
      refine ec 13 20 [.inr (.inr 5), .inl a1] [] rfl (ev_Row_at rfl rfl _ _) ?_
      show Ev 14 20 [some (.inr (.inr 4)), some (.inl a1)] [.inl (rat g 6 80 a1)] g _ _
      refine ev_runs 1 (20, [some (.inr (.inr 4)), some (.inl a1)], [.inl (rat g 6 80 a1)], g) (24, [some (.inr (.inr 4)), some (.inl a1)], [.inl (rat g 6 80 a1)], g) rfl ?_
      subst h
      exact er rfl
set_option maxRecDepth 100000 in
set_option maxHeartbeats 4000000 in
theorem ev_Op_isTalkerLetter (a0 : Int) (g : Gx) (r : Int) (h : Op_isTalkerLetter a0 = r) : Ev 15 0 [some (.inl a0)] [] g (some (.inl r)) g := by
  rw [Op_isTalkerLetter] at h
  refine ev_runs 2 (0, [some (.inl a0)], [], g) (3, [some (.inl a0)], [.inl 65, .inl a0], g) rfl ?_
  by_cases hc : a0 < 65
  · rw [if_pos hc] at h
    refine es (16, [some (.inl a0)], [], g) (congrArg some (if_pos hc)) ?_
    refine ev_runs 1 (16, [some (.inl a0)], [], g) (17, [some (.inl a0)], [.inl 0], g) rfl ?_
    subst h
    exact er rfl
  · rw [if_neg hc] at h
    refine es (6, [some (.inl a0)], [], g) (congrArg some (if_neg hc)) ?_
    refine ev_runs 2 (6, [some (.inl a0)], [], g) (9, [some (.inl a0)], [.inl 71, .inl a0], g) rfl ?_
    by_cases hc : 71 ≤ a0
    · rw [if_pos hc] at h
      refine es (16, [some (.inl a0)], [], g) (congrArg some (if_pos hc)) ?_
      refine ev_runs 1 (16, [some (.inl a0)], [], g) (17, [some (.inl a0)], [.inl 0], g) rfl ?_
      subst h
      exact er rfl
    · rw [if_neg hc] at h
      refine es (12, [some (.inl a0)], [], g) (congrArg some (if_neg hc)) ?_
      refine ev_runs 2 (12, [some (.inl a0)], [], g) (17, [some (.inl a0)], [.inl 1], g) rfl ?_
      subst h
      exact er rfl
set_option maxRecDepth 100000 in
set_option maxHeartbeats 4000000 in
theorem ev_Pr_failAt (a1 : Int) (g : Gx) (r : Int) (g' : Gx) (h : Pr_failAt a1 g = (r, g')) : Ev 16 0 [some (.inr (.inr 28)), some (.inl a1)] [] g (some (.inl r)) g' := by
  rw [Pr_failAt] at h
  refine ev_runs 4 (0, [some (.inr (.inr 28)), some (.inl a1)], [], g) (6, [some (.inr (.inr 28)), some (.inl a1)], [.inl 0], (gset g 28 6 a1)) rfl ?_
  cases h
  exact er rfl
set_option maxRecDepth 100000 in
set_option maxHeartbeats 4000000 in
theorem ev_Op_isWordLetter (a0 : Int) (g : Gx) (r : Int) (h : Op_isWordLetter a0 = r) : Ev 17 0 [some (.inl a0)] [] g (some (.inl r)) g := by
  rw [Op_isWordLetter] at h
  refine ev_runs 2 (0, [some (.inl a0)], [], g) (3, [some (.inl a0)], [.inl 97, .inl a0], g) rfl ?_
  by_cases hc : a0 < 97
  · rw [if_pos hc] at h
    refine es (16, [some (.inl a0)], [], g) (congrArg some (if_pos hc)) ?_
    refine ev_runs 1 (16, [some (.inl a0)], [], g) (17, [some (.inl a0)], [.inl 0], g) rfl ?_
    subst h
    exact er rfl
  · rw [if_neg hc] at h
    refine es (6, [some (.inl a0)], [], g) (congrArg some (if_neg hc)) ?_
    refine ev_runs 2 (6, [some (.inl a0)], [], g) (9, [some (.inl a0)], [.inl 123, .inl a0], g) rfl ?_
    by_cases hc : 123 ≤ a0
    · rw [if_pos hc] at h
      refine es (16, [some (.inl a0)], [], g) (congrArg some (if_pos hc)) ?_
      refine ev_runs 1 (16, [some (.inl a0)], [], g) (17, [some (.inl a0)], [.inl 0], g) rfl ?_
      subst h
      exact er rfl
    · rw [if_neg hc] at h
      refine es (12, [some (.inl a0)], [], g) (congrArg some (if_neg hc)) ?_
      refine ev_runs 2 (12, [some (.inl a0)], [], g) (17, [some (.inl a0)], [.inl 1], g) rfl ?_
      subst h
      exact er rfl
set_option maxRecDepth 100000 in
set_option maxHeartbeats 4000000 in
theorem ev_St_add (a1 a2 : Int) (g : Gx) (g' : Gx) (h : St_add a1 a2 g = g') : Ev 18 0 [some (.inr (.inr 7)), some (.inl a1), some (.inl a2)] [] g none g' := by
  rw [St_add] at h
  refine ev_runs 5 (0, [some (.inr (.inr 7)), some (.inl a1), some (.inl a2)], [], g) (9, [some (.inr (.inr 7)), some (.inl a1), some (.inl a2)], [.inl a1, .inl (g 7 10), .inr (.inr 8)], g) rfl ?_
  refine ec 0 12 [.inr (.inr 8), .inl (g 7 10), .inl a1] [] rfl (ev_Row_set rfl rfl _ _ _) ?_
  show Ev 18 12 [some (.inr (.inr 7)), some (.inl a1), some (.inl a2)] [] (rset g 9 160 (g 7 10) a1) _ _
  refine ev_runs 5 (12, [some (.inr (.inr 7)), some (.inl a1), some (.inl a2)], [], (rset g 9 160 (g 7 10) a1)) (21, [some (.inr (.inr 7)), some (.inl a1), some (.inl a2)], [.inl a2, .inl (g 7 10), .inr (.inr 10)], (rset g 9 160 (g 7 10) a1)) rfl ?_
  refine ec 0 24 [.inr (.inr 10), .inl (g 7 10), .inl a2] [] rfl (ev_Row_set rfl rfl _ _ _) ?_
  show Ev 18 24 [some (.inr (.inr 7)), some (.inl a1), some (.inl a2)] [] (rset (rset g 9 160 (g 7 10) a1) 11 160 (g 7 10) a2) _ _
  refine ev_runs 6 (24, [some (.inr (.inr 7)), some (.inl a1), some (.inl a2)], [], (rset (rset g 9 160 (g 7 10) a1) 11 160 (g 7 10) a2)) (34, [some (.inr (.inr 7)), some (.inl a1), some (.inl a2)], [], (gset (rset (rset g 9 160 (g 7 10) a1) 11 160 (g 7 10) a2) 7 10 (wr ((g 7 10) + 1)))) rfl ?_
  subst h
  exact er rfl
set_option maxRecDepth 100000 in
set_option maxHeartbeats 4000000 in
theorem ev_Pr_readSaying (a1 : Int) (g : Gx) (r : Int) (g' : Gx) (h : Pr_readSaying a1 g = (r, g')) : Ev 19 0 [some (.inr (.inr 28)), some (.inl a1), none, none] [] g (some (.inl r)) g' := by
  rw [Pr_readSaying] at h
  refine ev_runs 6 (0, [some (.inr (.inr 28)), some (.inl a1), none, none], [], g) (10, [some (.inr (.inr 28)), some (.inl a1), none, none], [.inl (wr ((g 28 5) + 2)), .inr (.inr 1)], g) rfl ?_
  refine ec 14 13 [.inr (.inr 1), .inl (wr ((g 28 5) + 2))] [] rfl (ev_Tx_at1 (wr ((g 28 5) + 2)) g _ rfl) ?_
  show Ev 19 13 [some (.inr (.inr 28)), some (.inl a1), none, none] [.inl (Tx_at1 (wr ((g 28 5) + 2)) g)] g _ _
  refine ev_runs 2 (13, [some (.inr (.inr 28)), some (.inl a1), none, none], [.inl (Tx_at1 (wr ((g 28 5) + 2)) g)], g) (15, [some (.inr (.inr 28)), some (.inl a1), some (.inl (Tx_at1 (wr ((g 28 5) + 2)) g)), none], [.inl (Tx_at1 (wr ((g 28 5) + 2)) g)], g) rfl ?_
  refine ec 15 18 [.inl (Tx_at1 (wr ((g 28 5) + 2)) g)] [] rfl (ev_Op_isTalkerLetter (Tx_at1 (wr ((g 28 5) + 2)) g) g _ rfl) ?_
  show Ev 19 18 [some (.inr (.inr 28)), some (.inl a1), some (.inl (Tx_at1 (wr ((g 28 5) + 2)) g)), none] [.inl (Op_isTalkerLetter (Tx_at1 (wr ((g 28 5) + 2)) g))] g _ _
  by_cases hc : (Op_isTalkerLetter (Tx_at1 (wr ((g 28 5) + 2)) g)) = 0
  · rw [if_pos hc] at h
    refine es (26, [some (.inr (.inr 28)), some (.inl a1), some (.inl (Tx_at1 (wr ((g 28 5) + 2)) g)), none], [], g) (congrArg some (if_pos hc)) ?_
    refine ev_runs 5 (26, [some (.inr (.inr 28)), some (.inl a1), some (.inl (Tx_at1 (wr ((g 28 5) + 2)) g)), none], [], g) (33, [some (.inr (.inr 28)), some (.inl a1), some (.inl (Tx_at1 (wr ((g 28 5) + 2)) g)), none], [.inl (wr ((g 28 5) + 2)), .inr (.inr 28)], g) rfl ?_
    obtain ⟨q1, hq, h⟩ := lett_inv h
    have hb_q1 : q1.1 = 0 ∨ q1.1 = 1 := by rw [hq]; exact bo_Pr_failAt (wr ((g 28 5) + 2)) g
    refine ec 16 36 [.inr (.inr 28), .inl (wr ((g 28 5) + 2))] [] rfl (ev_Pr_failAt (wr ((g 28 5) + 2)) g q1.1 q1.2 hq.symm) ?_
    show Ev 19 36 [some (.inr (.inr 28)), some (.inl a1), some (.inl (Tx_at1 (wr ((g 28 5) + 2)) g)), none] [.inl q1.1] q1.2 _ _
    cases h
    exact er (if_pos hb_q1)
  · rw [if_neg hc] at h
    refine es (21, [some (.inr (.inr 28)), some (.inl a1), some (.inl (Tx_at1 (wr ((g 28 5) + 2)) g)), none], [], g) (congrArg some (if_neg hc)) ?_
    refine ev_runs 2 (21, [some (.inr (.inr 28)), some (.inl a1), some (.inl (Tx_at1 (wr ((g 28 5) + 2)) g)), none], [], g) (23, [some (.inr (.inr 28)), some (.inl a1), some (.inl (Tx_at1 (wr ((g 28 5) + 2)) g)), none], [.inl a1, .inl (Tx_at1 (wr ((g 28 5) + 2)) g)], g) rfl ?_
    by_cases hc : ¬ (Tx_at1 (wr ((g 28 5) + 2)) g) = a1
    · rw [if_pos hc] at h
      refine es (37, [some (.inr (.inr 28)), some (.inl a1), some (.inl (Tx_at1 (wr ((g 28 5) + 2)) g)), none], [], g) (congrArg some (if_pos hc)) ?_
      refine ev_runs 6 (37, [some (.inr (.inr 28)), some (.inl a1), some (.inl (Tx_at1 (wr ((g 28 5) + 2)) g)), none], [], g) (47, [some (.inr (.inr 28)), some (.inl a1), some (.inl (Tx_at1 (wr ((g 28 5) + 2)) g)), none], [.inl (wr ((g 28 5) + 3)), .inr (.inr 1)], g) rfl ?_
      refine ec 14 50 [.inr (.inr 1), .inl (wr ((g 28 5) + 3))] [] rfl (ev_Tx_at1 (wr ((g 28 5) + 3)) g _ rfl) ?_
      show Ev 19 50 [some (.inr (.inr 28)), some (.inl a1), some (.inl (Tx_at1 (wr ((g 28 5) + 2)) g)), none] [.inl (Tx_at1 (wr ((g 28 5) + 3)) g)] g _ _
      refine ev_runs 2 (50, [some (.inr (.inr 28)), some (.inl a1), some (.inl (Tx_at1 (wr ((g 28 5) + 2)) g)), none], [.inl (Tx_at1 (wr ((g 28 5) + 3)) g)], g) (52, [some (.inr (.inr 28)), some (.inl a1), some (.inl (Tx_at1 (wr ((g 28 5) + 2)) g)), some (.inl (Tx_at1 (wr ((g 28 5) + 3)) g))], [.inl (Tx_at1 (wr ((g 28 5) + 3)) g)], g) rfl ?_
      refine ec 17 55 [.inl (Tx_at1 (wr ((g 28 5) + 3)) g)] [] rfl (ev_Op_isWordLetter (Tx_at1 (wr ((g 28 5) + 3)) g) g _ rfl) ?_
      show Ev 19 55 [some (.inr (.inr 28)), some (.inl a1), some (.inl (Tx_at1 (wr ((g 28 5) + 2)) g)), some (.inl (Tx_at1 (wr ((g 28 5) + 3)) g))] [.inl (Op_isWordLetter (Tx_at1 (wr ((g 28 5) + 3)) g))] g _ _
      by_cases hc : ¬ (Op_isWordLetter (Tx_at1 (wr ((g 28 5) + 3)) g)) = 0
      · rw [if_pos hc] at h
        refine es (69, [some (.inr (.inr 28)), some (.inl a1), some (.inl (Tx_at1 (wr ((g 28 5) + 2)) g)), some (.inl (Tx_at1 (wr ((g 28 5) + 3)) g))], [], g) (congrArg some (if_pos hc)) ?_
        refine ev_runs 18 (69, [some (.inr (.inr 28)), some (.inl a1), some (.inl (Tx_at1 (wr ((g 28 5) + 2)) g)), some (.inl (Tx_at1 (wr ((g 28 5) + 3)) g))], [], g) (95, [some (.inr (.inr 28)), some (.inl a1), some (.inl (Tx_at1 (wr ((g 28 5) + 2)) g)), some (.inl (Tx_at1 (wr ((g 28 5) + 3)) g))], [.inl (wr ((wr ((wr (1000 * (wr (a1 - 65)))) + (wr (100 * (wr ((Tx_at1 (wr ((g 28 5) + 2)) g) - 65)))))) + (wr ((Tx_at1 (wr ((g 28 5) + 3)) g) - 97)))), .inl 0, .inr (.inr 7)], g) rfl ?_
        obtain ⟨g2, hq, h⟩ := lett_inv h
        refine ec 18 98 [.inr (.inr 7), .inl 0, .inl (wr ((wr ((wr (1000 * (wr (a1 - 65)))) + (wr (100 * (wr ((Tx_at1 (wr ((g 28 5) + 2)) g) - 65)))))) + (wr ((Tx_at1 (wr ((g 28 5) + 3)) g) - 97))))] [] rfl (ev_St_add 0 (wr ((wr ((wr (1000 * (wr (a1 - 65)))) + (wr (100 * (wr ((Tx_at1 (wr ((g 28 5) + 2)) g) - 65)))))) + (wr ((Tx_at1 (wr ((g 28 5) + 3)) g) - 97)))) g g2 hq.symm) ?_
        show Ev 19 98 [some (.inr (.inr 28)), some (.inl a1), some (.inl (Tx_at1 (wr ((g 28 5) + 2)) g)), some (.inl (Tx_at1 (wr ((g 28 5) + 3)) g))] [] g2 _ _
        refine ev_runs 29 (98, [some (.inr (.inr 28)), some (.inl a1), some (.inl (Tx_at1 (wr ((g 28 5) + 2)) g)), some (.inl (Tx_at1 (wr ((g 28 5) + 3)) g))], [], g2) (141, [some (.inr (.inr 28)), some (.inl a1), some (.inl (Tx_at1 (wr ((g 28 5) + 2)) g)), some (.inl (Tx_at1 (wr ((g 28 5) + 3)) g))], [.inl 0], (gset (gset (gset g2 28 7 (jor (g2 28 7) (jor (jshl 1 (wr (a1 - 65))) (jshl 1 (wr ((Tx_at1 (wr ((g 28 5) + 2)) g) - 65)))))) 28 8 (wr ((g2 28 8) + 1))) 28 5 (wr ((g2 28 5) + 4)))) rfl ?_
        cases h
        exact er rfl
      · rw [if_neg hc] at h
        refine es (58, [some (.inr (.inr 28)), some (.inl a1), some (.inl (Tx_at1 (wr ((g 28 5) + 2)) g)), some (.inl (Tx_at1 (wr ((g 28 5) + 3)) g))], [], g) (congrArg some (if_neg hc)) ?_
        refine ev_runs 5 (58, [some (.inr (.inr 28)), some (.inl a1), some (.inl (Tx_at1 (wr ((g 28 5) + 2)) g)), some (.inl (Tx_at1 (wr ((g 28 5) + 3)) g))], [], g) (65, [some (.inr (.inr 28)), some (.inl a1), some (.inl (Tx_at1 (wr ((g 28 5) + 2)) g)), some (.inl (Tx_at1 (wr ((g 28 5) + 3)) g))], [.inl (wr ((g 28 5) + 3)), .inr (.inr 28)], g) rfl ?_
        obtain ⟨q3, hq, h⟩ := lett_inv h
        have hb_q3 : q3.1 = 0 ∨ q3.1 = 1 := by rw [hq]; exact bo_Pr_failAt (wr ((g 28 5) + 3)) g
        refine ec 16 68 [.inr (.inr 28), .inl (wr ((g 28 5) + 3))] [] rfl (ev_Pr_failAt (wr ((g 28 5) + 3)) g q3.1 q3.2 hq.symm) ?_
        show Ev 19 68 [some (.inr (.inr 28)), some (.inl a1), some (.inl (Tx_at1 (wr ((g 28 5) + 2)) g)), some (.inl (Tx_at1 (wr ((g 28 5) + 3)) g))] [.inl q3.1] q3.2 _ _
        cases h
        exact er (if_pos hb_q3)
    · rw [if_neg hc] at h
      refine es (26, [some (.inr (.inr 28)), some (.inl a1), some (.inl (Tx_at1 (wr ((g 28 5) + 2)) g)), none], [], g) (congrArg some (if_neg hc)) ?_
      refine ev_runs 5 (26, [some (.inr (.inr 28)), some (.inl a1), some (.inl (Tx_at1 (wr ((g 28 5) + 2)) g)), none], [], g) (33, [some (.inr (.inr 28)), some (.inl a1), some (.inl (Tx_at1 (wr ((g 28 5) + 2)) g)), none], [.inl (wr ((g 28 5) + 2)), .inr (.inr 28)], g) rfl ?_
      obtain ⟨q4, hq, h⟩ := lett_inv h
      have hb_q4 : q4.1 = 0 ∨ q4.1 = 1 := by rw [hq]; exact bo_Pr_failAt (wr ((g 28 5) + 2)) g
      refine ec 16 36 [.inr (.inr 28), .inl (wr ((g 28 5) + 2))] [] rfl (ev_Pr_failAt (wr ((g 28 5) + 2)) g q4.1 q4.2 hq.symm) ?_
      show Ev 19 36 [some (.inr (.inr 28)), some (.inl a1), some (.inl (Tx_at1 (wr ((g 28 5) + 2)) g)), none] [.inl q4.1] q4.2 _ _
      cases h
      exact er (if_pos hb_q4)
set_option maxRecDepth 100000 in
set_option maxHeartbeats 4000000 in
theorem ev_St_size (g : Gx) (r : Int) (h : St_size g = r) : Ev 20 0 [some (.inr (.inr 7))] [] g (some (.inl r)) g := by
  rw [St_size] at h
  refine ev_runs 2 (0, [some (.inr (.inr 7))], [], g) (4, [some (.inr (.inr 7))], [.inl (g 7 10)], g) rfl ?_
  subst h
  exact er rfl
set_option maxRecDepth 100000 in
set_option maxHeartbeats 4000000 in
theorem ev_St_newChoice (a1 : Int) (g : Gx) (r : Int) (g' : Gx) (h : St_newChoice a1 g = (r, g')) : Ev 21 0 [some (.inr (.inr 7)), some (.inl a1), none] [] g (some (.inl r)) g' := by
  rw [St_newChoice] at h
  refine ev_runs 13 (0, [some (.inr (.inr 7)), some (.inl a1), none], [], g) (21, [some (.inr (.inr 7)), some (.inl a1), some (.inl (g 7 11))], [.inl a1, .inl (g 7 11), .inr (.inr 12)], (gset g 7 11 (wr ((g 7 11) + 1)))) rfl ?_
  refine ec 0 24 [.inr (.inr 12), .inl (g 7 11), .inl a1] [] rfl (ev_Row_set rfl rfl _ _ _) ?_
  show Ev 21 24 [some (.inr (.inr 7)), some (.inl a1), some (.inl (g 7 11))] [] (rset (gset g 7 11 (wr ((g 7 11) + 1))) 13 40 (g 7 11) a1) _ _
  refine ev_runs 4 (24, [some (.inr (.inr 7)), some (.inl a1), some (.inl (g 7 11))], [], (rset (gset g 7 11 (wr ((g 7 11) + 1))) 13 40 (g 7 11) a1)) (30, [some (.inr (.inr 7)), some (.inl a1), some (.inl (g 7 11))], [.inl 0, .inl (g 7 11), .inr (.inr 14)], (rset (gset g 7 11 (wr ((g 7 11) + 1))) 13 40 (g 7 11) a1)) rfl ?_
  refine ec 0 33 [.inr (.inr 14), .inl (g 7 11), .inl 0] [] rfl (ev_Row_set rfl rfl _ _ _) ?_
  show Ev 21 33 [some (.inr (.inr 7)), some (.inl a1), some (.inl (g 7 11))] [] (rset (rset (gset g 7 11 (wr ((g 7 11) + 1))) 13 40 (g 7 11) a1) 15 40 (g 7 11) 0) _ _
  refine ev_runs 1 (33, [some (.inr (.inr 7)), some (.inl a1), some (.inl (g 7 11))], [], (rset (rset (gset g 7 11 (wr ((g 7 11) + 1))) 13 40 (g 7 11) a1) 15 40 (g 7 11) 0)) (34, [some (.inr (.inr 7)), some (.inl a1), some (.inl (g 7 11))], [.inl (g 7 11)], (rset (rset (gset g 7 11 (wr ((g 7 11) + 1))) 13 40 (g 7 11) a1) 15 40 (g 7 11) 0)) rfl ?_
  cases h
  exact er rfl
set_option maxRecDepth 100000 in
set_option maxHeartbeats 4000000 in
theorem ev_St_beginWay (a1 : Int) (g : Gx) (g' : Gx) (h : St_beginWay a1 g = g') : Ev 23 0 [some (.inr (.inr 7)), some (.inl a1)] [] g none g' := by
  rw [St_beginWay] at h
  refine ev_runs 8 (0, [some (.inr (.inr 7)), some (.inl a1)], [], g) (12, [some (.inr (.inr 7)), some (.inl a1)], [.inl a1, .inr (.inr 14), .inl (wr (a1 * 4)), .inr (.inr 16)], g) rfl ?_
  refine ec 13 15 [.inr (.inr 14), .inl a1] [.inl (wr (a1 * 4)), .inr (.inr 16)] rfl (ev_Row_at rfl rfl _ _) ?_
  show Ev 23 15 [some (.inr (.inr 7)), some (.inl a1)] [.inl (rat g 15 40 a1), .inl (wr (a1 * 4)), .inr (.inr 16)] g _ _
  refine ev_runs 3 (15, [some (.inr (.inr 7)), some (.inl a1)], [.inl (rat g 15 40 a1), .inl (wr (a1 * 4)), .inr (.inr 16)], g) (20, [some (.inr (.inr 7)), some (.inl a1)], [.inl (g 7 10), .inl (wr ((wr (a1 * 4)) + (rat g 15 40 a1))), .inr (.inr 16)], g) rfl ?_
  refine ec 0 23 [.inr (.inr 16), .inl (wr ((wr (a1 * 4)) + (rat g 15 40 a1))), .inl (g 7 10)] [] rfl (ev_Row_set rfl rfl _ _ _) ?_
  show Ev 23 23 [some (.inr (.inr 7)), some (.inl a1)] [] (rset g 17 160 (wr ((wr (a1 * 4)) + (rat g 15 40 a1))) (g 7 10)) _ _
  refine ev_runs 4 (23, [some (.inr (.inr 7)), some (.inl a1)], [], (rset g 17 160 (wr ((wr (a1 * 4)) + (rat g 15 40 a1))) (g 7 10))) (29, [some (.inr (.inr 7)), some (.inl a1)], [.inl 1, .inl a1, .inr (.inr 14)], (rset g 17 160 (wr ((wr (a1 * 4)) + (rat g 15 40 a1))) (g 7 10))) rfl ?_
  refine ec 22 32 [.inr (.inr 14), .inl a1, .inl 1] [] rfl (ev_Row_add rfl rfl _ _ _) ?_
  show Ev 23 32 [some (.inr (.inr 7)), some (.inl a1)] [] (radd (rset g 17 160 (wr ((wr (a1 * 4)) + (rat g 15 40 a1))) (g 7 10)) 15 40 a1 1) _ _
  subst h
  exact er rfl
set_option maxRecDepth 100000 in
set_option maxHeartbeats 4000000 in
theorem ev_Pr_readOpening (a1 : Int) (g : Gx) (r : Int) (g' : Gx) (h : Pr_readOpening a1 g = (r, g')) : Ev 24 0 [some (.inr (.inr 28)), some (.inl a1), none] [] g (some (.inl r)) g' := by
  rw [Pr_readOpening] at h
  refine ev_runs 6 (0, [some (.inr (.inr 28)), some (.inl a1), none], [], g) (10, [some (.inr (.inr 28)), some (.inl a1), none], [.inl (wr ((g 28 5) + 1)), .inr (.inr 1)], g) rfl ?_
  refine ec 14 13 [.inr (.inr 1), .inl (wr ((g 28 5) + 1))] [] rfl (ev_Tx_at1 (wr ((g 28 5) + 1)) g _ rfl) ?_
  show Ev 24 13 [some (.inr (.inr 28)), some (.inl a1), none] [.inl (Tx_at1 (wr ((g 28 5) + 1)) g)] g _ _
  refine ev_runs 1 (13, [some (.inr (.inr 28)), some (.inl a1), none], [.inl (Tx_at1 (wr ((g 28 5) + 1)) g)], g) (15, [some (.inr (.inr 28)), some (.inl a1), none], [.inl 40, .inl (Tx_at1 (wr ((g 28 5) + 1)) g)], g) rfl ?_
  by_cases hc : ¬ (Tx_at1 (wr ((g 28 5) + 1)) g) = 40
  · rw [if_pos hc] at h
    refine es (26, [some (.inr (.inr 28)), some (.inl a1), none], [], g) (congrArg some (if_pos hc)) ?_
    refine ev_runs 5 (26, [some (.inr (.inr 28)), some (.inl a1), none], [], g) (33, [some (.inr (.inr 28)), some (.inl a1), none], [.inl (wr ((g 28 5) + 1)), .inr (.inr 28)], g) rfl ?_
    obtain ⟨q1, hq, h⟩ := lett_inv h
    have hb_q1 : q1.1 = 0 ∨ q1.1 = 1 := by rw [hq]; exact bo_Pr_failAt (wr ((g 28 5) + 1)) g
    refine ec 16 36 [.inr (.inr 28), .inl (wr ((g 28 5) + 1))] [] rfl (ev_Pr_failAt (wr ((g 28 5) + 1)) g q1.1 q1.2 hq.symm) ?_
    show Ev 24 36 [some (.inr (.inr 28)), some (.inl a1), none] [.inl q1.1] q1.2 _ _
    cases h
    exact er (if_pos hb_q1)
  · rw [if_neg hc] at h
    refine es (18, [some (.inr (.inr 28)), some (.inl a1), none], [], g) (congrArg some (if_neg hc)) ?_
    refine ev_runs 3 (18, [some (.inr (.inr 28)), some (.inl a1), none], [], g) (23, [some (.inr (.inr 28)), some (.inl a1), none], [.inl 4, .inl (g 28 4)], g) rfl ?_
    by_cases hc : (g 28 4) < 4
    · rw [if_pos hc] at h
      refine es (37, [some (.inr (.inr 28)), some (.inl a1), none], [], g) (congrArg some (if_pos hc)) ?_
      refine ev_runs 6 (37, [some (.inr (.inr 28)), some (.inl a1), none], [], g) (49, [some (.inr (.inr 28)), some (.inl a1), none], [.inr (.inr 7), .inl (g 28 4), .inr (.inr 31)], g) rfl ?_
      refine ec 20 52 [.inr (.inr 7)] [.inl (g 28 4), .inr (.inr 31)] rfl (ev_St_size g _ rfl) ?_
      show Ev 24 52 [some (.inr (.inr 28)), some (.inl a1), none] [.inl (St_size g), .inl (g 28 4), .inr (.inr 31)] g _ _
      refine ec 0 55 [.inr (.inr 31), .inl (g 28 4), .inl (St_size g)] [] rfl (ev_Row_set rfl rfl _ _ _) ?_
      show Ev 24 55 [some (.inr (.inr 28)), some (.inl a1), none] [] (rset g 32 4 (g 28 4) (St_size g)) _ _
      refine ev_runs 1 (55, [some (.inr (.inr 28)), some (.inl a1), none], [], (rset g 32 4 (g 28 4) (St_size g))) (56, [some (.inr (.inr 28)), some (.inl a1), none], [.inl a1], (rset g 32 4 (g 28 4) (St_size g))) rfl ?_
      refine ec 15 59 [.inl a1] [] rfl (ev_Op_isTalkerLetter a1 (rset g 32 4 (g 28 4) (St_size g)) _ rfl) ?_
      show Ev 24 59 [some (.inr (.inr 28)), some (.inl a1), none] [.inl (Op_isTalkerLetter a1)] (rset g 32 4 (g 28 4) (St_size g)) _ _
      by_cases hc : (Op_isTalkerLetter a1) = 0
      · rw [if_pos hc] at h
        refine es (121, [some (.inr (.inr 28)), some (.inl a1), none], [], (rset g 32 4 (g 28 4) (St_size g))) (congrArg some (if_pos hc)) ?_
        refine ev_runs 6 (121, [some (.inr (.inr 28)), some (.inl a1), none], [], (rset g 32 4 (g 28 4) (St_size g))) (130, [some (.inr (.inr 28)), some (.inl a1), none], [.inl (wr (a1 - 48)), .inl 4, .inr (.inr 7)], (rset g 32 4 (g 28 4) (St_size g))) rfl ?_
        obtain ⟨g2, hq, h⟩ := lett_inv h
        refine ec 18 133 [.inr (.inr 7), .inl 4, .inl (wr (a1 - 48))] [] rfl (ev_St_add 4 (wr (a1 - 48)) (rset g 32 4 (g 28 4) (St_size g)) g2 hq.symm) ?_
        show Ev 24 133 [some (.inr (.inr 28)), some (.inl a1), none] [] g2 _ _
        refine ev_runs 5 (133, [some (.inr (.inr 28)), some (.inl a1), none], [], g2) (142, [some (.inr (.inr 28)), some (.inl a1), none], [.inl (-1), .inl (g2 28 4), .inr (.inr 29)], g2) rfl ?_
        refine ec 0 145 [.inr (.inr 29), .inl (g2 28 4), .inl (-1)] [] rfl (ev_Row_set rfl rfl _ _ _) ?_
        show Ev 24 145 [some (.inr (.inr 28)), some (.inl a1), none] [] (rset g2 30 4 (g2 28 4) (-1)) _ _
        refine ev_runs 13 (145, [some (.inr (.inr 28)), some (.inl a1), none], [], (rset g2 30 4 (g2 28 4) (-1))) (166, [some (.inr (.inr 28)), some (.inl a1), none], [.inl 1], (gset (gset (rset g2 30 4 (g2 28 4) (-1)) 28 4 (wr ((g2 28 4) + 1))) 28 5 (wr ((g2 28 5) + 2)))) rfl ?_
        cases h
        exact er rfl
      · rw [if_neg hc] at h
        refine es (62, [some (.inr (.inr 28)), some (.inl a1), none], [], (rset g 32 4 (g 28 4) (St_size g))) (congrArg some (if_neg hc)) ?_
        refine ev_runs 5 (62, [some (.inr (.inr 28)), some (.inl a1), none], [], (rset g 32 4 (g 28 4) (St_size g))) (70, [some (.inr (.inr 28)), some (.inl a1), none], [.inl (wr (a1 - 65)), .inr (.inr 7)], (rset g 32 4 (g 28 4) (St_size g))) rfl ?_
        obtain ⟨q3, hq, h⟩ := lett_inv h
        refine ec 21 73 [.inr (.inr 7), .inl (wr (a1 - 65))] [] rfl (ev_St_newChoice (wr (a1 - 65)) (rset g 32 4 (g 28 4) (St_size g)) q3.1 q3.2 hq.symm) ?_
        show Ev 24 73 [some (.inr (.inr 28)), some (.inl a1), none] [.inl q3.1] q3.2 _ _
        refine ev_runs 5 (73, [some (.inr (.inr 28)), some (.inl a1), none], [.inl q3.1], q3.2) (80, [some (.inr (.inr 28)), some (.inl a1), some (.inl q3.1)], [.inl q3.1, .inl 1, .inr (.inr 7)], q3.2) rfl ?_
        obtain ⟨g4, hq, h⟩ := lett_inv h
        refine ec 18 83 [.inr (.inr 7), .inl 1, .inl q3.1] [] rfl (ev_St_add 1 q3.1 q3.2 g4 hq.symm) ?_
        show Ev 24 83 [some (.inr (.inr 28)), some (.inl a1), some (.inl q3.1)] [] g4 _ _
        refine ev_runs 3 (83, [some (.inr (.inr 28)), some (.inl a1), some (.inl q3.1)], [], g4) (88, [some (.inr (.inr 28)), some (.inl a1), some (.inl q3.1)], [.inl q3.1, .inr (.inr 7)], g4) rfl ?_
        obtain ⟨g5, hq, h⟩ := lett_inv h
        refine ec 23 91 [.inr (.inr 7), .inl q3.1] [] rfl (ev_St_beginWay q3.1 g4 g5 hq.symm) ?_
        show Ev 24 91 [some (.inr (.inr 28)), some (.inl a1), some (.inl q3.1)] [] g5 _ _
        refine ev_runs 5 (91, [some (.inr (.inr 28)), some (.inl a1), some (.inl q3.1)], [], g5) (100, [some (.inr (.inr 28)), some (.inl a1), some (.inl q3.1)], [.inl q3.1, .inl (g5 28 4), .inr (.inr 29)], g5) rfl ?_
        refine ec 0 103 [.inr (.inr 29), .inl (g5 28 4), .inl q3.1] [] rfl (ev_Row_set rfl rfl _ _ _) ?_
        show Ev 24 103 [some (.inr (.inr 28)), some (.inl a1), some (.inl q3.1)] [] (rset g5 30 4 (g5 28 4) q3.1) _ _
        refine ev_runs 24 (103, [some (.inr (.inr 28)), some (.inl a1), some (.inl q3.1)], [], (rset g5 30 4 (g5 28 4) q3.1)) (166, [some (.inr (.inr 28)), some (.inl a1), some (.inl q3.1)], [.inl 1], (gset (gset (gset (rset g5 30 4 (g5 28 4) q3.1) 28 7 (jor (g5 28 7) (jshl 1 (wr (a1 - 65))))) 28 4 (wr ((g5 28 4) + 1))) 28 5 (wr ((g5 28 5) + 2)))) rfl ?_
        cases h
        exact er rfl
    · rw [if_neg hc] at h
      refine es (26, [some (.inr (.inr 28)), some (.inl a1), none], [], g) (congrArg some (if_neg hc)) ?_
      refine ev_runs 5 (26, [some (.inr (.inr 28)), some (.inl a1), none], [], g) (33, [some (.inr (.inr 28)), some (.inl a1), none], [.inl (wr ((g 28 5) + 1)), .inr (.inr 28)], g) rfl ?_
      obtain ⟨q6, hq, h⟩ := lett_inv h
      have hb_q6 : q6.1 = 0 ∨ q6.1 = 1 := by rw [hq]; exact bo_Pr_failAt (wr ((g 28 5) + 1)) g
      refine ec 16 36 [.inr (.inr 28), .inl (wr ((g 28 5) + 1))] [] rfl (ev_Pr_failAt (wr ((g 28 5) + 1)) g q6.1 q6.2 hq.symm) ?_
      show Ev 24 36 [some (.inr (.inr 28)), some (.inl a1), none] [.inl q6.1] q6.2 _ _
      cases h
      exact er (if_pos hb_q6)
set_option maxRecDepth 100000 in
set_option maxHeartbeats 4000000 in
theorem ev_Pr_readItem (g : Gx) (r : Int) (g' : Gx) (h : Pr_readItem g = (r, g')) : Ev 25 0 [some (.inr (.inr 28)), none] [] g (some (.inl r)) g' := by
  rw [Pr_readItem] at h
  refine ev_runs 4 (0, [some (.inr (.inr 28)), none], [], g) (8, [some (.inr (.inr 28)), none], [.inl (g 28 5), .inr (.inr 1)], g) rfl ?_
  refine ec 14 11 [.inr (.inr 1), .inl (g 28 5)] [] rfl (ev_Tx_at1 (g 28 5) g _ rfl) ?_
  show Ev 25 11 [some (.inr (.inr 28)), none] [.inl (Tx_at1 (g 28 5) g)] g _ _
  refine ev_runs 3 (11, [some (.inr (.inr 28)), none], [.inl (Tx_at1 (g 28 5) g)], g) (15, [some (.inr (.inr 28)), some (.inl (Tx_at1 (g 28 5) g))], [.inl 45, .inl (Tx_at1 (g 28 5) g)], g) rfl ?_
  by_cases hc : ¬ (Tx_at1 (g 28 5) g) = 45
  · rw [if_pos hc] at h
    refine es (30, [some (.inr (.inr 28)), some (.inl (Tx_at1 (g 28 5) g))], [], g) (congrArg some (if_pos hc)) ?_
    refine ev_runs 1 (30, [some (.inr (.inr 28)), some (.inl (Tx_at1 (g 28 5) g))], [], g) (31, [some (.inr (.inr 28)), some (.inl (Tx_at1 (g 28 5) g))], [.inl (Tx_at1 (g 28 5) g)], g) rfl ?_
    refine ec 15 34 [.inl (Tx_at1 (g 28 5) g)] [] rfl (ev_Op_isTalkerLetter (Tx_at1 (g 28 5) g) g _ rfl) ?_
    show Ev 25 34 [some (.inr (.inr 28)), some (.inl (Tx_at1 (g 28 5) g))] [.inl (Op_isTalkerLetter (Tx_at1 (g 28 5) g))] g _ _
    by_cases hc : (Op_isTalkerLetter (Tx_at1 (g 28 5) g)) = 0
    · rw [if_pos hc] at h
      refine es (61, [some (.inr (.inr 28)), some (.inl (Tx_at1 (g 28 5) g))], [], g) (congrArg some (if_pos hc)) ?_
      refine ev_runs 1 (61, [some (.inr (.inr 28)), some (.inl (Tx_at1 (g 28 5) g))], [], g) (62, [some (.inr (.inr 28)), some (.inl (Tx_at1 (g 28 5) g))], [.inl (Tx_at1 (g 28 5) g)], g) rfl ?_
      refine ec 15 65 [.inl (Tx_at1 (g 28 5) g)] [] rfl (ev_Op_isTalkerLetter (Tx_at1 (g 28 5) g) g _ rfl) ?_
      show Ev 25 65 [some (.inr (.inr 28)), some (.inl (Tx_at1 (g 28 5) g))] [.inl (Op_isTalkerLetter (Tx_at1 (g 28 5) g))] g _ _
      by_cases hc : ¬ (Op_isTalkerLetter (Tx_at1 (g 28 5) g)) = 0
      · rw [if_pos hc] at h
        refine es (80, [some (.inr (.inr 28)), some (.inl (Tx_at1 (g 28 5) g))], [], g) (congrArg some (if_pos hc)) ?_
        refine ev_runs 2 (80, [some (.inr (.inr 28)), some (.inl (Tx_at1 (g 28 5) g))], [], g) (82, [some (.inr (.inr 28)), some (.inl (Tx_at1 (g 28 5) g))], [.inl (Tx_at1 (g 28 5) g), .inr (.inr 28)], g) rfl ?_
        obtain ⟨q1, hq, h⟩ := lett_inv h
        have hb_q1 : q1.1 = 0 ∨ q1.1 = 1 := by rw [hq]; exact bo_Pr_readOpening (Tx_at1 (g 28 5) g) g
        refine ec 24 85 [.inr (.inr 28), .inl (Tx_at1 (g 28 5) g)] [] rfl (ev_Pr_readOpening (Tx_at1 (g 28 5) g) g q1.1 q1.2 hq.symm) ?_
        show Ev 25 85 [some (.inr (.inr 28)), some (.inl (Tx_at1 (g 28 5) g))] [.inl q1.1] q1.2 _ _
        cases h
        exact er (if_pos hb_q1)
      · rw [if_neg hc] at h
        refine es (68, [some (.inr (.inr 28)), some (.inl (Tx_at1 (g 28 5) g))], [], g) (congrArg some (if_neg hc)) ?_
        refine ev_runs 2 (68, [some (.inr (.inr 28)), some (.inl (Tx_at1 (g 28 5) g))], [], g) (71, [some (.inr (.inr 28)), some (.inl (Tx_at1 (g 28 5) g))], [.inl 50, .inl (Tx_at1 (g 28 5) g)], g) rfl ?_
        by_cases hc : (Tx_at1 (g 28 5) g) < 50
        · rw [if_pos hc] at h
          refine es (86, [some (.inr (.inr 28)), some (.inl (Tx_at1 (g 28 5) g))], [], g) (congrArg some (if_pos hc)) ?_
          refine ev_runs 3 (86, [some (.inr (.inr 28)), some (.inl (Tx_at1 (g 28 5) g))], [], g) (91, [some (.inr (.inr 28)), some (.inl (Tx_at1 (g 28 5) g))], [.inl (g 28 5), .inr (.inr 28)], g) rfl ?_
          obtain ⟨q2, hq, h⟩ := lett_inv h
          have hb_q2 : q2.1 = 0 ∨ q2.1 = 1 := by rw [hq]; exact bo_Pr_failAt (g 28 5) g
          refine ec 16 94 [.inr (.inr 28), .inl (g 28 5)] [] rfl (ev_Pr_failAt (g 28 5) g q2.1 q2.2 hq.symm) ?_
          show Ev 25 94 [some (.inr (.inr 28)), some (.inl (Tx_at1 (g 28 5) g))] [.inl q2.1] q2.2 _ _
          cases h
          exact er (if_pos hb_q2)
        · rw [if_neg hc] at h
          refine es (74, [some (.inr (.inr 28)), some (.inl (Tx_at1 (g 28 5) g))], [], g) (congrArg some (if_neg hc)) ?_
          refine ev_runs 2 (74, [some (.inr (.inr 28)), some (.inl (Tx_at1 (g 28 5) g))], [], g) (77, [some (.inr (.inr 28)), some (.inl (Tx_at1 (g 28 5) g))], [.inl 52, .inl (Tx_at1 (g 28 5) g)], g) rfl ?_
          by_cases hc : 52 < (Tx_at1 (g 28 5) g)
          · rw [if_pos hc] at h
            refine es (86, [some (.inr (.inr 28)), some (.inl (Tx_at1 (g 28 5) g))], [], g) (congrArg some (if_pos hc)) ?_
            refine ev_runs 3 (86, [some (.inr (.inr 28)), some (.inl (Tx_at1 (g 28 5) g))], [], g) (91, [some (.inr (.inr 28)), some (.inl (Tx_at1 (g 28 5) g))], [.inl (g 28 5), .inr (.inr 28)], g) rfl ?_
            obtain ⟨q3, hq, h⟩ := lett_inv h
            have hb_q3 : q3.1 = 0 ∨ q3.1 = 1 := by rw [hq]; exact bo_Pr_failAt (g 28 5) g
            refine ec 16 94 [.inr (.inr 28), .inl (g 28 5)] [] rfl (ev_Pr_failAt (g 28 5) g q3.1 q3.2 hq.symm) ?_
            show Ev 25 94 [some (.inr (.inr 28)), some (.inl (Tx_at1 (g 28 5) g))] [.inl q3.1] q3.2 _ _
            cases h
            exact er (if_pos hb_q3)
          · rw [if_neg hc] at h
            refine es (80, [some (.inr (.inr 28)), some (.inl (Tx_at1 (g 28 5) g))], [], g) (congrArg some (if_neg hc)) ?_
            refine ev_runs 2 (80, [some (.inr (.inr 28)), some (.inl (Tx_at1 (g 28 5) g))], [], g) (82, [some (.inr (.inr 28)), some (.inl (Tx_at1 (g 28 5) g))], [.inl (Tx_at1 (g 28 5) g), .inr (.inr 28)], g) rfl ?_
            obtain ⟨q4, hq, h⟩ := lett_inv h
            have hb_q4 : q4.1 = 0 ∨ q4.1 = 1 := by rw [hq]; exact bo_Pr_readOpening (Tx_at1 (g 28 5) g) g
            refine ec 24 85 [.inr (.inr 28), .inl (Tx_at1 (g 28 5) g)] [] rfl (ev_Pr_readOpening (Tx_at1 (g 28 5) g) g q4.1 q4.2 hq.symm) ?_
            show Ev 25 85 [some (.inr (.inr 28)), some (.inl (Tx_at1 (g 28 5) g))] [.inl q4.1] q4.2 _ _
            cases h
            exact er (if_pos hb_q4)
    · rw [if_neg hc] at h
      refine es (37, [some (.inr (.inr 28)), some (.inl (Tx_at1 (g 28 5) g))], [], g) (congrArg some (if_neg hc)) ?_
      refine ev_runs 6 (37, [some (.inr (.inr 28)), some (.inl (Tx_at1 (g 28 5) g))], [], g) (47, [some (.inr (.inr 28)), some (.inl (Tx_at1 (g 28 5) g))], [.inl (wr ((g 28 5) + 1)), .inr (.inr 1)], g) rfl ?_
      refine ec 14 50 [.inr (.inr 1), .inl (wr ((g 28 5) + 1))] [] rfl (ev_Tx_at1 (wr ((g 28 5) + 1)) g _ rfl) ?_
      show Ev 25 50 [some (.inr (.inr 28)), some (.inl (Tx_at1 (g 28 5) g))] [.inl (Tx_at1 (wr ((g 28 5) + 1)) g)] g _ _
      refine ev_runs 1 (50, [some (.inr (.inr 28)), some (.inl (Tx_at1 (g 28 5) g))], [.inl (Tx_at1 (wr ((g 28 5) + 1)) g)], g) (52, [some (.inr (.inr 28)), some (.inl (Tx_at1 (g 28 5) g))], [.inl 62, .inl (Tx_at1 (wr ((g 28 5) + 1)) g)], g) rfl ?_
      by_cases hc : ¬ (Tx_at1 (wr ((g 28 5) + 1)) g) = 62
      · rw [if_pos hc] at h
        refine es (61, [some (.inr (.inr 28)), some (.inl (Tx_at1 (g 28 5) g))], [], g) (congrArg some (if_pos hc)) ?_
        refine ev_runs 1 (61, [some (.inr (.inr 28)), some (.inl (Tx_at1 (g 28 5) g))], [], g) (62, [some (.inr (.inr 28)), some (.inl (Tx_at1 (g 28 5) g))], [.inl (Tx_at1 (g 28 5) g)], g) rfl ?_
        refine ec 15 65 [.inl (Tx_at1 (g 28 5) g)] [] rfl (ev_Op_isTalkerLetter (Tx_at1 (g 28 5) g) g _ rfl) ?_
        show Ev 25 65 [some (.inr (.inr 28)), some (.inl (Tx_at1 (g 28 5) g))] [.inl (Op_isTalkerLetter (Tx_at1 (g 28 5) g))] g _ _
        by_cases hc : ¬ (Op_isTalkerLetter (Tx_at1 (g 28 5) g)) = 0
        · rw [if_pos hc] at h
          refine es (80, [some (.inr (.inr 28)), some (.inl (Tx_at1 (g 28 5) g))], [], g) (congrArg some (if_pos hc)) ?_
          refine ev_runs 2 (80, [some (.inr (.inr 28)), some (.inl (Tx_at1 (g 28 5) g))], [], g) (82, [some (.inr (.inr 28)), some (.inl (Tx_at1 (g 28 5) g))], [.inl (Tx_at1 (g 28 5) g), .inr (.inr 28)], g) rfl ?_
          obtain ⟨q5, hq, h⟩ := lett_inv h
          have hb_q5 : q5.1 = 0 ∨ q5.1 = 1 := by rw [hq]; exact bo_Pr_readOpening (Tx_at1 (g 28 5) g) g
          refine ec 24 85 [.inr (.inr 28), .inl (Tx_at1 (g 28 5) g)] [] rfl (ev_Pr_readOpening (Tx_at1 (g 28 5) g) g q5.1 q5.2 hq.symm) ?_
          show Ev 25 85 [some (.inr (.inr 28)), some (.inl (Tx_at1 (g 28 5) g))] [.inl q5.1] q5.2 _ _
          cases h
          exact er (if_pos hb_q5)
        · rw [if_neg hc] at h
          refine es (68, [some (.inr (.inr 28)), some (.inl (Tx_at1 (g 28 5) g))], [], g) (congrArg some (if_neg hc)) ?_
          refine ev_runs 2 (68, [some (.inr (.inr 28)), some (.inl (Tx_at1 (g 28 5) g))], [], g) (71, [some (.inr (.inr 28)), some (.inl (Tx_at1 (g 28 5) g))], [.inl 50, .inl (Tx_at1 (g 28 5) g)], g) rfl ?_
          by_cases hc : (Tx_at1 (g 28 5) g) < 50
          · rw [if_pos hc] at h
            refine es (86, [some (.inr (.inr 28)), some (.inl (Tx_at1 (g 28 5) g))], [], g) (congrArg some (if_pos hc)) ?_
            refine ev_runs 3 (86, [some (.inr (.inr 28)), some (.inl (Tx_at1 (g 28 5) g))], [], g) (91, [some (.inr (.inr 28)), some (.inl (Tx_at1 (g 28 5) g))], [.inl (g 28 5), .inr (.inr 28)], g) rfl ?_
            obtain ⟨q6, hq, h⟩ := lett_inv h
            have hb_q6 : q6.1 = 0 ∨ q6.1 = 1 := by rw [hq]; exact bo_Pr_failAt (g 28 5) g
            refine ec 16 94 [.inr (.inr 28), .inl (g 28 5)] [] rfl (ev_Pr_failAt (g 28 5) g q6.1 q6.2 hq.symm) ?_
            show Ev 25 94 [some (.inr (.inr 28)), some (.inl (Tx_at1 (g 28 5) g))] [.inl q6.1] q6.2 _ _
            cases h
            exact er (if_pos hb_q6)
          · rw [if_neg hc] at h
            refine es (74, [some (.inr (.inr 28)), some (.inl (Tx_at1 (g 28 5) g))], [], g) (congrArg some (if_neg hc)) ?_
            refine ev_runs 2 (74, [some (.inr (.inr 28)), some (.inl (Tx_at1 (g 28 5) g))], [], g) (77, [some (.inr (.inr 28)), some (.inl (Tx_at1 (g 28 5) g))], [.inl 52, .inl (Tx_at1 (g 28 5) g)], g) rfl ?_
            by_cases hc : 52 < (Tx_at1 (g 28 5) g)
            · rw [if_pos hc] at h
              refine es (86, [some (.inr (.inr 28)), some (.inl (Tx_at1 (g 28 5) g))], [], g) (congrArg some (if_pos hc)) ?_
              refine ev_runs 3 (86, [some (.inr (.inr 28)), some (.inl (Tx_at1 (g 28 5) g))], [], g) (91, [some (.inr (.inr 28)), some (.inl (Tx_at1 (g 28 5) g))], [.inl (g 28 5), .inr (.inr 28)], g) rfl ?_
              obtain ⟨q7, hq, h⟩ := lett_inv h
              have hb_q7 : q7.1 = 0 ∨ q7.1 = 1 := by rw [hq]; exact bo_Pr_failAt (g 28 5) g
              refine ec 16 94 [.inr (.inr 28), .inl (g 28 5)] [] rfl (ev_Pr_failAt (g 28 5) g q7.1 q7.2 hq.symm) ?_
              show Ev 25 94 [some (.inr (.inr 28)), some (.inl (Tx_at1 (g 28 5) g))] [.inl q7.1] q7.2 _ _
              cases h
              exact er (if_pos hb_q7)
            · rw [if_neg hc] at h
              refine es (80, [some (.inr (.inr 28)), some (.inl (Tx_at1 (g 28 5) g))], [], g) (congrArg some (if_neg hc)) ?_
              refine ev_runs 2 (80, [some (.inr (.inr 28)), some (.inl (Tx_at1 (g 28 5) g))], [], g) (82, [some (.inr (.inr 28)), some (.inl (Tx_at1 (g 28 5) g))], [.inl (Tx_at1 (g 28 5) g), .inr (.inr 28)], g) rfl ?_
              obtain ⟨q8, hq, h⟩ := lett_inv h
              have hb_q8 : q8.1 = 0 ∨ q8.1 = 1 := by rw [hq]; exact bo_Pr_readOpening (Tx_at1 (g 28 5) g) g
              refine ec 24 85 [.inr (.inr 28), .inl (Tx_at1 (g 28 5) g)] [] rfl (ev_Pr_readOpening (Tx_at1 (g 28 5) g) g q8.1 q8.2 hq.symm) ?_
              show Ev 25 85 [some (.inr (.inr 28)), some (.inl (Tx_at1 (g 28 5) g))] [.inl q8.1] q8.2 _ _
              cases h
              exact er (if_pos hb_q8)
      · rw [if_neg hc] at h
        refine es (55, [some (.inr (.inr 28)), some (.inl (Tx_at1 (g 28 5) g))], [], g) (congrArg some (if_neg hc)) ?_
        refine ev_runs 2 (55, [some (.inr (.inr 28)), some (.inl (Tx_at1 (g 28 5) g))], [], g) (57, [some (.inr (.inr 28)), some (.inl (Tx_at1 (g 28 5) g))], [.inl (Tx_at1 (g 28 5) g), .inr (.inr 28)], g) rfl ?_
        obtain ⟨q9, hq, h⟩ := lett_inv h
        have hb_q9 : q9.1 = 0 ∨ q9.1 = 1 := by rw [hq]; exact bo_Pr_readSaying (Tx_at1 (g 28 5) g) g
        refine ec 19 60 [.inr (.inr 28), .inl (Tx_at1 (g 28 5) g)] [] rfl (ev_Pr_readSaying (Tx_at1 (g 28 5) g) g q9.1 q9.2 hq.symm) ?_
        show Ev 25 60 [some (.inr (.inr 28)), some (.inl (Tx_at1 (g 28 5) g))] [.inl q9.1] q9.2 _ _
        cases h
        exact er (if_pos hb_q9)
  · rw [if_neg hc] at h
    refine es (18, [some (.inr (.inr 28)), some (.inl (Tx_at1 (g 28 5) g))], [], g) (congrArg some (if_neg hc)) ?_
    refine ev_runs 7 (18, [some (.inr (.inr 28)), some (.inl (Tx_at1 (g 28 5) g))], [], g) (29, [some (.inr (.inr 28)), some (.inl (Tx_at1 (g 28 5) g))], [.inl 0], (gset g 28 5 (wr ((g 28 5) + 1)))) rfl ?_
    cases h
    exact er rfl
set_option maxRecDepth 100000 in
set_option maxHeartbeats 4000000 in
theorem ev_St_wayCount (a1 : Int) (g : Gx) (r : Int) (h : St_wayCount a1 g = r) : Ev 26 0 [some (.inr (.inr 7)), some (.inl a1)] [] g (some (.inl r)) g := by
  rw [St_wayCount] at h
  refine ev_runs 3 (0, [some (.inr (.inr 7)), some (.inl a1)], [], g) (5, [some (.inr (.inr 7)), some (.inl a1)], [.inl a1, .inr (.inr 14)], g) rfl ?_
  refine ec 13 8 [.inr (.inr 14), .inl a1] [] rfl (ev_Row_at rfl rfl _ _) ?_
  show Ev 26 8 [some (.inr (.inr 7)), some (.inl a1)] [.inl (rat g 15 40 a1)] g _ _
  subst h
  exact er rfl
set_option maxRecDepth 100000 in
set_option maxHeartbeats 4000000 in
theorem ev_Pr_readNextWay (a1 : Int) (g : Gx) (r : Int) (g' : Gx) (h : Pr_readNextWay a1 g = (r, g')) : Ev 27 0 [some (.inr (.inr 28)), some (.inl a1)] [] g (some (.inl r)) g' := by
  rw [Pr_readNextWay] at h
  refine ev_runs 2 (0, [some (.inr (.inr 28)), some (.inl a1)], [], g) (2, [some (.inr (.inr 28)), some (.inl a1)], [.inl (-1), .inl a1], g) rfl ?_
  by_cases hc : a1 = (-1)
  · rw [if_pos hc] at h
    refine es (17, [some (.inr (.inr 28)), some (.inl a1)], [], g) (congrArg some (if_pos hc)) ?_
    refine ev_runs 3 (17, [some (.inr (.inr 28)), some (.inl a1)], [], g) (22, [some (.inr (.inr 28)), some (.inl a1)], [.inl (g 28 5), .inr (.inr 28)], g) rfl ?_
    obtain ⟨q1, hq, h⟩ := lett_inv h
    have hb_q1 : q1.1 = 0 ∨ q1.1 = 1 := by rw [hq]; exact bo_Pr_failAt (g 28 5) g
    refine ec 16 25 [.inr (.inr 28), .inl (g 28 5)] [] rfl (ev_Pr_failAt (g 28 5) g q1.1 q1.2 hq.symm) ?_
    show Ev 27 25 [some (.inr (.inr 28)), some (.inl a1)] [.inl q1.1] q1.2 _ _
    cases h
    exact er (if_pos hb_q1)
  · rw [if_neg hc] at h
    refine es (5, [some (.inr (.inr 28)), some (.inl a1)], [], g) (congrArg some (if_neg hc)) ?_
    refine ev_runs 3 (5, [some (.inr (.inr 28)), some (.inl a1)], [], g) (10, [some (.inr (.inr 28)), some (.inl a1)], [.inl a1, .inr (.inr 7)], g) rfl ?_
    refine ec 26 13 [.inr (.inr 7), .inl a1] [] rfl (ev_St_wayCount a1 g _ rfl) ?_
    show Ev 27 13 [some (.inr (.inr 28)), some (.inl a1)] [.inl (St_wayCount a1 g)] g _ _
    refine ev_runs 1 (13, [some (.inr (.inr 28)), some (.inl a1)], [.inl (St_wayCount a1 g)], g) (14, [some (.inr (.inr 28)), some (.inl a1)], [.inl 4, .inl (St_wayCount a1 g)], g) rfl ?_
    by_cases hc : (St_wayCount a1 g) < 4
    · rw [if_pos hc] at h
      refine es (26, [some (.inr (.inr 28)), some (.inl a1)], [], g) (congrArg some (if_pos hc)) ?_
      refine ev_runs 4 (26, [some (.inr (.inr 28)), some (.inl a1)], [], g) (32, [some (.inr (.inr 28)), some (.inl a1)], [.inl a1, .inl 2, .inr (.inr 7)], g) rfl ?_
      obtain ⟨g2, hq, h⟩ := lett_inv h
      refine ec 18 35 [.inr (.inr 7), .inl 2, .inl a1] [] rfl (ev_St_add 2 a1 g g2 hq.symm) ?_
      show Ev 27 35 [some (.inr (.inr 28)), some (.inl a1)] [] g2 _ _
      refine ev_runs 3 (35, [some (.inr (.inr 28)), some (.inl a1)], [], g2) (40, [some (.inr (.inr 28)), some (.inl a1)], [.inl a1, .inr (.inr 7)], g2) rfl ?_
      obtain ⟨g3, hq, h⟩ := lett_inv h
      refine ec 23 43 [.inr (.inr 7), .inl a1] [] rfl (ev_St_beginWay a1 g2 g3 hq.symm) ?_
      show Ev 27 43 [some (.inr (.inr 28)), some (.inl a1)] [] g3 _ _
      refine ev_runs 7 (43, [some (.inr (.inr 28)), some (.inl a1)], [], g3) (54, [some (.inr (.inr 28)), some (.inl a1)], [.inl 1], (gset g3 28 5 (wr ((g3 28 5) + 1)))) rfl ?_
      cases h
      exact er rfl
    · rw [if_neg hc] at h
      refine es (17, [some (.inr (.inr 28)), some (.inl a1)], [], g) (congrArg some (if_neg hc)) ?_
      refine ev_runs 3 (17, [some (.inr (.inr 28)), some (.inl a1)], [], g) (22, [some (.inr (.inr 28)), some (.inl a1)], [.inl (g 28 5), .inr (.inr 28)], g) rfl ?_
      obtain ⟨q4, hq, h⟩ := lett_inv h
      have hb_q4 : q4.1 = 0 ∨ q4.1 = 1 := by rw [hq]; exact bo_Pr_failAt (g 28 5) g
      refine ec 16 25 [.inr (.inr 28), .inl (g 28 5)] [] rfl (ev_Pr_failAt (g 28 5) g q4.1 q4.2 hq.symm) ?_
      show Ev 27 25 [some (.inr (.inr 28)), some (.inl a1)] [.inl q4.1] q4.2 _ _
      cases h
      exact er (if_pos hb_q4)
set_option maxRecDepth 100000 in
set_option maxHeartbeats 4000000 in
theorem ev_St_closeRounds (a1 : Int) (g : Gx) (g' : Gx) (h : St_closeRounds a1 g = g') : Ev 28 0 [some (.inr (.inr 7)), some (.inl a1)] [] g none g' := by
  rw [St_closeRounds] at h
  refine ev_runs 5 (0, [some (.inr (.inr 7)), some (.inl a1)], [], g) (7, [some (.inr (.inr 7)), some (.inl a1)], [.inl (wr (a1 + 1)), .inl (g 7 10)], g) rfl ?_
  by_cases hc : ¬ (g 7 10) = (wr (a1 + 1))
  · rw [if_pos hc] at h
    refine es (18, [some (.inr (.inr 7)), some (.inl a1)], [], g) (congrArg some (if_pos hc)) ?_
    refine ev_runs 5 (18, [some (.inr (.inr 7)), some (.inl a1)], [], g) (27, [some (.inr (.inr 7)), some (.inl a1)], [.inl 5, .inl (g 7 10), .inr (.inr 8)], g) rfl ?_
    refine ec 0 30 [.inr (.inr 8), .inl (g 7 10), .inl 5] [] rfl (ev_Row_set rfl rfl _ _ _) ?_
    show Ev 28 30 [some (.inr (.inr 7)), some (.inl a1)] [] (rset g 9 160 (g 7 10) 5) _ _
    refine ev_runs 7 (30, [some (.inr (.inr 7)), some (.inl a1)], [], (rset g 9 160 (g 7 10) 5)) (43, [some (.inr (.inr 7)), some (.inl a1)], [.inl a1, .inr (.inr 10), .inl (g 7 10), .inr (.inr 10)], (rset g 9 160 (g 7 10) 5)) rfl ?_
    refine ec 13 46 [.inr (.inr 10), .inl a1] [.inl (g 7 10), .inr (.inr 10)] rfl (ev_Row_at rfl rfl _ _) ?_
    show Ev 28 46 [some (.inr (.inr 7)), some (.inl a1)] [.inl (rat g 11 160 a1), .inl (g 7 10), .inr (.inr 10)] (rset g 9 160 (g 7 10) 5) _ _
    refine ec 0 49 [.inr (.inr 10), .inl (g 7 10), .inl (rat g 11 160 a1)] [] rfl (ev_Row_set rfl rfl _ _ _) ?_
    show Ev 28 49 [some (.inr (.inr 7)), some (.inl a1)] [] (rset (rset g 9 160 (g 7 10) 5) 11 160 (g 7 10) (rat g 11 160 a1)) _ _
    refine ev_runs 6 (49, [some (.inr (.inr 7)), some (.inl a1)], [], (rset (rset g 9 160 (g 7 10) 5) 11 160 (g 7 10) (rat g 11 160 a1))) (59, [some (.inr (.inr 7)), some (.inl a1)], [], (gset (rset (rset g 9 160 (g 7 10) 5) 11 160 (g 7 10) (rat g 11 160 a1)) 7 10 (wr ((g 7 10) + 1)))) rfl ?_
    subst h
    exact er rfl
  · rw [if_neg hc] at h
    refine es (10, [some (.inr (.inr 7)), some (.inl a1)], [], g) (congrArg some (if_neg hc)) ?_
    refine ev_runs 4 (10, [some (.inr (.inr 7)), some (.inl a1)], [], g) (59, [some (.inr (.inr 7)), some (.inl a1)], [], (gset g 7 10 a1)) rfl ?_
    subst h
    exact er rfl
set_option maxRecDepth 100000 in
set_option maxHeartbeats 4000000 in
theorem ev_St_endChoice (a1 : Int) (g : Gx) (g' : Gx) (h : St_endChoice a1 g = g') : Ev 29 0 [some (.inr (.inr 7)), some (.inl a1)] [] g none g' := by
  rw [St_endChoice] at h
  refine ev_runs 5 (0, [some (.inr (.inr 7)), some (.inl a1)], [], g) (9, [some (.inr (.inr 7)), some (.inl a1)], [.inl (g 7 10), .inl a1, .inr (.inr 18)], g) rfl ?_
  refine ec 0 12 [.inr (.inr 18), .inl a1, .inl (g 7 10)] [] rfl (ev_Row_set rfl rfl _ _ _) ?_
  show Ev 29 12 [some (.inr (.inr 7)), some (.inl a1)] [] (rset g 19 40 a1 (g 7 10)) _ _
  subst h
  exact er rfl
set_option maxRecDepth 100000 in
set_option maxHeartbeats 4000000 in
theorem ev_Pr_readClosing (a1 : Int) (g : Gx) (r : Int) (g' : Gx) (h : Pr_readClosing a1 g = (r, g')) : Ev 30 0 [some (.inr (.inr 28)), some (.inl a1)] [] g (some (.inl r)) g' := by
  rw [Pr_readClosing] at h
  refine ev_runs 2 (0, [some (.inr (.inr 28)), some (.inl a1)], [], g) (2, [some (.inr (.inr 28)), some (.inl a1)], [.inl (-1), .inl a1], g) rfl ?_
  by_cases hc : ¬ a1 = (-1)
  · rw [if_pos hc] at h
    refine es (28, [some (.inr (.inr 28)), some (.inl a1)], [], g) (congrArg some (if_pos hc)) ?_
    refine ev_runs 3 (28, [some (.inr (.inr 28)), some (.inl a1)], [], g) (33, [some (.inr (.inr 28)), some (.inl a1)], [.inl a1, .inr (.inr 7)], g) rfl ?_
    refine ec 26 36 [.inr (.inr 7), .inl a1] [] rfl (ev_St_wayCount a1 g _ rfl) ?_
    show Ev 30 36 [some (.inr (.inr 28)), some (.inl a1)] [.inl (St_wayCount a1 g)] g _ _
    refine ev_runs 1 (36, [some (.inr (.inr 28)), some (.inl a1)], [.inl (St_wayCount a1 g)], g) (37, [some (.inr (.inr 28)), some (.inl a1)], [.inl 2, .inl (St_wayCount a1 g)], g) rfl ?_
    by_cases hc : 2 ≤ (St_wayCount a1 g)
    · rw [if_pos hc] at h
      refine es (49, [some (.inr (.inr 28)), some (.inl a1)], [], g) (congrArg some (if_pos hc)) ?_
      refine ev_runs 4 (49, [some (.inr (.inr 28)), some (.inl a1)], [], g) (55, [some (.inr (.inr 28)), some (.inl a1)], [.inl a1, .inl 3, .inr (.inr 7)], g) rfl ?_
      obtain ⟨g1, hq, h⟩ := lett_inv h
      refine ec 18 58 [.inr (.inr 7), .inl 3, .inl a1] [] rfl (ev_St_add 3 a1 g g1 hq.symm) ?_
      show Ev 30 58 [some (.inr (.inr 28)), some (.inl a1)] [] g1 _ _
      refine ev_runs 3 (58, [some (.inr (.inr 28)), some (.inl a1)], [], g1) (63, [some (.inr (.inr 28)), some (.inl a1)], [.inl a1, .inr (.inr 7)], g1) rfl ?_
      obtain ⟨g2, hq, h⟩ := lett_inv h
      refine ec 29 66 [.inr (.inr 7), .inl a1] [] rfl (ev_St_endChoice a1 g1 g2 hq.symm) ?_
      show Ev 30 66 [some (.inr (.inr 28)), some (.inl a1)] [] g2 _ _
      refine ev_runs 13 (66, [some (.inr (.inr 28)), some (.inl a1)], [], g2) (87, [some (.inr (.inr 28)), some (.inl a1)], [.inl 0], (gset (gset g2 28 4 (wr ((g2 28 4) - 1))) 28 5 (wr ((g2 28 5) + 1)))) rfl ?_
      cases h
      exact er rfl
    · rw [if_neg hc] at h
      refine es (40, [some (.inr (.inr 28)), some (.inl a1)], [], g) (congrArg some (if_neg hc)) ?_
      refine ev_runs 3 (40, [some (.inr (.inr 28)), some (.inl a1)], [], g) (45, [some (.inr (.inr 28)), some (.inl a1)], [.inl (g 28 5), .inr (.inr 28)], g) rfl ?_
      obtain ⟨q3, hq, h⟩ := lett_inv h
      have hb_q3 : q3.1 = 0 ∨ q3.1 = 1 := by rw [hq]; exact bo_Pr_failAt (g 28 5) g
      refine ec 16 48 [.inr (.inr 28), .inl (g 28 5)] [] rfl (ev_Pr_failAt (g 28 5) g q3.1 q3.2 hq.symm) ?_
      show Ev 30 48 [some (.inr (.inr 28)), some (.inl a1)] [.inl q3.1] q3.2 _ _
      cases h
      exact er (if_pos hb_q3)
  · rw [if_neg hc] at h
    refine es (5, [some (.inr (.inr 28)), some (.inl a1)], [], g) (congrArg some (if_neg hc)) ?_
    refine ev_runs 8 (5, [some (.inr (.inr 28)), some (.inl a1)], [], g) (19, [some (.inr (.inr 28)), some (.inl a1)], [.inl (wr ((g 28 4) - 1)), .inr (.inr 31), .inr (.inr 7)], g) rfl ?_
    refine ec 13 22 [.inr (.inr 31), .inl (wr ((g 28 4) - 1))] [.inr (.inr 7)] rfl (ev_Row_at rfl rfl _ _) ?_
    show Ev 30 22 [some (.inr (.inr 28)), some (.inl a1)] [.inl (rat g 32 4 (wr ((g 28 4) - 1))), .inr (.inr 7)] g _ _
    obtain ⟨g4, hq, h⟩ := lett_inv h
    refine ec 28 25 [.inr (.inr 7), .inl (rat g 32 4 (wr ((g 28 4) - 1)))] [] rfl (ev_St_closeRounds (rat g 32 4 (wr ((g 28 4) - 1))) g g4 hq.symm) ?_
    show Ev 30 25 [some (.inr (.inr 28)), some (.inl a1)] [] g4 _ _
    refine ev_runs 14 (25, [some (.inr (.inr 28)), some (.inl a1)], [], g4) (87, [some (.inr (.inr 28)), some (.inl a1)], [.inl 0], (gset (gset g4 28 4 (wr ((g4 28 4) - 1))) 28 5 (wr ((g4 28 5) + 1)))) rfl ?_
    cases h
    exact er rfl
set_option maxRecDepth 100000 in
set_option maxHeartbeats 4000000 in
theorem ev_Pr_readBehindItem (g : Gx) (r : Int) (g' : Gx) (h : Pr_readBehindItem g = (r, g')) : Ev 31 0 [some (.inr (.inr 28)), none] [] g (some (.inl r)) g' := by
  rw [Pr_readBehindItem] at h
  refine ev_runs 4 (0, [some (.inr (.inr 28)), none], [], g) (8, [some (.inr (.inr 28)), none], [.inl (g 28 5), .inr (.inr 1)], g) rfl ?_
  refine ec 14 11 [.inr (.inr 1), .inl (g 28 5)] [] rfl (ev_Tx_at1 (g 28 5) g _ rfl) ?_
  show Ev 31 11 [some (.inr (.inr 28)), none] [.inl (Tx_at1 (g 28 5) g)] g _ _
  refine ev_runs 3 (11, [some (.inr (.inr 28)), none], [.inl (Tx_at1 (g 28 5) g)], g) (15, [some (.inr (.inr 28)), some (.inl (Tx_at1 (g 28 5) g))], [.inl 44, .inl (Tx_at1 (g 28 5) g)], g) rfl ?_
  by_cases hc : ¬ (Tx_at1 (g 28 5) g) = 44
  · rw [if_pos hc] at h
    refine es (30, [some (.inr (.inr 28)), some (.inl (Tx_at1 (g 28 5) g))], [], g) (congrArg some (if_pos hc)) ?_
    refine ev_runs 2 (30, [some (.inr (.inr 28)), some (.inl (Tx_at1 (g 28 5) g))], [], g) (34, [some (.inr (.inr 28)), some (.inl (Tx_at1 (g 28 5) g))], [.inl (g 28 4)], g) rfl ?_
    by_cases hc : (g 28 4) ≤ 0
    · rw [if_pos hc] at h
      refine es (61, [some (.inr (.inr 28)), some (.inl (Tx_at1 (g 28 5) g))], [], g) (congrArg some (if_pos hc)) ?_
      refine ev_runs 2 (61, [some (.inr (.inr 28)), some (.inl (Tx_at1 (g 28 5) g))], [], g) (65, [some (.inr (.inr 28)), some (.inl (Tx_at1 (g 28 5) g))], [.inl (g 28 4)], g) rfl ?_
      by_cases hc : (g 28 4) ≤ 0
      · rw [if_pos hc] at h
        refine es (92, [some (.inr (.inr 28)), some (.inl (Tx_at1 (g 28 5) g))], [], g) (congrArg some (if_pos hc)) ?_
        refine ev_runs 3 (92, [some (.inr (.inr 28)), some (.inl (Tx_at1 (g 28 5) g))], [], g) (97, [some (.inr (.inr 28)), some (.inl (Tx_at1 (g 28 5) g))], [.inl (g 28 5), .inr (.inr 28)], g) rfl ?_
        obtain ⟨q1, hq, h⟩ := lett_inv h
        have hb_q1 : q1.1 = 0 ∨ q1.1 = 1 := by rw [hq]; exact bo_Pr_failAt (g 28 5) g
        refine ec 16 100 [.inr (.inr 28), .inl (g 28 5)] [] rfl (ev_Pr_failAt (g 28 5) g q1.1 q1.2 hq.symm) ?_
        show Ev 31 100 [some (.inr (.inr 28)), some (.inl (Tx_at1 (g 28 5) g))] [.inl q1.1] q1.2 _ _
        cases h
        exact er (if_pos hb_q1)
      · rw [if_neg hc] at h
        refine es (68, [some (.inr (.inr 28)), some (.inl (Tx_at1 (g 28 5) g))], [], g) (congrArg some (if_neg hc)) ?_
        refine ev_runs 2 (68, [some (.inr (.inr 28)), some (.inl (Tx_at1 (g 28 5) g))], [], g) (71, [some (.inr (.inr 28)), some (.inl (Tx_at1 (g 28 5) g))], [.inl 41, .inl (Tx_at1 (g 28 5) g)], g) rfl ?_
        by_cases hc : ¬ (Tx_at1 (g 28 5) g) = 41
        · rw [if_pos hc] at h
          refine es (92, [some (.inr (.inr 28)), some (.inl (Tx_at1 (g 28 5) g))], [], g) (congrArg some (if_pos hc)) ?_
          refine ev_runs 3 (92, [some (.inr (.inr 28)), some (.inl (Tx_at1 (g 28 5) g))], [], g) (97, [some (.inr (.inr 28)), some (.inl (Tx_at1 (g 28 5) g))], [.inl (g 28 5), .inr (.inr 28)], g) rfl ?_
          obtain ⟨q2, hq, h⟩ := lett_inv h
          have hb_q2 : q2.1 = 0 ∨ q2.1 = 1 := by rw [hq]; exact bo_Pr_failAt (g 28 5) g
          refine ec 16 100 [.inr (.inr 28), .inl (g 28 5)] [] rfl (ev_Pr_failAt (g 28 5) g q2.1 q2.2 hq.symm) ?_
          show Ev 31 100 [some (.inr (.inr 28)), some (.inl (Tx_at1 (g 28 5) g))] [.inl q2.1] q2.2 _ _
          cases h
          exact er (if_pos hb_q2)
        · rw [if_neg hc] at h
          refine es (74, [some (.inr (.inr 28)), some (.inl (Tx_at1 (g 28 5) g))], [], g) (congrArg some (if_neg hc)) ?_
          refine ev_runs 7 (74, [some (.inr (.inr 28)), some (.inl (Tx_at1 (g 28 5) g))], [], g) (85, [some (.inr (.inr 28)), some (.inl (Tx_at1 (g 28 5) g))], [.inl (wr ((g 28 4) - 1)), .inr (.inr 29), .inr (.inr 28)], g) rfl ?_
          refine ec 13 88 [.inr (.inr 29), .inl (wr ((g 28 4) - 1))] [.inr (.inr 28)] rfl (ev_Row_at rfl rfl _ _) ?_
          show Ev 31 88 [some (.inr (.inr 28)), some (.inl (Tx_at1 (g 28 5) g))] [.inl (rat g 30 4 (wr ((g 28 4) - 1))), .inr (.inr 28)] g _ _
          obtain ⟨q3, hq, h⟩ := lett_inv h
          have hb_q3 : q3.1 = 0 ∨ q3.1 = 1 := by rw [hq]; exact bo_Pr_readClosing (rat g 30 4 (wr ((g 28 4) - 1))) g
          refine ec 30 91 [.inr (.inr 28), .inl (rat g 30 4 (wr ((g 28 4) - 1)))] [] rfl (ev_Pr_readClosing (rat g 30 4 (wr ((g 28 4) - 1))) g q3.1 q3.2 hq.symm) ?_
          show Ev 31 91 [some (.inr (.inr 28)), some (.inl (Tx_at1 (g 28 5) g))] [.inl q3.1] q3.2 _ _
          cases h
          exact er (if_pos hb_q3)
    · rw [if_neg hc] at h
      refine es (37, [some (.inr (.inr 28)), some (.inl (Tx_at1 (g 28 5) g))], [], g) (congrArg some (if_neg hc)) ?_
      refine ev_runs 2 (37, [some (.inr (.inr 28)), some (.inl (Tx_at1 (g 28 5) g))], [], g) (40, [some (.inr (.inr 28)), some (.inl (Tx_at1 (g 28 5) g))], [.inl 124, .inl (Tx_at1 (g 28 5) g)], g) rfl ?_
      by_cases hc : ¬ (Tx_at1 (g 28 5) g) = 124
      · rw [if_pos hc] at h
        refine es (61, [some (.inr (.inr 28)), some (.inl (Tx_at1 (g 28 5) g))], [], g) (congrArg some (if_pos hc)) ?_
        refine ev_runs 2 (61, [some (.inr (.inr 28)), some (.inl (Tx_at1 (g 28 5) g))], [], g) (65, [some (.inr (.inr 28)), some (.inl (Tx_at1 (g 28 5) g))], [.inl (g 28 4)], g) rfl ?_
        by_cases hc : (g 28 4) ≤ 0
        · rw [if_pos hc] at h
          refine es (92, [some (.inr (.inr 28)), some (.inl (Tx_at1 (g 28 5) g))], [], g) (congrArg some (if_pos hc)) ?_
          refine ev_runs 3 (92, [some (.inr (.inr 28)), some (.inl (Tx_at1 (g 28 5) g))], [], g) (97, [some (.inr (.inr 28)), some (.inl (Tx_at1 (g 28 5) g))], [.inl (g 28 5), .inr (.inr 28)], g) rfl ?_
          obtain ⟨q4, hq, h⟩ := lett_inv h
          have hb_q4 : q4.1 = 0 ∨ q4.1 = 1 := by rw [hq]; exact bo_Pr_failAt (g 28 5) g
          refine ec 16 100 [.inr (.inr 28), .inl (g 28 5)] [] rfl (ev_Pr_failAt (g 28 5) g q4.1 q4.2 hq.symm) ?_
          show Ev 31 100 [some (.inr (.inr 28)), some (.inl (Tx_at1 (g 28 5) g))] [.inl q4.1] q4.2 _ _
          cases h
          exact er (if_pos hb_q4)
        · rw [if_neg hc] at h
          refine es (68, [some (.inr (.inr 28)), some (.inl (Tx_at1 (g 28 5) g))], [], g) (congrArg some (if_neg hc)) ?_
          refine ev_runs 2 (68, [some (.inr (.inr 28)), some (.inl (Tx_at1 (g 28 5) g))], [], g) (71, [some (.inr (.inr 28)), some (.inl (Tx_at1 (g 28 5) g))], [.inl 41, .inl (Tx_at1 (g 28 5) g)], g) rfl ?_
          by_cases hc : ¬ (Tx_at1 (g 28 5) g) = 41
          · rw [if_pos hc] at h
            refine es (92, [some (.inr (.inr 28)), some (.inl (Tx_at1 (g 28 5) g))], [], g) (congrArg some (if_pos hc)) ?_
            refine ev_runs 3 (92, [some (.inr (.inr 28)), some (.inl (Tx_at1 (g 28 5) g))], [], g) (97, [some (.inr (.inr 28)), some (.inl (Tx_at1 (g 28 5) g))], [.inl (g 28 5), .inr (.inr 28)], g) rfl ?_
            obtain ⟨q5, hq, h⟩ := lett_inv h
            have hb_q5 : q5.1 = 0 ∨ q5.1 = 1 := by rw [hq]; exact bo_Pr_failAt (g 28 5) g
            refine ec 16 100 [.inr (.inr 28), .inl (g 28 5)] [] rfl (ev_Pr_failAt (g 28 5) g q5.1 q5.2 hq.symm) ?_
            show Ev 31 100 [some (.inr (.inr 28)), some (.inl (Tx_at1 (g 28 5) g))] [.inl q5.1] q5.2 _ _
            cases h
            exact er (if_pos hb_q5)
          · rw [if_neg hc] at h
            refine es (74, [some (.inr (.inr 28)), some (.inl (Tx_at1 (g 28 5) g))], [], g) (congrArg some (if_neg hc)) ?_
            refine ev_runs 7 (74, [some (.inr (.inr 28)), some (.inl (Tx_at1 (g 28 5) g))], [], g) (85, [some (.inr (.inr 28)), some (.inl (Tx_at1 (g 28 5) g))], [.inl (wr ((g 28 4) - 1)), .inr (.inr 29), .inr (.inr 28)], g) rfl ?_
            refine ec 13 88 [.inr (.inr 29), .inl (wr ((g 28 4) - 1))] [.inr (.inr 28)] rfl (ev_Row_at rfl rfl _ _) ?_
            show Ev 31 88 [some (.inr (.inr 28)), some (.inl (Tx_at1 (g 28 5) g))] [.inl (rat g 30 4 (wr ((g 28 4) - 1))), .inr (.inr 28)] g _ _
            obtain ⟨q6, hq, h⟩ := lett_inv h
            have hb_q6 : q6.1 = 0 ∨ q6.1 = 1 := by rw [hq]; exact bo_Pr_readClosing (rat g 30 4 (wr ((g 28 4) - 1))) g
            refine ec 30 91 [.inr (.inr 28), .inl (rat g 30 4 (wr ((g 28 4) - 1)))] [] rfl (ev_Pr_readClosing (rat g 30 4 (wr ((g 28 4) - 1))) g q6.1 q6.2 hq.symm) ?_
            show Ev 31 91 [some (.inr (.inr 28)), some (.inl (Tx_at1 (g 28 5) g))] [.inl q6.1] q6.2 _ _
            cases h
            exact er (if_pos hb_q6)
      · rw [if_neg hc] at h
        refine es (43, [some (.inr (.inr 28)), some (.inl (Tx_at1 (g 28 5) g))], [], g) (congrArg some (if_neg hc)) ?_
        refine ev_runs 7 (43, [some (.inr (.inr 28)), some (.inl (Tx_at1 (g 28 5) g))], [], g) (54, [some (.inr (.inr 28)), some (.inl (Tx_at1 (g 28 5) g))], [.inl (wr ((g 28 4) - 1)), .inr (.inr 29), .inr (.inr 28)], g) rfl ?_
        refine ec 13 57 [.inr (.inr 29), .inl (wr ((g 28 4) - 1))] [.inr (.inr 28)] rfl (ev_Row_at rfl rfl _ _) ?_
        show Ev 31 57 [some (.inr (.inr 28)), some (.inl (Tx_at1 (g 28 5) g))] [.inl (rat g 30 4 (wr ((g 28 4) - 1))), .inr (.inr 28)] g _ _
        obtain ⟨q7, hq, h⟩ := lett_inv h
        have hb_q7 : q7.1 = 0 ∨ q7.1 = 1 := by rw [hq]; exact bo_Pr_readNextWay (rat g 30 4 (wr ((g 28 4) - 1))) g
        refine ec 27 60 [.inr (.inr 28), .inl (rat g 30 4 (wr ((g 28 4) - 1)))] [] rfl (ev_Pr_readNextWay (rat g 30 4 (wr ((g 28 4) - 1))) g q7.1 q7.2 hq.symm) ?_
        show Ev 31 60 [some (.inr (.inr 28)), some (.inl (Tx_at1 (g 28 5) g))] [.inl q7.1] q7.2 _ _
        cases h
        exact er (if_pos hb_q7)
  · rw [if_neg hc] at h
    refine es (18, [some (.inr (.inr 28)), some (.inl (Tx_at1 (g 28 5) g))], [], g) (congrArg some (if_neg hc)) ?_
    refine ev_runs 7 (18, [some (.inr (.inr 28)), some (.inl (Tx_at1 (g 28 5) g))], [], g) (29, [some (.inr (.inr 28)), some (.inl (Tx_at1 (g 28 5) g))], [.inl 1], (gset g 28 5 (wr ((g 28 5) + 1)))) rfl ?_
    cases h
    exact er rfl
set_option maxRecDepth 100000 in
set_option maxHeartbeats 4000000 in
theorem ev_Pr_firstFault_l38 (K38_90 : Gx → Option (Int × Gx)) (hK38_90 : ∀ (g : Gx) (r : Int) (g' : Gx), K38_90 g = some (r, g') → Ev 32 90 [some (.inr (.inr 28)), none, none] [] g (some (.inl r)) g') : ∀ (n38 : Nat) (v1 v2 : Int) (g : Gx) (r : Int) (g' : Gx), Pr_firstFault_l38 K38_90 n38 v1 v2 g = some (r, g') → Ev 32 38 [some (.inr (.inr 28)), some (.inl v1), some (.inl v2)] [] g (some (.inl r)) g' := by
  intro n38
  induction n38 with
  | zero => intro v1 v2 g r g' h; cases h
  | succ n38 ih38 =>
    intro v1 v2 g r g' h
    rw [Pr_firstFault_l38] at h
    refine ev_runs 2 (38, [some (.inr (.inr 28)), some (.inl v1), some (.inl v2)], [], g) (42, [some (.inr (.inr 28)), some (.inl v1), some (.inl v2)], [.inl 160, .inl v2], g) rfl ?_
    by_cases hc : 160 < v2
    · rw [if_pos hc] at h
      refine es (90, [some (.inr (.inr 28)), some (.inl v1), some (.inl v2)], [], g) (congrArg some (if_pos hc)) ?_
      exact ev_le (L := [some (.inr (.inr 28)), none, none]) (by simp [Lle]) (hK38_90 g r g' h)
    · rw [if_neg hc] at h
      refine es (45, [some (.inr (.inr 28)), some (.inl v1), some (.inl v2)], [], g) (congrArg some (if_neg hc)) ?_
      refine ev_runs 3 (45, [some (.inr (.inr 28)), some (.inl v1), some (.inl v2)], [], g) (50, [some (.inr (.inr 28)), some (.inl v1), some (.inl v2)], [.inl (-1), .inl (g 28 6)], g) rfl ?_
      by_cases hc : ¬ (g 28 6) = (-1)
      · rw [if_pos hc] at h
        refine es (90, [some (.inr (.inr 28)), some (.inl v1), some (.inl v2)], [], g) (congrArg some (if_pos hc)) ?_
        exact ev_le (L := [some (.inr (.inr 28)), none, none]) (by simp [Lle]) (hK38_90 g r g' h)
      · rw [if_neg hc] at h
        refine es (53, [some (.inr (.inr 28)), some (.inl v1), some (.inl v2)], [], g) (congrArg some (if_neg hc)) ?_
        refine ev_runs 1 (53, [some (.inr (.inr 28)), some (.inl v1), some (.inl v2)], [], g) (54, [some (.inr (.inr 28)), some (.inl v1), some (.inl v2)], [.inl v1], g) rfl ?_
        by_cases hc : v1 = 0
        · rw [if_pos hc] at h
          refine es (65, [some (.inr (.inr 28)), some (.inl v1), some (.inl v2)], [], g) (congrArg some (if_pos hc)) ?_
          refine ev_runs 4 (65, [some (.inr (.inr 28)), some (.inl v1), some (.inl v2)], [], g) (73, [some (.inr (.inr 28)), some (.inl v1), some (.inl v2)], [.inr (.inr 1), .inl (g 28 5)], g) rfl ?_
          refine ec 2 76 [.inr (.inr 1)] [.inl (g 28 5)] rfl (ev_Tx_length1 g _ rfl) ?_
          show Ev 32 76 [some (.inr (.inr 28)), some (.inl v1), some (.inl v2)] [.inl (Tx_length1 g), .inl (g 28 5)] g _ _
          by_cases hc : (Tx_length1 g) ≤ (g 28 5)
          · rw [if_pos hc] at h
            refine es (90, [some (.inr (.inr 28)), some (.inl v1), some (.inl v2)], [], g) (congrArg some (if_pos hc)) ?_
            exact ev_le (L := [some (.inr (.inr 28)), none, none]) (by simp [Lle]) (hK38_90 g r g' h)
          · rw [if_neg hc] at h
            refine es (79, [some (.inr (.inr 28)), some (.inl v1), some (.inl v2)], [], g) (congrArg some (if_neg hc)) ?_
            refine ev_runs 1 (79, [some (.inr (.inr 28)), some (.inl v1), some (.inl v2)], [], g) (80, [some (.inr (.inr 28)), some (.inl v1), some (.inl v2)], [.inr (.inr 28)], g) rfl ?_
            obtain ⟨q2, hq, h⟩ := lett_inv h
            have hb_q2 : q2.1 = 0 ∨ q2.1 = 1 := by rw [hq]; exact bo_Pr_readBehindItem g
            refine ec 31 83 [.inr (.inr 28)] [] rfl (ev_Pr_readBehindItem g q2.1 q2.2 hq.symm) ?_
            show Ev 32 83 [some (.inr (.inr 28)), some (.inl v1), some (.inl v2)] [.inl q2.1] q2.2 _ _
            refine ev_runs 3 (83, [some (.inr (.inr 28)), some (.inl v1), some (.inl v2)], [.inl q2.1], q2.2) (38, [some (.inr (.inr 28)), some (.inl q2.1), some (.inl (wr (v2 + 1)))], [], q2.2) rfl ?_
            exact ev_le (L := [some (.inr (.inr 28)), some (.inl q2.1), some (.inl (wr (v2 + 1)))]) (by simp [Lle]) (ih38 q2.1 (wr (v2 + 1)) q2.2 r g' h)
        · rw [if_neg hc] at h
          refine es (57, [some (.inr (.inr 28)), some (.inl v1), some (.inl v2)], [], g) (congrArg some (if_neg hc)) ?_
          refine ev_runs 1 (57, [some (.inr (.inr 28)), some (.inl v1), some (.inl v2)], [], g) (58, [some (.inr (.inr 28)), some (.inl v1), some (.inl v2)], [.inr (.inr 28)], g) rfl ?_
          obtain ⟨q3, hq, h⟩ := lett_inv h
          have hb_q3 : q3.1 = 0 ∨ q3.1 = 1 := by rw [hq]; exact bo_Pr_readItem g
          refine ec 25 61 [.inr (.inr 28)] [] rfl (ev_Pr_readItem g q3.1 q3.2 hq.symm) ?_
          show Ev 32 61 [some (.inr (.inr 28)), some (.inl v1), some (.inl v2)] [.inl q3.1] q3.2 _ _
          refine ev_runs 4 (61, [some (.inr (.inr 28)), some (.inl v1), some (.inl v2)], [.inl q3.1], q3.2) (38, [some (.inr (.inr 28)), some (.inl q3.1), some (.inl (wr (v2 + 1)))], [], q3.2) rfl ?_
          exact ev_le (L := [some (.inr (.inr 28)), some (.inl q3.1), some (.inl (wr (v2 + 1)))]) (by simp [Lle]) (ih38 q3.1 (wr (v2 + 1)) q3.2 r g' h)
set_option maxRecDepth 100000 in
set_option maxHeartbeats 4000000 in
theorem ev_Pr_firstFault (g : Gx) (r : Int) (g' : Gx) (h : Pr_firstFault g = some (r, g')) : Ev 32 0 [some (.inr (.inr 28)), none, none] [] g (some (.inl r)) g' := by
  rw [Pr_firstFault] at h
  refine ev_runs 4 (0, [some (.inr (.inr 28)), none, none], [], g) (8, [some (.inr (.inr 28)), none, none], [.inr (.inr 1), .inl (g 28 9)], g) rfl ?_
  refine ec 10 11 [.inr (.inr 1)] [.inl (g 28 9)] rfl (ev_Tx_changes1 g _ rfl) ?_
  show Ev 32 11 [some (.inr (.inr 28)), none, none] [.inl (Tx_changes1 g), .inl (g 28 9)] g _ _
  by_cases hc : ¬ (g 28 9) = (Tx_changes1 g)
  · rw [if_pos hc] at h
    refine es (19, [some (.inr (.inr 28)), none, none], [], g) (congrArg some (if_pos hc)) ?_
    refine ev_runs 3 (19, [some (.inr (.inr 28)), none, none], [], g) (24, [some (.inr (.inr 28)), none, none], [.inr (.inr 1), .inr (.inr 28)], g) rfl ?_
    refine ec 10 27 [.inr (.inr 1)] [.inr (.inr 28)] rfl (ev_Tx_changes1 g _ rfl) ?_
    show Ev 32 27 [some (.inr (.inr 28)), none, none] [.inl (Tx_changes1 g), .inr (.inr 28)] g _ _
    refine ev_runs 2 (27, [some (.inr (.inr 28)), none, none], [.inl (Tx_changes1 g), .inr (.inr 28)], g) (31, [some (.inr (.inr 28)), none, none], [.inr (.inr 28)], (gset g 28 9 (Tx_changes1 g))) rfl ?_
    obtain ⟨g1, hq, h⟩ := lett_inv h
    refine ec 12 34 [.inr (.inr 28)] [] rfl (ev_Pr_restart (gset g 28 9 (Tx_changes1 g)) g1 hq.symm) ?_
    show Ev 32 34 [some (.inr (.inr 28)), none, none] [] g1 _ _
    refine ev_runs 4 (34, [some (.inr (.inr 28)), none, none], [], g1) (38, [some (.inr (.inr 28)), some (.inl 1), some (.inl 0)], [], g1) rfl ?_
    refine ev_le (L := [some (.inr (.inr 28)), some (.inl 1), some (.inl 0)]) (by simp [Lle]) ?_
    refine ev_Pr_firstFault_l38 _ ?_ fu 1 0 g1 r g' h
    · intro g4 r g' h
      refine ev_runs 3 (90, [some (.inr (.inr 28)), none, none], [], g4) (95, [some (.inr (.inr 28)), none, none], [.inl (-1), .inl (g4 28 6)], g4) rfl ?_
      by_cases hc : ¬ (g4 28 6) = (-1)
      · rw [if_pos hc] at h
        refine es (116, [some (.inr (.inr 28)), none, none], [], g4) (congrArg some (if_pos hc)) ?_
        refine ev_runs 2 (116, [some (.inr (.inr 28)), none, none], [], g4) (120, [some (.inr (.inr 28)), none, none], [.inl (g4 28 6)], g4) rfl ?_
        cases h
        exact er rfl
      · rw [if_neg hc] at h
        refine es (98, [some (.inr (.inr 28)), none, none], [], g4) (congrArg some (if_neg hc)) ?_
        refine ev_runs 2 (98, [some (.inr (.inr 28)), none, none], [], g4) (102, [some (.inr (.inr 28)), none, none], [.inl (g4 28 4)], g4) rfl ?_
        by_cases hc : (g4 28 4) ≤ 0
        · rw [if_pos hc] at h
          refine es (116, [some (.inr (.inr 28)), none, none], [], g4) (congrArg some (if_pos hc)) ?_
          refine ev_runs 2 (116, [some (.inr (.inr 28)), none, none], [], g4) (120, [some (.inr (.inr 28)), none, none], [.inl (g4 28 6)], g4) rfl ?_
          cases h
          exact er rfl
        · rw [if_neg hc] at h
          refine es (105, [some (.inr (.inr 28)), none, none], [], g4) (congrArg some (if_neg hc)) ?_
          refine ev_runs 3 (105, [some (.inr (.inr 28)), none, none], [], g4) (110, [some (.inr (.inr 28)), none, none], [.inr (.inr 1), .inr (.inr 28)], g4) rfl ?_
          refine ec 2 113 [.inr (.inr 1)] [.inr (.inr 28)] rfl (ev_Tx_length1 g4 _ rfl) ?_
          show Ev 32 113 [some (.inr (.inr 28)), none, none] [.inl (Tx_length1 g4), .inr (.inr 28)] g4 _ _
          refine ev_runs 3 (113, [some (.inr (.inr 28)), none, none], [.inl (Tx_length1 g4), .inr (.inr 28)], g4) (120, [some (.inr (.inr 28)), none, none], [.inl (Tx_length1 g4)], (gset g4 28 6 (Tx_length1 g4))) rfl ?_
          cases h
          exact er rfl
  · rw [if_neg hc] at h
    refine es (14, [some (.inr (.inr 28)), none, none], [], g) (congrArg some (if_neg hc)) ?_
    refine ev_runs 2 (14, [some (.inr (.inr 28)), none, none], [], g) (18, [some (.inr (.inr 28)), none, none], [.inl (g 28 6)], g) rfl ?_
    cases h
    exact er rfl
set_option maxRecDepth 100000 in
set_option maxHeartbeats 4000000 in
theorem ev_Pg_read_l18 (K18_209 : Int → Gx → Option (Int × Gx)) (hK18_209 : ∀ (x1 : Int) (g : Gx) (r : Int) (g' : Gx), K18_209 x1 g = some (r, g') → Ev 33 209 [some (.inr (.inr 69)), some (.inl x1), none, none] [] g (some (.inl r)) g') : ∀ (n18 : Nat) (v1 v2 : Int) (g : Gx) (r : Int) (g' : Gx), Pg_read_l18 K18_209 n18 v1 v2 g = some (r, g') → Ev 33 18 [some (.inr (.inr 69)), some (.inl v1), some (.inl v2), none] [] g (some (.inl r)) g' := by
  intro n18
  induction n18 with
  | zero => intro v1 v2 g r g' h; cases h
  | succ n18 ih18 =>
    intro v1 v2 g r g' h
    rw [Pg_read_l18] at h
    refine ev_runs 3 (18, [some (.inr (.inr 69)), some (.inl v1), some (.inl v2), none], [], g) (23, [some (.inr (.inr 69)), some (.inl v1), some (.inl v2), none], [.inr (.inr 4), .inl v2], g) rfl ?_
    refine ec 2 26 [.inr (.inr 4)] [.inl v2] rfl (ev_Tx_length4 g _ rfl) ?_
    show Ev 33 26 [some (.inr (.inr 69)), some (.inl v1), some (.inl v2), none] [.inl (Tx_length4 g), .inl v2] g _ _
    by_cases hc : (Tx_length4 g) ≤ v2
    · rw [if_pos hc] at h
      refine es (209, [some (.inr (.inr 69)), some (.inl v1), some (.inl v2), none], [], g) (congrArg some (if_pos hc)) ?_
      exact ev_le (L := [some (.inr (.inr 69)), some (.inl v1), none, none]) (by simp [Lle]) (hK18_209 v1 g r g' h)
    · rw [if_neg hc] at h
      refine es (29, [some (.inr (.inr 69)), some (.inl v1), some (.inl v2), none], [], g) (congrArg some (if_neg hc)) ?_
      refine ev_runs 3 (29, [some (.inr (.inr 69)), some (.inl v1), some (.inl v2), none], [], g) (34, [some (.inr (.inr 69)), some (.inl v1), some (.inl v2), none], [.inl v2, .inr (.inr 4)], g) rfl ?_
      refine ec 14 37 [.inr (.inr 4), .inl v2] [] rfl (ev_Tx_at4 v2 g _ rfl) ?_
      show Ev 33 37 [some (.inr (.inr 69)), some (.inl v1), some (.inl v2), none] [.inl (Tx_at4 v2 g)] g _ _
      refine ev_runs 3 (37, [some (.inr (.inr 69)), some (.inl v1), some (.inl v2), none], [.inl (Tx_at4 v2 g)], g) (41, [some (.inr (.inr 69)), some (.inl v1), some (.inl v2), some (.inl (Tx_at4 v2 g))], [.inl 124, .inl (Tx_at4 v2 g)], g) rfl ?_
      by_cases hc : ¬ (Tx_at4 v2 g) = 124
      · rw [if_pos hc] at h
        refine es (81, [some (.inr (.inr 69)), some (.inl v1), some (.inl v2), some (.inl (Tx_at4 v2 g))], [], g) (congrArg some (if_pos hc)) ?_
        refine ev_runs 2 (81, [some (.inr (.inr 69)), some (.inl v1), some (.inl v2), some (.inl (Tx_at4 v2 g))], [], g) (84, [some (.inr (.inr 69)), some (.inl v1), some (.inl v2), some (.inl (Tx_at4 v2 g))], [.inl 33, .inl (Tx_at4 v2 g)], g) rfl ?_
        by_cases hc : (Tx_at4 v2 g) = 33
        · rw [if_pos hc] at h
          refine es (95, [some (.inr (.inr 69)), some (.inl v1), some (.inl v2), some (.inl (Tx_at4 v2 g))], [], g) (congrArg some (if_pos hc)) ?_
          refine ev_runs 5 (95, [some (.inr (.inr 69)), some (.inl v1), some (.inl v2), some (.inl (Tx_at4 v2 g))], [], g) (102, [some (.inr (.inr 69)), some (.inl v1), some (.inl v2), some (.inl (Tx_at4 v2 g))], [.inl (wr (v2 + 1)), .inr (.inr 4)], g) rfl ?_
          refine ec 14 105 [.inr (.inr 4), .inl (wr (v2 + 1))] [] rfl (ev_Tx_at4 (wr (v2 + 1)) g _ rfl) ?_
          show Ev 33 105 [some (.inr (.inr 69)), some (.inl v1), some (.inl v2), some (.inl (Tx_at4 v2 g))] [.inl (Tx_at4 (wr (v2 + 1)) g)] g _ _
          refine ec 15 108 [.inl (Tx_at4 (wr (v2 + 1)) g)] [] rfl (ev_Op_isTalkerLetter (Tx_at4 (wr (v2 + 1)) g) g _ rfl) ?_
          show Ev 33 108 [some (.inr (.inr 69)), some (.inl v1), some (.inl v2), some (.inl (Tx_at4 v2 g))] [.inl (Op_isTalkerLetter (Tx_at4 (wr (v2 + 1)) g))] g _ _
          by_cases hc : ¬ (Op_isTalkerLetter (Tx_at4 (wr (v2 + 1)) g)) = 0
          · rw [if_pos hc] at h
            refine es (115, [some (.inr (.inr 69)), some (.inl v1), some (.inl v2), some (.inl (Tx_at4 v2 g))], [], g) (congrArg some (if_pos hc)) ?_
            refine ev_runs 5 (115, [some (.inr (.inr 69)), some (.inl v1), some (.inl v2), some (.inl (Tx_at4 v2 g))], [], g) (122, [some (.inr (.inr 69)), some (.inl v1), some (.inl v2), some (.inl (Tx_at4 v2 g))], [.inl (wr (v2 + 2)), .inr (.inr 4)], g) rfl ?_
            refine ec 14 125 [.inr (.inr 4), .inl (wr (v2 + 2))] [] rfl (ev_Tx_at4 (wr (v2 + 2)) g _ rfl) ?_
            show Ev 33 125 [some (.inr (.inr 69)), some (.inl v1), some (.inl v2), some (.inl (Tx_at4 v2 g))] [.inl (Tx_at4 (wr (v2 + 2)) g)] g _ _
            refine ec 17 128 [.inl (Tx_at4 (wr (v2 + 2)) g)] [] rfl (ev_Op_isWordLetter (Tx_at4 (wr (v2 + 2)) g) g _ rfl) ?_
            show Ev 33 128 [some (.inr (.inr 69)), some (.inl v1), some (.inl v2), some (.inl (Tx_at4 v2 g))] [.inl (Op_isWordLetter (Tx_at4 (wr (v2 + 2)) g))] g _ _
            by_cases hc : ¬ (Op_isWordLetter (Tx_at4 (wr (v2 + 2)) g)) = 0
            · rw [if_pos hc] at h
              refine es (135, [some (.inr (.inr 69)), some (.inl v1), some (.inl v2), some (.inl (Tx_at4 v2 g))], [], g) (congrArg some (if_pos hc)) ?_
              refine ev_runs 5 (135, [some (.inr (.inr 69)), some (.inl v1), some (.inl v2), some (.inl (Tx_at4 v2 g))], [], g) (143, [some (.inr (.inr 69)), some (.inl v1), some (.inl v2), some (.inl (Tx_at4 v2 g))], [.inl 33, .inl (Tx_at4 v2 g), .inl v1, .inr (.inr 70)], g) rfl ?_
              obtain ⟨y1, hy1, h⟩ := lett_inv h
              have hjy1 : Ev 33 155 [some (.inr (.inr 69)), some (.inl v1), some (.inl v2), none] [.inl y1, .inl v1, .inr (.inr 70)] g (some (.inl r)) g' := by
                refine ec 0 158 [.inr (.inr 70), .inl v1, .inl y1] [] rfl (ev_Row_set rfl rfl _ _ _) ?_
                show Ev 33 158 [some (.inr (.inr 69)), some (.inl v1), some (.inl v2), none] [] (rset g 71 80 v1 y1) _ _
                refine ev_runs 8 (158, [some (.inr (.inr 69)), some (.inl v1), some (.inl v2), none], [], (rset g 71 80 v1 y1)) (170, [some (.inr (.inr 69)), some (.inl v1), some (.inl v2), none], [.inl (wr (v2 + 1)), .inr (.inr 4), .inl v1, .inr (.inr 72)], (rset g 71 80 v1 y1)) rfl ?_
                refine ec 14 173 [.inr (.inr 4), .inl (wr (v2 + 1))] [.inl v1, .inr (.inr 72)] rfl (ev_Tx_at4 (wr (v2 + 1)) (rset g 71 80 v1 y1) _ rfl) ?_
                show Ev 33 173 [some (.inr (.inr 69)), some (.inl v1), some (.inl v2), none] [.inl (Tx_at4 (wr (v2 + 1)) (rset g 71 80 v1 y1)), .inl v1, .inr (.inr 72)] (rset g 71 80 v1 y1) _ _
                refine ev_runs 2 (173, [some (.inr (.inr 69)), some (.inl v1), some (.inl v2), none], [.inl (Tx_at4 (wr (v2 + 1)) (rset g 71 80 v1 y1)), .inl v1, .inr (.inr 72)], (rset g 71 80 v1 y1)) (176, [some (.inr (.inr 69)), some (.inl v1), some (.inl v2), none], [.inl (wr ((Tx_at4 (wr (v2 + 1)) (rset g 71 80 v1 y1)) - 65)), .inl v1, .inr (.inr 72)], (rset g 71 80 v1 y1)) rfl ?_
                refine ec 0 179 [.inr (.inr 72), .inl v1, .inl (wr ((Tx_at4 (wr (v2 + 1)) (rset g 71 80 v1 y1)) - 65))] [] rfl (ev_Row_set rfl rfl _ _ _) ?_
                show Ev 33 179 [some (.inr (.inr 69)), some (.inl v1), some (.inl v2), none] [] (rset (rset g 71 80 v1 y1) 73 80 v1 (wr ((Tx_at4 (wr (v2 + 1)) (rset g 71 80 v1 y1)) - 65))) _ _
                refine ev_runs 8 (179, [some (.inr (.inr 69)), some (.inl v1), some (.inl v2), none], [], (rset (rset g 71 80 v1 y1) 73 80 v1 (wr ((Tx_at4 (wr (v2 + 1)) (rset g 71 80 v1 y1)) - 65)))) (191, [some (.inr (.inr 69)), some (.inl v1), some (.inl v2), none], [.inl (wr (v2 + 2)), .inr (.inr 4), .inl v1, .inr (.inr 74)], (rset (rset g 71 80 v1 y1) 73 80 v1 (wr ((Tx_at4 (wr (v2 + 1)) (rset g 71 80 v1 y1)) - 65)))) rfl ?_
                refine ec 14 194 [.inr (.inr 4), .inl (wr (v2 + 2))] [.inl v1, .inr (.inr 74)] rfl (ev_Tx_at4 (wr (v2 + 2)) (rset (rset g 71 80 v1 y1) 73 80 v1 (wr ((Tx_at4 (wr (v2 + 1)) (rset g 71 80 v1 y1)) - 65))) _ rfl) ?_
                show Ev 33 194 [some (.inr (.inr 69)), some (.inl v1), some (.inl v2), none] [.inl (Tx_at4 (wr (v2 + 2)) (rset (rset g 71 80 v1 y1) 73 80 v1 (wr ((Tx_at4 (wr (v2 + 1)) (rset g 71 80 v1 y1)) - 65)))), .inl v1, .inr (.inr 74)] (rset (rset g 71 80 v1 y1) 73 80 v1 (wr ((Tx_at4 (wr (v2 + 1)) (rset g 71 80 v1 y1)) - 65))) _ _
                refine ev_runs 2 (194, [some (.inr (.inr 69)), some (.inl v1), some (.inl v2), none], [.inl (Tx_at4 (wr (v2 + 2)) (rset (rset g 71 80 v1 y1) 73 80 v1 (wr ((Tx_at4 (wr (v2 + 1)) (rset g 71 80 v1 y1)) - 65)))), .inl v1, .inr (.inr 74)], (rset (rset g 71 80 v1 y1) 73 80 v1 (wr ((Tx_at4 (wr (v2 + 1)) (rset g 71 80 v1 y1)) - 65)))) (197, [some (.inr (.inr 69)), some (.inl v1), some (.inl v2), none], [.inl (wr ((Tx_at4 (wr (v2 + 2)) (rset (rset g 71 80 v1 y1) 73 80 v1 (wr ((Tx_at4 (wr (v2 + 1)) (rset g 71 80 v1 y1)) - 65)))) - 97)), .inl v1, .inr (.inr 74)], (rset (rset g 71 80 v1 y1) 73 80 v1 (wr ((Tx_at4 (wr (v2 + 1)) (rset g 71 80 v1 y1)) - 65)))) rfl ?_
                refine ec 0 200 [.inr (.inr 74), .inl v1, .inl (wr ((Tx_at4 (wr (v2 + 2)) (rset (rset g 71 80 v1 y1) 73 80 v1 (wr ((Tx_at4 (wr (v2 + 1)) (rset g 71 80 v1 y1)) - 65)))) - 97))] [] rfl (ev_Row_set rfl rfl _ _ _) ?_
                show Ev 33 200 [some (.inr (.inr 69)), some (.inl v1), some (.inl v2), none] [] (rset (rset (rset g 71 80 v1 y1) 73 80 v1 (wr ((Tx_at4 (wr (v2 + 1)) (rset g 71 80 v1 y1)) - 65))) 75 80 v1 (wr ((Tx_at4 (wr (v2 + 2)) (rset (rset g 71 80 v1 y1) 73 80 v1 (wr ((Tx_at4 (wr (v2 + 1)) (rset g 71 80 v1 y1)) - 65)))) - 97))) _ _
                refine ev_runs 3 (200, [some (.inr (.inr 69)), some (.inl v1), some (.inl v2), none], [], (rset (rset (rset g 71 80 v1 y1) 73 80 v1 (wr ((Tx_at4 (wr (v2 + 1)) (rset g 71 80 v1 y1)) - 65))) 75 80 v1 (wr ((Tx_at4 (wr (v2 + 2)) (rset (rset g 71 80 v1 y1) 73 80 v1 (wr ((Tx_at4 (wr (v2 + 1)) (rset g 71 80 v1 y1)) - 65)))) - 97)))) (18, [some (.inr (.inr 69)), some (.inl (wr (v1 + 1))), some (.inl (wr (v2 + 3))), none], [], (rset (rset (rset g 71 80 v1 y1) 73 80 v1 (wr ((Tx_at4 (wr (v2 + 1)) (rset g 71 80 v1 y1)) - 65))) 75 80 v1 (wr ((Tx_at4 (wr (v2 + 2)) (rset (rset g 71 80 v1 y1) 73 80 v1 (wr ((Tx_at4 (wr (v2 + 1)) (rset g 71 80 v1 y1)) - 65)))) - 97)))) rfl ?_
                exact ev_le (L := [some (.inr (.inr 69)), some (.inl (wr (v1 + 1))), some (.inl (wr (v2 + 3))), none]) (by simp [Lle]) (ih18 (wr (v1 + 1)) (wr (v2 + 3)) (rset (rset (rset g 71 80 v1 y1) 73 80 v1 (wr ((Tx_at4 (wr (v2 + 1)) (rset g 71 80 v1 y1)) - 65))) 75 80 v1 (wr ((Tx_at4 (wr (v2 + 2)) (rset (rset g 71 80 v1 y1) 73 80 v1 (wr ((Tx_at4 (wr (v2 + 1)) (rset g 71 80 v1 y1)) - 65)))) - 97))) r g' h)
              by_cases hc : ¬ (Tx_at4 v2 g) = 33
              · rw [if_pos hc] at hy1
                refine es (152, [some (.inr (.inr 69)), some (.inl v1), some (.inl v2), some (.inl (Tx_at4 v2 g))], [.inl v1, .inr (.inr 70)], g) (congrArg some (if_pos hc)) ?_
                refine ev_runs 1 (152, [some (.inr (.inr 69)), some (.inl v1), some (.inl v2), some (.inl (Tx_at4 v2 g))], [.inl v1, .inr (.inr 70)], g) (155, [some (.inr (.inr 69)), some (.inl v1), some (.inl v2), some (.inl (Tx_at4 v2 g))], [.inl 20000, .inl v1, .inr (.inr 70)], g) rfl ?_
                rw [hy1] at hjy1
                exact ev_le (L := [some (.inr (.inr 69)), some (.inl v1), some (.inl v2), none]) (by simp [Lle]) hjy1
              · rw [if_neg hc] at hy1
                refine es (146, [some (.inr (.inr 69)), some (.inl v1), some (.inl v2), some (.inl (Tx_at4 v2 g))], [.inl v1, .inr (.inr 70)], g) (congrArg some (if_neg hc)) ?_
                refine ev_runs 2 (146, [some (.inr (.inr 69)), some (.inl v1), some (.inl v2), some (.inl (Tx_at4 v2 g))], [.inl v1, .inr (.inr 70)], g) (155, [some (.inr (.inr 69)), some (.inl v1), some (.inl v2), some (.inl (Tx_at4 v2 g))], [.inl 10000, .inl v1, .inr (.inr 70)], g) rfl ?_
                rw [hy1] at hjy1
                exact ev_le (L := [some (.inr (.inr 69)), some (.inl v1), some (.inl v2), none]) (by simp [Lle]) hjy1
            · rw [if_neg hc] at h
              refine es (131, [some (.inr (.inr 69)), some (.inl v1), some (.inl v2), some (.inl (Tx_at4 v2 g))], [], g) (congrArg some (if_neg hc)) ?_
              refine ev_runs 3 (131, [some (.inr (.inr 69)), some (.inl v1), some (.inl v2), some (.inl (Tx_at4 v2 g))], [], g) (134, [some (.inr (.inr 69)), some (.inl v1), some (.inl v2), some (.inl (Tx_at4 v2 g))], [.inl (wr (v2 + 2))], g) rfl ?_
              cases h
              exact er rfl
          · rw [if_neg hc] at h
            refine es (111, [some (.inr (.inr 69)), some (.inl v1), some (.inl v2), some (.inl (Tx_at4 v2 g))], [], g) (congrArg some (if_neg hc)) ?_
            refine ev_runs 3 (111, [some (.inr (.inr 69)), some (.inl v1), some (.inl v2), some (.inl (Tx_at4 v2 g))], [], g) (114, [some (.inr (.inr 69)), some (.inl v1), some (.inl v2), some (.inl (Tx_at4 v2 g))], [.inl (wr (v2 + 1))], g) rfl ?_
            cases h
            exact er rfl
        · rw [if_neg hc] at h
          refine es (87, [some (.inr (.inr 69)), some (.inl v1), some (.inl v2), some (.inl (Tx_at4 v2 g))], [], g) (congrArg some (if_neg hc)) ?_
          refine ev_runs 2 (87, [some (.inr (.inr 69)), some (.inl v1), some (.inl v2), some (.inl (Tx_at4 v2 g))], [], g) (90, [some (.inr (.inr 69)), some (.inl v1), some (.inl v2), some (.inl (Tx_at4 v2 g))], [.inl 63, .inl (Tx_at4 v2 g)], g) rfl ?_
          by_cases hc : (Tx_at4 v2 g) = 63
          · rw [if_pos hc] at h
            refine es (95, [some (.inr (.inr 69)), some (.inl v1), some (.inl v2), some (.inl (Tx_at4 v2 g))], [], g) (congrArg some (if_pos hc)) ?_
            refine ev_runs 5 (95, [some (.inr (.inr 69)), some (.inl v1), some (.inl v2), some (.inl (Tx_at4 v2 g))], [], g) (102, [some (.inr (.inr 69)), some (.inl v1), some (.inl v2), some (.inl (Tx_at4 v2 g))], [.inl (wr (v2 + 1)), .inr (.inr 4)], g) rfl ?_
            refine ec 14 105 [.inr (.inr 4), .inl (wr (v2 + 1))] [] rfl (ev_Tx_at4 (wr (v2 + 1)) g _ rfl) ?_
            show Ev 33 105 [some (.inr (.inr 69)), some (.inl v1), some (.inl v2), some (.inl (Tx_at4 v2 g))] [.inl (Tx_at4 (wr (v2 + 1)) g)] g _ _
            refine ec 15 108 [.inl (Tx_at4 (wr (v2 + 1)) g)] [] rfl (ev_Op_isTalkerLetter (Tx_at4 (wr (v2 + 1)) g) g _ rfl) ?_
            show Ev 33 108 [some (.inr (.inr 69)), some (.inl v1), some (.inl v2), some (.inl (Tx_at4 v2 g))] [.inl (Op_isTalkerLetter (Tx_at4 (wr (v2 + 1)) g))] g _ _
            by_cases hc : ¬ (Op_isTalkerLetter (Tx_at4 (wr (v2 + 1)) g)) = 0
            · rw [if_pos hc] at h
              refine es (115, [some (.inr (.inr 69)), some (.inl v1), some (.inl v2), some (.inl (Tx_at4 v2 g))], [], g) (congrArg some (if_pos hc)) ?_
              refine ev_runs 5 (115, [some (.inr (.inr 69)), some (.inl v1), some (.inl v2), some (.inl (Tx_at4 v2 g))], [], g) (122, [some (.inr (.inr 69)), some (.inl v1), some (.inl v2), some (.inl (Tx_at4 v2 g))], [.inl (wr (v2 + 2)), .inr (.inr 4)], g) rfl ?_
              refine ec 14 125 [.inr (.inr 4), .inl (wr (v2 + 2))] [] rfl (ev_Tx_at4 (wr (v2 + 2)) g _ rfl) ?_
              show Ev 33 125 [some (.inr (.inr 69)), some (.inl v1), some (.inl v2), some (.inl (Tx_at4 v2 g))] [.inl (Tx_at4 (wr (v2 + 2)) g)] g _ _
              refine ec 17 128 [.inl (Tx_at4 (wr (v2 + 2)) g)] [] rfl (ev_Op_isWordLetter (Tx_at4 (wr (v2 + 2)) g) g _ rfl) ?_
              show Ev 33 128 [some (.inr (.inr 69)), some (.inl v1), some (.inl v2), some (.inl (Tx_at4 v2 g))] [.inl (Op_isWordLetter (Tx_at4 (wr (v2 + 2)) g))] g _ _
              by_cases hc : ¬ (Op_isWordLetter (Tx_at4 (wr (v2 + 2)) g)) = 0
              · rw [if_pos hc] at h
                refine es (135, [some (.inr (.inr 69)), some (.inl v1), some (.inl v2), some (.inl (Tx_at4 v2 g))], [], g) (congrArg some (if_pos hc)) ?_
                refine ev_runs 5 (135, [some (.inr (.inr 69)), some (.inl v1), some (.inl v2), some (.inl (Tx_at4 v2 g))], [], g) (143, [some (.inr (.inr 69)), some (.inl v1), some (.inl v2), some (.inl (Tx_at4 v2 g))], [.inl 33, .inl (Tx_at4 v2 g), .inl v1, .inr (.inr 70)], g) rfl ?_
                obtain ⟨y2, hy2, h⟩ := lett_inv h
                have hjy2 : Ev 33 155 [some (.inr (.inr 69)), some (.inl v1), some (.inl v2), none] [.inl y2, .inl v1, .inr (.inr 70)] g (some (.inl r)) g' := by
                  refine ec 0 158 [.inr (.inr 70), .inl v1, .inl y2] [] rfl (ev_Row_set rfl rfl _ _ _) ?_
                  show Ev 33 158 [some (.inr (.inr 69)), some (.inl v1), some (.inl v2), none] [] (rset g 71 80 v1 y2) _ _
                  refine ev_runs 8 (158, [some (.inr (.inr 69)), some (.inl v1), some (.inl v2), none], [], (rset g 71 80 v1 y2)) (170, [some (.inr (.inr 69)), some (.inl v1), some (.inl v2), none], [.inl (wr (v2 + 1)), .inr (.inr 4), .inl v1, .inr (.inr 72)], (rset g 71 80 v1 y2)) rfl ?_
                  refine ec 14 173 [.inr (.inr 4), .inl (wr (v2 + 1))] [.inl v1, .inr (.inr 72)] rfl (ev_Tx_at4 (wr (v2 + 1)) (rset g 71 80 v1 y2) _ rfl) ?_
                  show Ev 33 173 [some (.inr (.inr 69)), some (.inl v1), some (.inl v2), none] [.inl (Tx_at4 (wr (v2 + 1)) (rset g 71 80 v1 y2)), .inl v1, .inr (.inr 72)] (rset g 71 80 v1 y2) _ _
                  refine ev_runs 2 (173, [some (.inr (.inr 69)), some (.inl v1), some (.inl v2), none], [.inl (Tx_at4 (wr (v2 + 1)) (rset g 71 80 v1 y2)), .inl v1, .inr (.inr 72)], (rset g 71 80 v1 y2)) (176, [some (.inr (.inr 69)), some (.inl v1), some (.inl v2), none], [.inl (wr ((Tx_at4 (wr (v2 + 1)) (rset g 71 80 v1 y2)) - 65)), .inl v1, .inr (.inr 72)], (rset g 71 80 v1 y2)) rfl ?_
                  refine ec 0 179 [.inr (.inr 72), .inl v1, .inl (wr ((Tx_at4 (wr (v2 + 1)) (rset g 71 80 v1 y2)) - 65))] [] rfl (ev_Row_set rfl rfl _ _ _) ?_
                  show Ev 33 179 [some (.inr (.inr 69)), some (.inl v1), some (.inl v2), none] [] (rset (rset g 71 80 v1 y2) 73 80 v1 (wr ((Tx_at4 (wr (v2 + 1)) (rset g 71 80 v1 y2)) - 65))) _ _
                  refine ev_runs 8 (179, [some (.inr (.inr 69)), some (.inl v1), some (.inl v2), none], [], (rset (rset g 71 80 v1 y2) 73 80 v1 (wr ((Tx_at4 (wr (v2 + 1)) (rset g 71 80 v1 y2)) - 65)))) (191, [some (.inr (.inr 69)), some (.inl v1), some (.inl v2), none], [.inl (wr (v2 + 2)), .inr (.inr 4), .inl v1, .inr (.inr 74)], (rset (rset g 71 80 v1 y2) 73 80 v1 (wr ((Tx_at4 (wr (v2 + 1)) (rset g 71 80 v1 y2)) - 65)))) rfl ?_
                  refine ec 14 194 [.inr (.inr 4), .inl (wr (v2 + 2))] [.inl v1, .inr (.inr 74)] rfl (ev_Tx_at4 (wr (v2 + 2)) (rset (rset g 71 80 v1 y2) 73 80 v1 (wr ((Tx_at4 (wr (v2 + 1)) (rset g 71 80 v1 y2)) - 65))) _ rfl) ?_
                  show Ev 33 194 [some (.inr (.inr 69)), some (.inl v1), some (.inl v2), none] [.inl (Tx_at4 (wr (v2 + 2)) (rset (rset g 71 80 v1 y2) 73 80 v1 (wr ((Tx_at4 (wr (v2 + 1)) (rset g 71 80 v1 y2)) - 65)))), .inl v1, .inr (.inr 74)] (rset (rset g 71 80 v1 y2) 73 80 v1 (wr ((Tx_at4 (wr (v2 + 1)) (rset g 71 80 v1 y2)) - 65))) _ _
                  refine ev_runs 2 (194, [some (.inr (.inr 69)), some (.inl v1), some (.inl v2), none], [.inl (Tx_at4 (wr (v2 + 2)) (rset (rset g 71 80 v1 y2) 73 80 v1 (wr ((Tx_at4 (wr (v2 + 1)) (rset g 71 80 v1 y2)) - 65)))), .inl v1, .inr (.inr 74)], (rset (rset g 71 80 v1 y2) 73 80 v1 (wr ((Tx_at4 (wr (v2 + 1)) (rset g 71 80 v1 y2)) - 65)))) (197, [some (.inr (.inr 69)), some (.inl v1), some (.inl v2), none], [.inl (wr ((Tx_at4 (wr (v2 + 2)) (rset (rset g 71 80 v1 y2) 73 80 v1 (wr ((Tx_at4 (wr (v2 + 1)) (rset g 71 80 v1 y2)) - 65)))) - 97)), .inl v1, .inr (.inr 74)], (rset (rset g 71 80 v1 y2) 73 80 v1 (wr ((Tx_at4 (wr (v2 + 1)) (rset g 71 80 v1 y2)) - 65)))) rfl ?_
                  refine ec 0 200 [.inr (.inr 74), .inl v1, .inl (wr ((Tx_at4 (wr (v2 + 2)) (rset (rset g 71 80 v1 y2) 73 80 v1 (wr ((Tx_at4 (wr (v2 + 1)) (rset g 71 80 v1 y2)) - 65)))) - 97))] [] rfl (ev_Row_set rfl rfl _ _ _) ?_
                  show Ev 33 200 [some (.inr (.inr 69)), some (.inl v1), some (.inl v2), none] [] (rset (rset (rset g 71 80 v1 y2) 73 80 v1 (wr ((Tx_at4 (wr (v2 + 1)) (rset g 71 80 v1 y2)) - 65))) 75 80 v1 (wr ((Tx_at4 (wr (v2 + 2)) (rset (rset g 71 80 v1 y2) 73 80 v1 (wr ((Tx_at4 (wr (v2 + 1)) (rset g 71 80 v1 y2)) - 65)))) - 97))) _ _
                  refine ev_runs 3 (200, [some (.inr (.inr 69)), some (.inl v1), some (.inl v2), none], [], (rset (rset (rset g 71 80 v1 y2) 73 80 v1 (wr ((Tx_at4 (wr (v2 + 1)) (rset g 71 80 v1 y2)) - 65))) 75 80 v1 (wr ((Tx_at4 (wr (v2 + 2)) (rset (rset g 71 80 v1 y2) 73 80 v1 (wr ((Tx_at4 (wr (v2 + 1)) (rset g 71 80 v1 y2)) - 65)))) - 97)))) (18, [some (.inr (.inr 69)), some (.inl (wr (v1 + 1))), some (.inl (wr (v2 + 3))), none], [], (rset (rset (rset g 71 80 v1 y2) 73 80 v1 (wr ((Tx_at4 (wr (v2 + 1)) (rset g 71 80 v1 y2)) - 65))) 75 80 v1 (wr ((Tx_at4 (wr (v2 + 2)) (rset (rset g 71 80 v1 y2) 73 80 v1 (wr ((Tx_at4 (wr (v2 + 1)) (rset g 71 80 v1 y2)) - 65)))) - 97)))) rfl ?_
                  exact ev_le (L := [some (.inr (.inr 69)), some (.inl (wr (v1 + 1))), some (.inl (wr (v2 + 3))), none]) (by simp [Lle]) (ih18 (wr (v1 + 1)) (wr (v2 + 3)) (rset (rset (rset g 71 80 v1 y2) 73 80 v1 (wr ((Tx_at4 (wr (v2 + 1)) (rset g 71 80 v1 y2)) - 65))) 75 80 v1 (wr ((Tx_at4 (wr (v2 + 2)) (rset (rset g 71 80 v1 y2) 73 80 v1 (wr ((Tx_at4 (wr (v2 + 1)) (rset g 71 80 v1 y2)) - 65)))) - 97))) r g' h)
                by_cases hc : ¬ (Tx_at4 v2 g) = 33
                · rw [if_pos hc] at hy2
                  refine es (152, [some (.inr (.inr 69)), some (.inl v1), some (.inl v2), some (.inl (Tx_at4 v2 g))], [.inl v1, .inr (.inr 70)], g) (congrArg some (if_pos hc)) ?_
                  refine ev_runs 1 (152, [some (.inr (.inr 69)), some (.inl v1), some (.inl v2), some (.inl (Tx_at4 v2 g))], [.inl v1, .inr (.inr 70)], g) (155, [some (.inr (.inr 69)), some (.inl v1), some (.inl v2), some (.inl (Tx_at4 v2 g))], [.inl 20000, .inl v1, .inr (.inr 70)], g) rfl ?_
                  rw [hy2] at hjy2
                  exact ev_le (L := [some (.inr (.inr 69)), some (.inl v1), some (.inl v2), none]) (by simp [Lle]) hjy2
                · rw [if_neg hc] at hy2
                  refine es (146, [some (.inr (.inr 69)), some (.inl v1), some (.inl v2), some (.inl (Tx_at4 v2 g))], [.inl v1, .inr (.inr 70)], g) (congrArg some (if_neg hc)) ?_
                  refine ev_runs 2 (146, [some (.inr (.inr 69)), some (.inl v1), some (.inl v2), some (.inl (Tx_at4 v2 g))], [.inl v1, .inr (.inr 70)], g) (155, [some (.inr (.inr 69)), some (.inl v1), some (.inl v2), some (.inl (Tx_at4 v2 g))], [.inl 10000, .inl v1, .inr (.inr 70)], g) rfl ?_
                  rw [hy2] at hjy2
                  exact ev_le (L := [some (.inr (.inr 69)), some (.inl v1), some (.inl v2), none]) (by simp [Lle]) hjy2
              · rw [if_neg hc] at h
                refine es (131, [some (.inr (.inr 69)), some (.inl v1), some (.inl v2), some (.inl (Tx_at4 v2 g))], [], g) (congrArg some (if_neg hc)) ?_
                refine ev_runs 3 (131, [some (.inr (.inr 69)), some (.inl v1), some (.inl v2), some (.inl (Tx_at4 v2 g))], [], g) (134, [some (.inr (.inr 69)), some (.inl v1), some (.inl v2), some (.inl (Tx_at4 v2 g))], [.inl (wr (v2 + 2))], g) rfl ?_
                cases h
                exact er rfl
            · rw [if_neg hc] at h
              refine es (111, [some (.inr (.inr 69)), some (.inl v1), some (.inl v2), some (.inl (Tx_at4 v2 g))], [], g) (congrArg some (if_neg hc)) ?_
              refine ev_runs 3 (111, [some (.inr (.inr 69)), some (.inl v1), some (.inl v2), some (.inl (Tx_at4 v2 g))], [], g) (114, [some (.inr (.inr 69)), some (.inl v1), some (.inl v2), some (.inl (Tx_at4 v2 g))], [.inl (wr (v2 + 1))], g) rfl ?_
              cases h
              exact er rfl
          · rw [if_neg hc] at h
            refine es (93, [some (.inr (.inr 69)), some (.inl v1), some (.inl v2), some (.inl (Tx_at4 v2 g))], [], g) (congrArg some (if_neg hc)) ?_
            refine ev_runs 1 (93, [some (.inr (.inr 69)), some (.inl v1), some (.inl v2), some (.inl (Tx_at4 v2 g))], [], g) (94, [some (.inr (.inr 69)), some (.inl v1), some (.inl v2), some (.inl (Tx_at4 v2 g))], [.inl v2], g) rfl ?_
            cases h
            exact er rfl
      · rw [if_neg hc] at h
        refine es (44, [some (.inr (.inr 69)), some (.inl v1), some (.inl v2), some (.inl (Tx_at4 v2 g))], [], g) (congrArg some (if_neg hc)) ?_
        refine ev_runs 3 (44, [some (.inr (.inr 69)), some (.inl v1), some (.inl v2), some (.inl (Tx_at4 v2 g))], [], g) (50, [some (.inr (.inr 69)), some (.inl v1), some (.inl v2), some (.inl (Tx_at4 v2 g))], [.inl 8, .inl (g 69 7)], g) rfl ?_
        by_cases hc : 8 ≤ (g 69 7)
        · rw [if_pos hc] at h
          refine es (81, [some (.inr (.inr 69)), some (.inl v1), some (.inl v2), some (.inl (Tx_at4 v2 g))], [], g) (congrArg some (if_pos hc)) ?_
          refine ev_runs 2 (81, [some (.inr (.inr 69)), some (.inl v1), some (.inl v2), some (.inl (Tx_at4 v2 g))], [], g) (84, [some (.inr (.inr 69)), some (.inl v1), some (.inl v2), some (.inl (Tx_at4 v2 g))], [.inl 33, .inl (Tx_at4 v2 g)], g) rfl ?_
          by_cases hc : (Tx_at4 v2 g) = 33
          · rw [if_pos hc] at h
            refine es (95, [some (.inr (.inr 69)), some (.inl v1), some (.inl v2), some (.inl (Tx_at4 v2 g))], [], g) (congrArg some (if_pos hc)) ?_
            refine ev_runs 5 (95, [some (.inr (.inr 69)), some (.inl v1), some (.inl v2), some (.inl (Tx_at4 v2 g))], [], g) (102, [some (.inr (.inr 69)), some (.inl v1), some (.inl v2), some (.inl (Tx_at4 v2 g))], [.inl (wr (v2 + 1)), .inr (.inr 4)], g) rfl ?_
            refine ec 14 105 [.inr (.inr 4), .inl (wr (v2 + 1))] [] rfl (ev_Tx_at4 (wr (v2 + 1)) g _ rfl) ?_
            show Ev 33 105 [some (.inr (.inr 69)), some (.inl v1), some (.inl v2), some (.inl (Tx_at4 v2 g))] [.inl (Tx_at4 (wr (v2 + 1)) g)] g _ _
            refine ec 15 108 [.inl (Tx_at4 (wr (v2 + 1)) g)] [] rfl (ev_Op_isTalkerLetter (Tx_at4 (wr (v2 + 1)) g) g _ rfl) ?_
            show Ev 33 108 [some (.inr (.inr 69)), some (.inl v1), some (.inl v2), some (.inl (Tx_at4 v2 g))] [.inl (Op_isTalkerLetter (Tx_at4 (wr (v2 + 1)) g))] g _ _
            by_cases hc : ¬ (Op_isTalkerLetter (Tx_at4 (wr (v2 + 1)) g)) = 0
            · rw [if_pos hc] at h
              refine es (115, [some (.inr (.inr 69)), some (.inl v1), some (.inl v2), some (.inl (Tx_at4 v2 g))], [], g) (congrArg some (if_pos hc)) ?_
              refine ev_runs 5 (115, [some (.inr (.inr 69)), some (.inl v1), some (.inl v2), some (.inl (Tx_at4 v2 g))], [], g) (122, [some (.inr (.inr 69)), some (.inl v1), some (.inl v2), some (.inl (Tx_at4 v2 g))], [.inl (wr (v2 + 2)), .inr (.inr 4)], g) rfl ?_
              refine ec 14 125 [.inr (.inr 4), .inl (wr (v2 + 2))] [] rfl (ev_Tx_at4 (wr (v2 + 2)) g _ rfl) ?_
              show Ev 33 125 [some (.inr (.inr 69)), some (.inl v1), some (.inl v2), some (.inl (Tx_at4 v2 g))] [.inl (Tx_at4 (wr (v2 + 2)) g)] g _ _
              refine ec 17 128 [.inl (Tx_at4 (wr (v2 + 2)) g)] [] rfl (ev_Op_isWordLetter (Tx_at4 (wr (v2 + 2)) g) g _ rfl) ?_
              show Ev 33 128 [some (.inr (.inr 69)), some (.inl v1), some (.inl v2), some (.inl (Tx_at4 v2 g))] [.inl (Op_isWordLetter (Tx_at4 (wr (v2 + 2)) g))] g _ _
              by_cases hc : ¬ (Op_isWordLetter (Tx_at4 (wr (v2 + 2)) g)) = 0
              · rw [if_pos hc] at h
                refine es (135, [some (.inr (.inr 69)), some (.inl v1), some (.inl v2), some (.inl (Tx_at4 v2 g))], [], g) (congrArg some (if_pos hc)) ?_
                refine ev_runs 5 (135, [some (.inr (.inr 69)), some (.inl v1), some (.inl v2), some (.inl (Tx_at4 v2 g))], [], g) (143, [some (.inr (.inr 69)), some (.inl v1), some (.inl v2), some (.inl (Tx_at4 v2 g))], [.inl 33, .inl (Tx_at4 v2 g), .inl v1, .inr (.inr 70)], g) rfl ?_
                obtain ⟨y3, hy3, h⟩ := lett_inv h
                have hjy3 : Ev 33 155 [some (.inr (.inr 69)), some (.inl v1), some (.inl v2), none] [.inl y3, .inl v1, .inr (.inr 70)] g (some (.inl r)) g' := by
                  refine ec 0 158 [.inr (.inr 70), .inl v1, .inl y3] [] rfl (ev_Row_set rfl rfl _ _ _) ?_
                  show Ev 33 158 [some (.inr (.inr 69)), some (.inl v1), some (.inl v2), none] [] (rset g 71 80 v1 y3) _ _
                  refine ev_runs 8 (158, [some (.inr (.inr 69)), some (.inl v1), some (.inl v2), none], [], (rset g 71 80 v1 y3)) (170, [some (.inr (.inr 69)), some (.inl v1), some (.inl v2), none], [.inl (wr (v2 + 1)), .inr (.inr 4), .inl v1, .inr (.inr 72)], (rset g 71 80 v1 y3)) rfl ?_
                  refine ec 14 173 [.inr (.inr 4), .inl (wr (v2 + 1))] [.inl v1, .inr (.inr 72)] rfl (ev_Tx_at4 (wr (v2 + 1)) (rset g 71 80 v1 y3) _ rfl) ?_
                  show Ev 33 173 [some (.inr (.inr 69)), some (.inl v1), some (.inl v2), none] [.inl (Tx_at4 (wr (v2 + 1)) (rset g 71 80 v1 y3)), .inl v1, .inr (.inr 72)] (rset g 71 80 v1 y3) _ _
                  refine ev_runs 2 (173, [some (.inr (.inr 69)), some (.inl v1), some (.inl v2), none], [.inl (Tx_at4 (wr (v2 + 1)) (rset g 71 80 v1 y3)), .inl v1, .inr (.inr 72)], (rset g 71 80 v1 y3)) (176, [some (.inr (.inr 69)), some (.inl v1), some (.inl v2), none], [.inl (wr ((Tx_at4 (wr (v2 + 1)) (rset g 71 80 v1 y3)) - 65)), .inl v1, .inr (.inr 72)], (rset g 71 80 v1 y3)) rfl ?_
                  refine ec 0 179 [.inr (.inr 72), .inl v1, .inl (wr ((Tx_at4 (wr (v2 + 1)) (rset g 71 80 v1 y3)) - 65))] [] rfl (ev_Row_set rfl rfl _ _ _) ?_
                  show Ev 33 179 [some (.inr (.inr 69)), some (.inl v1), some (.inl v2), none] [] (rset (rset g 71 80 v1 y3) 73 80 v1 (wr ((Tx_at4 (wr (v2 + 1)) (rset g 71 80 v1 y3)) - 65))) _ _
                  refine ev_runs 8 (179, [some (.inr (.inr 69)), some (.inl v1), some (.inl v2), none], [], (rset (rset g 71 80 v1 y3) 73 80 v1 (wr ((Tx_at4 (wr (v2 + 1)) (rset g 71 80 v1 y3)) - 65)))) (191, [some (.inr (.inr 69)), some (.inl v1), some (.inl v2), none], [.inl (wr (v2 + 2)), .inr (.inr 4), .inl v1, .inr (.inr 74)], (rset (rset g 71 80 v1 y3) 73 80 v1 (wr ((Tx_at4 (wr (v2 + 1)) (rset g 71 80 v1 y3)) - 65)))) rfl ?_
                  refine ec 14 194 [.inr (.inr 4), .inl (wr (v2 + 2))] [.inl v1, .inr (.inr 74)] rfl (ev_Tx_at4 (wr (v2 + 2)) (rset (rset g 71 80 v1 y3) 73 80 v1 (wr ((Tx_at4 (wr (v2 + 1)) (rset g 71 80 v1 y3)) - 65))) _ rfl) ?_
                  show Ev 33 194 [some (.inr (.inr 69)), some (.inl v1), some (.inl v2), none] [.inl (Tx_at4 (wr (v2 + 2)) (rset (rset g 71 80 v1 y3) 73 80 v1 (wr ((Tx_at4 (wr (v2 + 1)) (rset g 71 80 v1 y3)) - 65)))), .inl v1, .inr (.inr 74)] (rset (rset g 71 80 v1 y3) 73 80 v1 (wr ((Tx_at4 (wr (v2 + 1)) (rset g 71 80 v1 y3)) - 65))) _ _
                  refine ev_runs 2 (194, [some (.inr (.inr 69)), some (.inl v1), some (.inl v2), none], [.inl (Tx_at4 (wr (v2 + 2)) (rset (rset g 71 80 v1 y3) 73 80 v1 (wr ((Tx_at4 (wr (v2 + 1)) (rset g 71 80 v1 y3)) - 65)))), .inl v1, .inr (.inr 74)], (rset (rset g 71 80 v1 y3) 73 80 v1 (wr ((Tx_at4 (wr (v2 + 1)) (rset g 71 80 v1 y3)) - 65)))) (197, [some (.inr (.inr 69)), some (.inl v1), some (.inl v2), none], [.inl (wr ((Tx_at4 (wr (v2 + 2)) (rset (rset g 71 80 v1 y3) 73 80 v1 (wr ((Tx_at4 (wr (v2 + 1)) (rset g 71 80 v1 y3)) - 65)))) - 97)), .inl v1, .inr (.inr 74)], (rset (rset g 71 80 v1 y3) 73 80 v1 (wr ((Tx_at4 (wr (v2 + 1)) (rset g 71 80 v1 y3)) - 65)))) rfl ?_
                  refine ec 0 200 [.inr (.inr 74), .inl v1, .inl (wr ((Tx_at4 (wr (v2 + 2)) (rset (rset g 71 80 v1 y3) 73 80 v1 (wr ((Tx_at4 (wr (v2 + 1)) (rset g 71 80 v1 y3)) - 65)))) - 97))] [] rfl (ev_Row_set rfl rfl _ _ _) ?_
                  show Ev 33 200 [some (.inr (.inr 69)), some (.inl v1), some (.inl v2), none] [] (rset (rset (rset g 71 80 v1 y3) 73 80 v1 (wr ((Tx_at4 (wr (v2 + 1)) (rset g 71 80 v1 y3)) - 65))) 75 80 v1 (wr ((Tx_at4 (wr (v2 + 2)) (rset (rset g 71 80 v1 y3) 73 80 v1 (wr ((Tx_at4 (wr (v2 + 1)) (rset g 71 80 v1 y3)) - 65)))) - 97))) _ _
                  refine ev_runs 3 (200, [some (.inr (.inr 69)), some (.inl v1), some (.inl v2), none], [], (rset (rset (rset g 71 80 v1 y3) 73 80 v1 (wr ((Tx_at4 (wr (v2 + 1)) (rset g 71 80 v1 y3)) - 65))) 75 80 v1 (wr ((Tx_at4 (wr (v2 + 2)) (rset (rset g 71 80 v1 y3) 73 80 v1 (wr ((Tx_at4 (wr (v2 + 1)) (rset g 71 80 v1 y3)) - 65)))) - 97)))) (18, [some (.inr (.inr 69)), some (.inl (wr (v1 + 1))), some (.inl (wr (v2 + 3))), none], [], (rset (rset (rset g 71 80 v1 y3) 73 80 v1 (wr ((Tx_at4 (wr (v2 + 1)) (rset g 71 80 v1 y3)) - 65))) 75 80 v1 (wr ((Tx_at4 (wr (v2 + 2)) (rset (rset g 71 80 v1 y3) 73 80 v1 (wr ((Tx_at4 (wr (v2 + 1)) (rset g 71 80 v1 y3)) - 65)))) - 97)))) rfl ?_
                  exact ev_le (L := [some (.inr (.inr 69)), some (.inl (wr (v1 + 1))), some (.inl (wr (v2 + 3))), none]) (by simp [Lle]) (ih18 (wr (v1 + 1)) (wr (v2 + 3)) (rset (rset (rset g 71 80 v1 y3) 73 80 v1 (wr ((Tx_at4 (wr (v2 + 1)) (rset g 71 80 v1 y3)) - 65))) 75 80 v1 (wr ((Tx_at4 (wr (v2 + 2)) (rset (rset g 71 80 v1 y3) 73 80 v1 (wr ((Tx_at4 (wr (v2 + 1)) (rset g 71 80 v1 y3)) - 65)))) - 97))) r g' h)
                by_cases hc : ¬ (Tx_at4 v2 g) = 33
                · rw [if_pos hc] at hy3
                  refine es (152, [some (.inr (.inr 69)), some (.inl v1), some (.inl v2), some (.inl (Tx_at4 v2 g))], [.inl v1, .inr (.inr 70)], g) (congrArg some (if_pos hc)) ?_
                  refine ev_runs 1 (152, [some (.inr (.inr 69)), some (.inl v1), some (.inl v2), some (.inl (Tx_at4 v2 g))], [.inl v1, .inr (.inr 70)], g) (155, [some (.inr (.inr 69)), some (.inl v1), some (.inl v2), some (.inl (Tx_at4 v2 g))], [.inl 20000, .inl v1, .inr (.inr 70)], g) rfl ?_
                  rw [hy3] at hjy3
                  exact ev_le (L := [some (.inr (.inr 69)), some (.inl v1), some (.inl v2), none]) (by simp [Lle]) hjy3
                · rw [if_neg hc] at hy3
                  refine es (146, [some (.inr (.inr 69)), some (.inl v1), some (.inl v2), some (.inl (Tx_at4 v2 g))], [.inl v1, .inr (.inr 70)], g) (congrArg some (if_neg hc)) ?_
                  refine ev_runs 2 (146, [some (.inr (.inr 69)), some (.inl v1), some (.inl v2), some (.inl (Tx_at4 v2 g))], [.inl v1, .inr (.inr 70)], g) (155, [some (.inr (.inr 69)), some (.inl v1), some (.inl v2), some (.inl (Tx_at4 v2 g))], [.inl 10000, .inl v1, .inr (.inr 70)], g) rfl ?_
                  rw [hy3] at hjy3
                  exact ev_le (L := [some (.inr (.inr 69)), some (.inl v1), some (.inl v2), none]) (by simp [Lle]) hjy3
              · rw [if_neg hc] at h
                refine es (131, [some (.inr (.inr 69)), some (.inl v1), some (.inl v2), some (.inl (Tx_at4 v2 g))], [], g) (congrArg some (if_neg hc)) ?_
                refine ev_runs 3 (131, [some (.inr (.inr 69)), some (.inl v1), some (.inl v2), some (.inl (Tx_at4 v2 g))], [], g) (134, [some (.inr (.inr 69)), some (.inl v1), some (.inl v2), some (.inl (Tx_at4 v2 g))], [.inl (wr (v2 + 2))], g) rfl ?_
                cases h
                exact er rfl
            · rw [if_neg hc] at h
              refine es (111, [some (.inr (.inr 69)), some (.inl v1), some (.inl v2), some (.inl (Tx_at4 v2 g))], [], g) (congrArg some (if_neg hc)) ?_
              refine ev_runs 3 (111, [some (.inr (.inr 69)), some (.inl v1), some (.inl v2), some (.inl (Tx_at4 v2 g))], [], g) (114, [some (.inr (.inr 69)), some (.inl v1), some (.inl v2), some (.inl (Tx_at4 v2 g))], [.inl (wr (v2 + 1))], g) rfl ?_
              cases h
              exact er rfl
          · rw [if_neg hc] at h
            refine es (87, [some (.inr (.inr 69)), some (.inl v1), some (.inl v2), some (.inl (Tx_at4 v2 g))], [], g) (congrArg some (if_neg hc)) ?_
            refine ev_runs 2 (87, [some (.inr (.inr 69)), some (.inl v1), some (.inl v2), some (.inl (Tx_at4 v2 g))], [], g) (90, [some (.inr (.inr 69)), some (.inl v1), some (.inl v2), some (.inl (Tx_at4 v2 g))], [.inl 63, .inl (Tx_at4 v2 g)], g) rfl ?_
            by_cases hc : (Tx_at4 v2 g) = 63
            · rw [if_pos hc] at h
              refine es (95, [some (.inr (.inr 69)), some (.inl v1), some (.inl v2), some (.inl (Tx_at4 v2 g))], [], g) (congrArg some (if_pos hc)) ?_
              refine ev_runs 5 (95, [some (.inr (.inr 69)), some (.inl v1), some (.inl v2), some (.inl (Tx_at4 v2 g))], [], g) (102, [some (.inr (.inr 69)), some (.inl v1), some (.inl v2), some (.inl (Tx_at4 v2 g))], [.inl (wr (v2 + 1)), .inr (.inr 4)], g) rfl ?_
              refine ec 14 105 [.inr (.inr 4), .inl (wr (v2 + 1))] [] rfl (ev_Tx_at4 (wr (v2 + 1)) g _ rfl) ?_
              show Ev 33 105 [some (.inr (.inr 69)), some (.inl v1), some (.inl v2), some (.inl (Tx_at4 v2 g))] [.inl (Tx_at4 (wr (v2 + 1)) g)] g _ _
              refine ec 15 108 [.inl (Tx_at4 (wr (v2 + 1)) g)] [] rfl (ev_Op_isTalkerLetter (Tx_at4 (wr (v2 + 1)) g) g _ rfl) ?_
              show Ev 33 108 [some (.inr (.inr 69)), some (.inl v1), some (.inl v2), some (.inl (Tx_at4 v2 g))] [.inl (Op_isTalkerLetter (Tx_at4 (wr (v2 + 1)) g))] g _ _
              by_cases hc : ¬ (Op_isTalkerLetter (Tx_at4 (wr (v2 + 1)) g)) = 0
              · rw [if_pos hc] at h
                refine es (115, [some (.inr (.inr 69)), some (.inl v1), some (.inl v2), some (.inl (Tx_at4 v2 g))], [], g) (congrArg some (if_pos hc)) ?_
                refine ev_runs 5 (115, [some (.inr (.inr 69)), some (.inl v1), some (.inl v2), some (.inl (Tx_at4 v2 g))], [], g) (122, [some (.inr (.inr 69)), some (.inl v1), some (.inl v2), some (.inl (Tx_at4 v2 g))], [.inl (wr (v2 + 2)), .inr (.inr 4)], g) rfl ?_
                refine ec 14 125 [.inr (.inr 4), .inl (wr (v2 + 2))] [] rfl (ev_Tx_at4 (wr (v2 + 2)) g _ rfl) ?_
                show Ev 33 125 [some (.inr (.inr 69)), some (.inl v1), some (.inl v2), some (.inl (Tx_at4 v2 g))] [.inl (Tx_at4 (wr (v2 + 2)) g)] g _ _
                refine ec 17 128 [.inl (Tx_at4 (wr (v2 + 2)) g)] [] rfl (ev_Op_isWordLetter (Tx_at4 (wr (v2 + 2)) g) g _ rfl) ?_
                show Ev 33 128 [some (.inr (.inr 69)), some (.inl v1), some (.inl v2), some (.inl (Tx_at4 v2 g))] [.inl (Op_isWordLetter (Tx_at4 (wr (v2 + 2)) g))] g _ _
                by_cases hc : ¬ (Op_isWordLetter (Tx_at4 (wr (v2 + 2)) g)) = 0
                · rw [if_pos hc] at h
                  refine es (135, [some (.inr (.inr 69)), some (.inl v1), some (.inl v2), some (.inl (Tx_at4 v2 g))], [], g) (congrArg some (if_pos hc)) ?_
                  refine ev_runs 5 (135, [some (.inr (.inr 69)), some (.inl v1), some (.inl v2), some (.inl (Tx_at4 v2 g))], [], g) (143, [some (.inr (.inr 69)), some (.inl v1), some (.inl v2), some (.inl (Tx_at4 v2 g))], [.inl 33, .inl (Tx_at4 v2 g), .inl v1, .inr (.inr 70)], g) rfl ?_
                  obtain ⟨y4, hy4, h⟩ := lett_inv h
                  have hjy4 : Ev 33 155 [some (.inr (.inr 69)), some (.inl v1), some (.inl v2), none] [.inl y4, .inl v1, .inr (.inr 70)] g (some (.inl r)) g' := by
                    refine ec 0 158 [.inr (.inr 70), .inl v1, .inl y4] [] rfl (ev_Row_set rfl rfl _ _ _) ?_
                    show Ev 33 158 [some (.inr (.inr 69)), some (.inl v1), some (.inl v2), none] [] (rset g 71 80 v1 y4) _ _
                    refine ev_runs 8 (158, [some (.inr (.inr 69)), some (.inl v1), some (.inl v2), none], [], (rset g 71 80 v1 y4)) (170, [some (.inr (.inr 69)), some (.inl v1), some (.inl v2), none], [.inl (wr (v2 + 1)), .inr (.inr 4), .inl v1, .inr (.inr 72)], (rset g 71 80 v1 y4)) rfl ?_
                    refine ec 14 173 [.inr (.inr 4), .inl (wr (v2 + 1))] [.inl v1, .inr (.inr 72)] rfl (ev_Tx_at4 (wr (v2 + 1)) (rset g 71 80 v1 y4) _ rfl) ?_
                    show Ev 33 173 [some (.inr (.inr 69)), some (.inl v1), some (.inl v2), none] [.inl (Tx_at4 (wr (v2 + 1)) (rset g 71 80 v1 y4)), .inl v1, .inr (.inr 72)] (rset g 71 80 v1 y4) _ _
                    refine ev_runs 2 (173, [some (.inr (.inr 69)), some (.inl v1), some (.inl v2), none], [.inl (Tx_at4 (wr (v2 + 1)) (rset g 71 80 v1 y4)), .inl v1, .inr (.inr 72)], (rset g 71 80 v1 y4)) (176, [some (.inr (.inr 69)), some (.inl v1), some (.inl v2), none], [.inl (wr ((Tx_at4 (wr (v2 + 1)) (rset g 71 80 v1 y4)) - 65)), .inl v1, .inr (.inr 72)], (rset g 71 80 v1 y4)) rfl ?_
                    refine ec 0 179 [.inr (.inr 72), .inl v1, .inl (wr ((Tx_at4 (wr (v2 + 1)) (rset g 71 80 v1 y4)) - 65))] [] rfl (ev_Row_set rfl rfl _ _ _) ?_
                    show Ev 33 179 [some (.inr (.inr 69)), some (.inl v1), some (.inl v2), none] [] (rset (rset g 71 80 v1 y4) 73 80 v1 (wr ((Tx_at4 (wr (v2 + 1)) (rset g 71 80 v1 y4)) - 65))) _ _
                    refine ev_runs 8 (179, [some (.inr (.inr 69)), some (.inl v1), some (.inl v2), none], [], (rset (rset g 71 80 v1 y4) 73 80 v1 (wr ((Tx_at4 (wr (v2 + 1)) (rset g 71 80 v1 y4)) - 65)))) (191, [some (.inr (.inr 69)), some (.inl v1), some (.inl v2), none], [.inl (wr (v2 + 2)), .inr (.inr 4), .inl v1, .inr (.inr 74)], (rset (rset g 71 80 v1 y4) 73 80 v1 (wr ((Tx_at4 (wr (v2 + 1)) (rset g 71 80 v1 y4)) - 65)))) rfl ?_
                    refine ec 14 194 [.inr (.inr 4), .inl (wr (v2 + 2))] [.inl v1, .inr (.inr 74)] rfl (ev_Tx_at4 (wr (v2 + 2)) (rset (rset g 71 80 v1 y4) 73 80 v1 (wr ((Tx_at4 (wr (v2 + 1)) (rset g 71 80 v1 y4)) - 65))) _ rfl) ?_
                    show Ev 33 194 [some (.inr (.inr 69)), some (.inl v1), some (.inl v2), none] [.inl (Tx_at4 (wr (v2 + 2)) (rset (rset g 71 80 v1 y4) 73 80 v1 (wr ((Tx_at4 (wr (v2 + 1)) (rset g 71 80 v1 y4)) - 65)))), .inl v1, .inr (.inr 74)] (rset (rset g 71 80 v1 y4) 73 80 v1 (wr ((Tx_at4 (wr (v2 + 1)) (rset g 71 80 v1 y4)) - 65))) _ _
                    refine ev_runs 2 (194, [some (.inr (.inr 69)), some (.inl v1), some (.inl v2), none], [.inl (Tx_at4 (wr (v2 + 2)) (rset (rset g 71 80 v1 y4) 73 80 v1 (wr ((Tx_at4 (wr (v2 + 1)) (rset g 71 80 v1 y4)) - 65)))), .inl v1, .inr (.inr 74)], (rset (rset g 71 80 v1 y4) 73 80 v1 (wr ((Tx_at4 (wr (v2 + 1)) (rset g 71 80 v1 y4)) - 65)))) (197, [some (.inr (.inr 69)), some (.inl v1), some (.inl v2), none], [.inl (wr ((Tx_at4 (wr (v2 + 2)) (rset (rset g 71 80 v1 y4) 73 80 v1 (wr ((Tx_at4 (wr (v2 + 1)) (rset g 71 80 v1 y4)) - 65)))) - 97)), .inl v1, .inr (.inr 74)], (rset (rset g 71 80 v1 y4) 73 80 v1 (wr ((Tx_at4 (wr (v2 + 1)) (rset g 71 80 v1 y4)) - 65)))) rfl ?_
                    refine ec 0 200 [.inr (.inr 74), .inl v1, .inl (wr ((Tx_at4 (wr (v2 + 2)) (rset (rset g 71 80 v1 y4) 73 80 v1 (wr ((Tx_at4 (wr (v2 + 1)) (rset g 71 80 v1 y4)) - 65)))) - 97))] [] rfl (ev_Row_set rfl rfl _ _ _) ?_
                    show Ev 33 200 [some (.inr (.inr 69)), some (.inl v1), some (.inl v2), none] [] (rset (rset (rset g 71 80 v1 y4) 73 80 v1 (wr ((Tx_at4 (wr (v2 + 1)) (rset g 71 80 v1 y4)) - 65))) 75 80 v1 (wr ((Tx_at4 (wr (v2 + 2)) (rset (rset g 71 80 v1 y4) 73 80 v1 (wr ((Tx_at4 (wr (v2 + 1)) (rset g 71 80 v1 y4)) - 65)))) - 97))) _ _
                    refine ev_runs 3 (200, [some (.inr (.inr 69)), some (.inl v1), some (.inl v2), none], [], (rset (rset (rset g 71 80 v1 y4) 73 80 v1 (wr ((Tx_at4 (wr (v2 + 1)) (rset g 71 80 v1 y4)) - 65))) 75 80 v1 (wr ((Tx_at4 (wr (v2 + 2)) (rset (rset g 71 80 v1 y4) 73 80 v1 (wr ((Tx_at4 (wr (v2 + 1)) (rset g 71 80 v1 y4)) - 65)))) - 97)))) (18, [some (.inr (.inr 69)), some (.inl (wr (v1 + 1))), some (.inl (wr (v2 + 3))), none], [], (rset (rset (rset g 71 80 v1 y4) 73 80 v1 (wr ((Tx_at4 (wr (v2 + 1)) (rset g 71 80 v1 y4)) - 65))) 75 80 v1 (wr ((Tx_at4 (wr (v2 + 2)) (rset (rset g 71 80 v1 y4) 73 80 v1 (wr ((Tx_at4 (wr (v2 + 1)) (rset g 71 80 v1 y4)) - 65)))) - 97)))) rfl ?_
                    exact ev_le (L := [some (.inr (.inr 69)), some (.inl (wr (v1 + 1))), some (.inl (wr (v2 + 3))), none]) (by simp [Lle]) (ih18 (wr (v1 + 1)) (wr (v2 + 3)) (rset (rset (rset g 71 80 v1 y4) 73 80 v1 (wr ((Tx_at4 (wr (v2 + 1)) (rset g 71 80 v1 y4)) - 65))) 75 80 v1 (wr ((Tx_at4 (wr (v2 + 2)) (rset (rset g 71 80 v1 y4) 73 80 v1 (wr ((Tx_at4 (wr (v2 + 1)) (rset g 71 80 v1 y4)) - 65)))) - 97))) r g' h)
                  by_cases hc : ¬ (Tx_at4 v2 g) = 33
                  · rw [if_pos hc] at hy4
                    refine es (152, [some (.inr (.inr 69)), some (.inl v1), some (.inl v2), some (.inl (Tx_at4 v2 g))], [.inl v1, .inr (.inr 70)], g) (congrArg some (if_pos hc)) ?_
                    refine ev_runs 1 (152, [some (.inr (.inr 69)), some (.inl v1), some (.inl v2), some (.inl (Tx_at4 v2 g))], [.inl v1, .inr (.inr 70)], g) (155, [some (.inr (.inr 69)), some (.inl v1), some (.inl v2), some (.inl (Tx_at4 v2 g))], [.inl 20000, .inl v1, .inr (.inr 70)], g) rfl ?_
                    rw [hy4] at hjy4
                    exact ev_le (L := [some (.inr (.inr 69)), some (.inl v1), some (.inl v2), none]) (by simp [Lle]) hjy4
                  · rw [if_neg hc] at hy4
                    refine es (146, [some (.inr (.inr 69)), some (.inl v1), some (.inl v2), some (.inl (Tx_at4 v2 g))], [.inl v1, .inr (.inr 70)], g) (congrArg some (if_neg hc)) ?_
                    refine ev_runs 2 (146, [some (.inr (.inr 69)), some (.inl v1), some (.inl v2), some (.inl (Tx_at4 v2 g))], [.inl v1, .inr (.inr 70)], g) (155, [some (.inr (.inr 69)), some (.inl v1), some (.inl v2), some (.inl (Tx_at4 v2 g))], [.inl 10000, .inl v1, .inr (.inr 70)], g) rfl ?_
                    rw [hy4] at hjy4
                    exact ev_le (L := [some (.inr (.inr 69)), some (.inl v1), some (.inl v2), none]) (by simp [Lle]) hjy4
                · rw [if_neg hc] at h
                  refine es (131, [some (.inr (.inr 69)), some (.inl v1), some (.inl v2), some (.inl (Tx_at4 v2 g))], [], g) (congrArg some (if_neg hc)) ?_
                  refine ev_runs 3 (131, [some (.inr (.inr 69)), some (.inl v1), some (.inl v2), some (.inl (Tx_at4 v2 g))], [], g) (134, [some (.inr (.inr 69)), some (.inl v1), some (.inl v2), some (.inl (Tx_at4 v2 g))], [.inl (wr (v2 + 2))], g) rfl ?_
                  cases h
                  exact er rfl
              · rw [if_neg hc] at h
                refine es (111, [some (.inr (.inr 69)), some (.inl v1), some (.inl v2), some (.inl (Tx_at4 v2 g))], [], g) (congrArg some (if_neg hc)) ?_
                refine ev_runs 3 (111, [some (.inr (.inr 69)), some (.inl v1), some (.inl v2), some (.inl (Tx_at4 v2 g))], [], g) (114, [some (.inr (.inr 69)), some (.inl v1), some (.inl v2), some (.inl (Tx_at4 v2 g))], [.inl (wr (v2 + 1))], g) rfl ?_
                cases h
                exact er rfl
            · rw [if_neg hc] at h
              refine es (93, [some (.inr (.inr 69)), some (.inl v1), some (.inl v2), some (.inl (Tx_at4 v2 g))], [], g) (congrArg some (if_neg hc)) ?_
              refine ev_runs 1 (93, [some (.inr (.inr 69)), some (.inl v1), some (.inl v2), some (.inl (Tx_at4 v2 g))], [], g) (94, [some (.inr (.inr 69)), some (.inl v1), some (.inl v2), some (.inl (Tx_at4 v2 g))], [.inl v2], g) rfl ?_
              cases h
              exact er rfl
        · rw [if_neg hc] at h
          refine es (53, [some (.inr (.inr 69)), some (.inl v1), some (.inl v2), some (.inl (Tx_at4 v2 g))], [], g) (congrArg some (if_neg hc)) ?_
          refine ev_runs 5 (53, [some (.inr (.inr 69)), some (.inl v1), some (.inl v2), some (.inl (Tx_at4 v2 g))], [], g) (62, [some (.inr (.inr 69)), some (.inl v1), some (.inl v2), some (.inl (Tx_at4 v2 g))], [.inl v1, .inl (g 69 7), .inr (.inr 76)], g) rfl ?_
          refine ec 0 65 [.inr (.inr 76), .inl (g 69 7), .inl v1] [] rfl (ev_Row_set rfl rfl _ _ _) ?_
          show Ev 33 65 [some (.inr (.inr 69)), some (.inl v1), some (.inl v2), some (.inl (Tx_at4 v2 g))] [] (rset g 77 9 (g 69 7) v1) _ _
          refine ev_runs 9 (65, [some (.inr (.inr 69)), some (.inl v1), some (.inl v2), some (.inl (Tx_at4 v2 g))], [], (rset g 77 9 (g 69 7) v1)) (18, [some (.inr (.inr 69)), some (.inl v1), some (.inl (wr (v2 + 1))), some (.inl (Tx_at4 v2 g))], [], (gset (rset g 77 9 (g 69 7) v1) 69 7 (wr ((g 69 7) + 1)))) rfl ?_
          exact ev_le (L := [some (.inr (.inr 69)), some (.inl v1), some (.inl (wr (v2 + 1))), none]) (by simp [Lle]) (ih18 v1 (wr (v2 + 1)) (gset (rset g 77 9 (g 69 7) v1) 69 7 (wr ((g 69 7) + 1))) r g' h)
set_option maxRecDepth 100000 in
set_option maxHeartbeats 4000000 in
theorem ev_Pg_read (g : Gx) (r : Int) (g' : Gx) (h : Pg_read g = some (r, g')) : Ev 33 0 [some (.inr (.inr 69)), none, none, none] [] g (some (.inl r)) g' := by
  rw [Pg_read] at h
  refine ev_runs 11 (0, [some (.inr (.inr 69)), none, none, none], [], g) (15, [some (.inr (.inr 69)), some (.inl 0), some (.inl 0), none], [.inl 0, .inl 0, .inr (.inr 76)], (gset g 69 7 1)) rfl ?_
  refine ec 0 18 [.inr (.inr 76), .inl 0, .inl 0] [] rfl (ev_Row_set rfl rfl _ _ _) ?_
  show Ev 33 18 [some (.inr (.inr 69)), some (.inl 0), some (.inl 0), none] [] (rset (gset g 69 7 1) 77 9 0 0) _ _
  refine ev_le (L := [some (.inr (.inr 69)), some (.inl 0), some (.inl 0), none]) (by simp [Lle]) ?_
  refine ev_Pg_read_l18 _ ?_ fu 0 0 (rset (gset g 69 7 1) 77 9 0 0) r g' h
  · intro x5 g6 r g' h
    refine ev_runs 5 (209, [some (.inr (.inr 69)), some (.inl x5), none, none], [], g6) (218, [some (.inr (.inr 69)), some (.inl x5), none, none], [.inl x5, .inl (g6 69 7), .inr (.inr 76)], g6) rfl ?_
    refine ec 0 221 [.inr (.inr 76), .inl (g6 69 7), .inl x5] [] rfl (ev_Row_set rfl rfl _ _ _) ?_
    show Ev 33 221 [some (.inr (.inr 69)), some (.inl x5), none, none] [] (rset g6 77 9 (g6 69 7) x5) _ _
    refine ev_runs 1 (221, [some (.inr (.inr 69)), some (.inl x5), none, none], [], (rset g6 77 9 (g6 69 7) x5)) (222, [some (.inr (.inr 69)), some (.inl x5), none, none], [.inl (-1)], (rset g6 77 9 (g6 69 7) x5)) rfl ?_
    cases h
    exact er rfl
