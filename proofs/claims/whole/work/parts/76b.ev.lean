/-! The small machine does what the functions say. Printed by wip/gen/gen_parts.py. -/
set_option maxRecDepth 100000 in
set_option maxHeartbeats 4000000 in
theorem ev_Pg_firstFault (g : Gx) (r : Int) (g' : Gx) (h : Pg_firstFault g = some (r, g')) : Ev 34 0 [some (.inr (.inr 69))] [] g (some (.inl r)) g' := by
  rw [Pg_firstFault] at h
  refine ev_runs 4 (0, [some (.inr (.inr 69))], [], g) (8, [some (.inr (.inr 69))], [.inr (.inr 4), .inl (g 69 9)], g) rfl ?_
  refine ec 10 11 [.inr (.inr 4)] [.inl (g 69 9)] rfl (ev_Tx_changes4 g _ rfl) ?_
  show Ev 34 11 [some (.inr (.inr 69))] [.inl (Tx_changes4 g), .inl (g 69 9)] g _ _
  by_cases hc : (g 69 9) = (Tx_changes4 g)
  · rw [if_pos hc] at h
    refine es (33, [some (.inr (.inr 69))], [], g) (congrArg some (if_pos hc)) ?_
    refine ev_runs 2 (33, [some (.inr (.inr 69))], [], g) (37, [some (.inr (.inr 69))], [.inl (g 69 8)], g) rfl ?_
    cases h
    exact er rfl
  · rw [if_neg hc] at h
    refine es (14, [some (.inr (.inr 69))], [], g) (congrArg some (if_neg hc)) ?_
    refine ev_runs 3 (14, [some (.inr (.inr 69))], [], g) (19, [some (.inr (.inr 69))], [.inr (.inr 4), .inr (.inr 69)], g) rfl ?_
    refine ec 10 22 [.inr (.inr 4)] [.inr (.inr 69)] rfl (ev_Tx_changes4 g _ rfl) ?_
    show Ev 34 22 [some (.inr (.inr 69))] [.inl (Tx_changes4 g), .inr (.inr 69)] g _ _
    refine ev_runs 3 (22, [some (.inr (.inr 69))], [.inl (Tx_changes4 g), .inr (.inr 69)], g) (27, [some (.inr (.inr 69))], [.inr (.inr 69), .inr (.inr 69)], (gset g 69 9 (Tx_changes4 g))) rfl ?_
    obtain ⟨q1, hq, h⟩ := Option.bind_eq_some_iff.mp h
    refine ec 33 30 [.inr (.inr 69)] [.inr (.inr 69)] rfl (ev_Pg_read (gset g 69 9 (Tx_changes4 g)) q1.1 q1.2 hq) ?_
    show Ev 34 30 [some (.inr (.inr 69))] [.inl q1.1, .inr (.inr 69)] q1.2 _ _
    refine ev_runs 3 (30, [some (.inr (.inr 69))], [.inl q1.1, .inr (.inr 69)], q1.2) (37, [some (.inr (.inr 69))], [.inl q1.1], (gset q1.2 69 8 q1.1)) rfl ?_
    cases h
    exact er rfl
set_option maxRecDepth 100000 in
set_option maxHeartbeats 4000000 in
theorem ev_Op_fault (a1 : Int) (g : Gx) (r : Int) (g' : Gx) (h : Op_fault a1 g = some (r, g')) : Ev 35 0 [some (.inr (.inr 0)), some (.inl a1)] [] g (some (.inl r)) g' := by
  rw [Op_fault] at h
  refine ev_runs 1 (0, [some (.inr (.inr 0)), some (.inl a1)], [], g) (1, [some (.inr (.inr 0)), some (.inl a1)], [.inl a1], g) rfl ?_
  by_cases hc : a1 < 0
  · rw [if_pos hc] at h
    refine es (9, [some (.inr (.inr 0)), some (.inl a1)], [], g) (congrArg some (if_pos hc)) ?_
    refine ev_runs 1 (9, [some (.inr (.inr 0)), some (.inl a1)], [], g) (11, [some (.inr (.inr 0)), some (.inl a1)], [.inl (-2)], g) rfl ?_
    cases h
    exact er rfl
  · rw [if_neg hc] at h
    refine es (4, [some (.inr (.inr 0)), some (.inl a1)], [], g) (congrArg some (if_neg hc)) ?_
    refine ev_runs 2 (4, [some (.inr (.inr 0)), some (.inl a1)], [], g) (6, [some (.inr (.inr 0)), some (.inl a1)], [.inl 1, .inl a1], g) rfl ?_
    by_cases hc : a1 ≤ 1
    · rw [if_pos hc] at h
      refine es (12, [some (.inr (.inr 0)), some (.inl a1)], [], g) (congrArg some (if_pos hc)) ?_
      refine ev_runs 1 (12, [some (.inr (.inr 0)), some (.inl a1)], [], g) (13, [some (.inr (.inr 0)), some (.inl a1)], [.inl a1], g) rfl ?_
      by_cases hc : ¬ a1 = 0
      · rw [if_pos hc] at h
        refine es (26, [some (.inr (.inr 0)), some (.inl a1)], [], g) (congrArg some (if_pos hc)) ?_
        refine ev_runs 2 (26, [some (.inr (.inr 0)), some (.inl a1)], [], g) (30, [some (.inr (.inr 0)), some (.inl a1)], [.inr (.inr 69)], g) rfl ?_
        obtain ⟨q1, hq, h⟩ := Option.bind_eq_some_iff.mp h
        refine ec 34 33 [.inr (.inr 69)] [] rfl (ev_Pg_firstFault g q1.1 q1.2 hq) ?_
        show Ev 35 33 [some (.inr (.inr 0)), some (.inl a1)] [.inl q1.1] q1.2 _ _
        cases h
        exact er rfl
      · rw [if_neg hc] at h
        refine es (16, [some (.inr (.inr 0)), some (.inl a1)], [], g) (congrArg some (if_neg hc)) ?_
        refine ev_runs 2 (16, [some (.inr (.inr 0)), some (.inl a1)], [], g) (20, [some (.inr (.inr 0)), some (.inl a1)], [.inr (.inr 28)], g) rfl ?_
        obtain ⟨q2, hq, h⟩ := Option.bind_eq_some_iff.mp h
        refine ec 32 23 [.inr (.inr 28)] [] rfl (ev_Pr_firstFault g q2.1 q2.2 hq) ?_
        show Ev 35 23 [some (.inr (.inr 0)), some (.inl a1)] [.inl q2.1] q2.2 _ _
        refine ev_runs 1 (23, [some (.inr (.inr 0)), some (.inl a1)], [.inl q2.1], q2.2) (33, [some (.inr (.inr 0)), some (.inl a1)], [.inl q2.1], q2.2) rfl ?_
        cases h
        exact er rfl
    · rw [if_neg hc] at h
      refine es (9, [some (.inr (.inr 0)), some (.inl a1)], [], g) (congrArg some (if_neg hc)) ?_
      refine ev_runs 1 (9, [some (.inr (.inr 0)), some (.inl a1)], [], g) (11, [some (.inr (.inr 0)), some (.inl a1)], [.inl (-2)], g) rfl ?_
      cases h
      exact er rfl
set_option maxRecDepth 100000 in
set_option maxHeartbeats 4000000 in
theorem ev_Md_here (a1 : Int) (g : Gx) (r : Int) (g' : Gx) (h : Md_here a1 g = some (r, g')) : Ev 36 0 [some (.inr (.inr 92)), some (.inl a1)] [] g (some (.inl r)) g' := by
  rw [Md_here] at h
  refine ev_runs 5 (0, [some (.inr (.inr 92)), some (.inl a1)], [], g) (9, [some (.inr (.inr 92)), some (.inl a1)], [.inl a1, .inr (.inr 98), .inl (g 92 8)], g) rfl ?_
  by_cases hc : 0 ≤ a1 ∧ a1 < 2
  · rw [if_pos hc] at h
    refine es (10, [some (.inr (.inr 92)), some (.inl a1)], [.inl (g 98 a1.toNat), .inl (g 92 8)], g) (if_pos hc) ?_
    by_cases hc : (g 98 a1.toNat) ≤ (g 92 8)
    · rw [if_pos hc] at h
      refine es (31, [some (.inr (.inr 92)), some (.inl a1)], [], g) (congrArg some (if_pos hc)) ?_
      refine ev_runs 1 (31, [some (.inr (.inr 92)), some (.inl a1)], [], g) (32, [some (.inr (.inr 92)), some (.inl a1)], [.inl (-1)], g) rfl ?_
      cases h
      exact er rfl
    · rw [if_neg hc] at h
      refine es (13, [some (.inr (.inr 92)), some (.inl a1)], [], g) (congrArg some (if_neg hc)) ?_
      refine ev_runs 8 (13, [some (.inr (.inr 92)), some (.inl a1)], [], g) (27, [some (.inr (.inr 92)), some (.inl a1)], [.inl (wr ((wr (160 * a1)) + (g 92 8))), .inr (.inr 97)], g) rfl ?_
      by_cases hc : 0 ≤ (wr ((wr (160 * a1)) + (g 92 8))) ∧ (wr ((wr (160 * a1)) + (g 92 8))) < 240
      · rw [if_pos hc] at h
        refine es (28, [some (.inr (.inr 92)), some (.inl a1)], [.inl (g 97 (wr ((wr (160 * a1)) + (g 92 8))).toNat)], g) (if_pos hc) ?_
        refine ev_runs 1 (28, [some (.inr (.inr 92)), some (.inl a1)], [.inl (g 97 (wr ((wr (160 * a1)) + (g 92 8))).toNat)], g) (32, [some (.inr (.inr 92)), some (.inl a1)], [.inl (g 97 (wr ((wr (160 * a1)) + (g 92 8))).toNat)], g) rfl ?_
        cases h
        exact er rfl
      · rw [if_neg hc] at h; cases h
  · rw [if_neg hc] at h; cases h
set_option maxRecDepth 100000 in
set_option maxHeartbeats 4000000 in
theorem ev_Md_act (a1 a2 a3 a4 : Int) (g : Gx) (g' : Gx) (h : Md_act a1 a2 a3 a4 g = some g') : Ev 37 0 [some (.inr (.inr 92)), some (.inl a1), some (.inl a2), some (.inl a3), some (.inl a4)] [] g none g' := by
  rw [Md_act] at h
  refine ev_runs 5 (0, [some (.inr (.inr 92)), some (.inl a1), some (.inl a2), some (.inl a3), some (.inl a4)], [], g) (9, [some (.inr (.inr 92)), some (.inl a1), some (.inl a2), some (.inl a3), some (.inl a4)], [.inl a1, .inl (g 92 9), .inr (.inr 99)], g) rfl ?_
  by_cases hc : 0 ≤ (g 92 9) ∧ (g 92 9) < 170
  · rw [if_pos hc] at h
    refine es (10, [some (.inr (.inr 92)), some (.inl a1), some (.inl a2), some (.inl a3), some (.inl a4)], [], (gset g 99 ((g 92 9).toNat) a1)) (if_pos hc) ?_
    refine ev_runs 5 (10, [some (.inr (.inr 92)), some (.inl a1), some (.inl a2), some (.inl a3), some (.inl a4)], [], (gset g 99 ((g 92 9).toNat) a1)) (19, [some (.inr (.inr 92)), some (.inl a1), some (.inl a2), some (.inl a3), some (.inl a4)], [.inl a2, .inl (g 92 9), .inr (.inr 100)], (gset g 99 ((g 92 9).toNat) a1)) rfl ?_
    by_cases hc : 0 ≤ (g 92 9) ∧ (g 92 9) < 170
    · rw [if_pos hc] at h
      refine es (20, [some (.inr (.inr 92)), some (.inl a1), some (.inl a2), some (.inl a3), some (.inl a4)], [], (gset (gset g 99 ((g 92 9).toNat) a1) 100 ((g 92 9).toNat) a2)) (if_pos hc) ?_
      refine ev_runs 5 (20, [some (.inr (.inr 92)), some (.inl a1), some (.inl a2), some (.inl a3), some (.inl a4)], [], (gset (gset g 99 ((g 92 9).toNat) a1) 100 ((g 92 9).toNat) a2)) (29, [some (.inr (.inr 92)), some (.inl a1), some (.inl a2), some (.inl a3), some (.inl a4)], [.inl a3, .inl (g 92 9), .inr (.inr 101)], (gset (gset g 99 ((g 92 9).toNat) a1) 100 ((g 92 9).toNat) a2)) rfl ?_
      by_cases hc : 0 ≤ (g 92 9) ∧ (g 92 9) < 170
      · rw [if_pos hc] at h
        refine es (30, [some (.inr (.inr 92)), some (.inl a1), some (.inl a2), some (.inl a3), some (.inl a4)], [], (gset (gset (gset g 99 ((g 92 9).toNat) a1) 100 ((g 92 9).toNat) a2) 101 ((g 92 9).toNat) a3)) (if_pos hc) ?_
        refine ev_runs 5 (30, [some (.inr (.inr 92)), some (.inl a1), some (.inl a2), some (.inl a3), some (.inl a4)], [], (gset (gset (gset g 99 ((g 92 9).toNat) a1) 100 ((g 92 9).toNat) a2) 101 ((g 92 9).toNat) a3)) (40, [some (.inr (.inr 92)), some (.inl a1), some (.inl a2), some (.inl a3), some (.inl a4)], [.inl a4, .inl (g 92 9), .inr (.inr 102)], (gset (gset (gset g 99 ((g 92 9).toNat) a1) 100 ((g 92 9).toNat) a2) 101 ((g 92 9).toNat) a3)) rfl ?_
        by_cases hc : 0 ≤ (g 92 9) ∧ (g 92 9) < 170
        · rw [if_pos hc] at h
          refine es (41, [some (.inr (.inr 92)), some (.inl a1), some (.inl a2), some (.inl a3), some (.inl a4)], [], (gset (gset (gset (gset g 99 ((g 92 9).toNat) a1) 100 ((g 92 9).toNat) a2) 101 ((g 92 9).toNat) a3) 102 ((g 92 9).toNat) a4)) (if_pos hc) ?_
          refine ev_runs 6 (41, [some (.inr (.inr 92)), some (.inl a1), some (.inl a2), some (.inl a3), some (.inl a4)], [], (gset (gset (gset (gset g 99 ((g 92 9).toNat) a1) 100 ((g 92 9).toNat) a2) 101 ((g 92 9).toNat) a3) 102 ((g 92 9).toNat) a4)) (51, [some (.inr (.inr 92)), some (.inl a1), some (.inl a2), some (.inl a3), some (.inl a4)], [], (gset (gset (gset (gset (gset g 99 ((g 92 9).toNat) a1) 100 ((g 92 9).toNat) a2) 101 ((g 92 9).toNat) a3) 102 ((g 92 9).toNat) a4) 92 9 (wr ((g 92 9) + 1)))) rfl ?_
          cases h
          exact er rfl
        · rw [if_neg hc] at h; cases h
      · rw [if_neg hc] at h; cases h
    · rw [if_neg hc] at h; cases h
  · rw [if_neg hc] at h; cases h
set_option maxRecDepth 100000 in
set_option maxHeartbeats 4000000 in
theorem ev_Md_opens (a1 a2 a3 a4 : Int) (g : Gx) (r : Int) (g' : Gx) (h : Md_opens a1 a2 a3 a4 g = some (r, g')) : Ev 38 0 [some (.inr (.inr 92)), some (.inl a1), some (.inl a2), some (.inl a3), some (.inl a4)] [] g (some (.inl r)) g' := by
  rw [Md_opens] at h
  refine ev_runs 2 (0, [some (.inr (.inr 92)), some (.inl a1), some (.inl a2), some (.inl a3), some (.inl a4)], [], g) (2, [some (.inr (.inr 92)), some (.inl a1), some (.inl a2), some (.inl a3), some (.inl a4)], [.inl 0, .inr (.inr 92)], g) rfl ?_
  obtain ⟨q1, hq, h⟩ := Option.bind_eq_some_iff.mp h
  refine ec 36 5 [.inr (.inr 92), .inl 0] [] rfl (ev_Md_here 0 g q1.1 q1.2 hq) ?_
  show Ev 38 5 [some (.inr (.inr 92)), some (.inl a1), some (.inl a2), some (.inl a3), some (.inl a4)] [.inl q1.1] q1.2 _ _
  refine ev_runs 1 (5, [some (.inr (.inr 92)), some (.inl a1), some (.inl a2), some (.inl a3), some (.inl a4)], [.inl q1.1], q1.2) (7, [some (.inr (.inr 92)), some (.inl a1), some (.inl a2), some (.inl a3), some (.inl a4)], [.inl 40, .inl q1.1], q1.2) rfl ?_
  by_cases hc : ¬ q1.1 = 40
  · rw [if_pos hc] at h
    refine es (18, [some (.inr (.inr 92)), some (.inl a1), some (.inl a2), some (.inl a3), some (.inl a4)], [], q1.2) (congrArg some (if_pos hc)) ?_
    refine ev_runs 1 (18, [some (.inr (.inr 92)), some (.inl a1), some (.inl a2), some (.inl a3), some (.inl a4)], [], q1.2) (19, [some (.inr (.inr 92)), some (.inl a1), some (.inl a2), some (.inl a3), some (.inl a4)], [.inl 0], q1.2) rfl ?_
    cases h
    exact er rfl
  · rw [if_neg hc] at h
    refine es (10, [some (.inr (.inr 92)), some (.inl a1), some (.inl a2), some (.inl a3), some (.inl a4)], [], q1.2) (congrArg some (if_neg hc)) ?_
    refine ev_runs 3 (10, [some (.inr (.inr 92)), some (.inl a1), some (.inl a2), some (.inl a3), some (.inl a4)], [], q1.2) (15, [some (.inr (.inr 92)), some (.inl a1), some (.inl a2), some (.inl a3), some (.inl a4)], [.inl 4, .inl (q1.2 92 20)], q1.2) rfl ?_
    by_cases hc : ¬ (q1.2 92 20) = 4
    · rw [if_pos hc] at h
      refine es (20, [some (.inr (.inr 92)), some (.inl a1), some (.inl a2), some (.inl a3), some (.inl a4)], [], q1.2) (congrArg some (if_pos hc)) ?_
      refine ev_runs 12 (20, [some (.inr (.inr 92)), some (.inl a1), some (.inl a2), some (.inl a3), some (.inl a4)], [], q1.2) (42, [some (.inr (.inr 92)), some (.inl a1), some (.inl a2), some (.inl a3), some (.inl a4)], [.inl (q1.2 92 9), .inl (q1.2 92 20), .inr (.inr 105)], (gset q1.2 92 8 (wr ((q1.2 92 8) + 1)))) rfl ?_
      by_cases hc : 0 ≤ (q1.2 92 20) ∧ (q1.2 92 20) < 4
      · rw [if_pos hc] at h
        refine es (43, [some (.inr (.inr 92)), some (.inl a1), some (.inl a2), some (.inl a3), some (.inl a4)], [], (gset (gset q1.2 92 8 (wr ((q1.2 92 8) + 1))) 105 ((q1.2 92 20).toNat) (q1.2 92 9))) (if_pos hc) ?_
        refine ev_runs 11 (43, [some (.inr (.inr 92)), some (.inl a1), some (.inl a2), some (.inl a3), some (.inl a4)], [], (gset (gset q1.2 92 8 (wr ((q1.2 92 8) + 1))) 105 ((q1.2 92 20).toNat) (q1.2 92 9))) (59, [some (.inr (.inr 92)), some (.inl a1), some (.inl a2), some (.inl a3), some (.inl a4)], [.inl a4, .inl a3, .inl a2, .inl a1, .inr (.inr 92)], (gset (gset (gset q1.2 92 8 (wr ((q1.2 92 8) + 1))) 105 ((q1.2 92 20).toNat) (q1.2 92 9)) 92 20 (wr ((q1.2 92 20) + 1)))) rfl ?_
        obtain ⟨g2, hq, h⟩ := Option.bind_eq_some_iff.mp h
        refine ec 37 62 [.inr (.inr 92), .inl a1, .inl a2, .inl a3, .inl a4] [] rfl (ev_Md_act a1 a2 a3 a4 (gset (gset (gset q1.2 92 8 (wr ((q1.2 92 8) + 1))) 105 ((q1.2 92 20).toNat) (q1.2 92 9)) 92 20 (wr ((q1.2 92 20) + 1))) g2 hq) ?_
        show Ev 38 62 [some (.inr (.inr 92)), some (.inl a1), some (.inl a2), some (.inl a3), some (.inl a4)] [] g2 _ _
        refine ev_runs 10 (62, [some (.inr (.inr 92)), some (.inl a1), some (.inl a2), some (.inl a3), some (.inl a4)], [], g2) (78, [some (.inr (.inr 92)), some (.inl a1), some (.inl a2), some (.inl a3), some (.inl a4)], [.inl (g2 92 9), .inl (wr (4 * (wr ((g2 92 9) - 1)))), .inr (.inr 104)], g2) rfl ?_
        by_cases hc : 0 ≤ (wr (4 * (wr ((g2 92 9) - 1)))) ∧ (wr (4 * (wr ((g2 92 9) - 1)))) < 680
        · rw [if_pos hc] at h
          refine es (79, [some (.inr (.inr 92)), some (.inl a1), some (.inl a2), some (.inl a3), some (.inl a4)], [], (gset g2 104 ((wr (4 * (wr ((g2 92 9) - 1)))).toNat) (g2 92 9))) (if_pos hc) ?_
          refine ev_runs 1 (79, [some (.inr (.inr 92)), some (.inl a1), some (.inl a2), some (.inl a3), some (.inl a4)], [], (gset g2 104 ((wr (4 * (wr ((g2 92 9) - 1)))).toNat) (g2 92 9))) (80, [some (.inr (.inr 92)), some (.inl a1), some (.inl a2), some (.inl a3), some (.inl a4)], [.inl 1], (gset g2 104 ((wr (4 * (wr ((g2 92 9) - 1)))).toNat) (g2 92 9))) rfl ?_
          cases h
          exact er rfl
        · rw [if_neg hc] at h; cases h
      · rw [if_neg hc] at h; cases h
    · rw [if_neg hc] at h
      refine es (18, [some (.inr (.inr 92)), some (.inl a1), some (.inl a2), some (.inl a3), some (.inl a4)], [], q1.2) (congrArg some (if_neg hc)) ?_
      refine ev_runs 1 (18, [some (.inr (.inr 92)), some (.inl a1), some (.inl a2), some (.inl a3), some (.inl a4)], [], q1.2) (19, [some (.inr (.inr 92)), some (.inl a1), some (.inl a2), some (.inl a3), some (.inl a4)], [.inl 0], q1.2) rfl ?_
      cases h
      exact er rfl
set_option maxRecDepth 100000 in
set_option maxHeartbeats 4000000 in
theorem ev_Md_isTalker (a1 : Int) (g : Gx) (r : Int) (g' : Gx) (h : Md_isTalker a1 g = some (r, g')) : Ev 39 0 [some (.inr (.inr 92)), some (.inl a1)] [] g (some (.inl r)) g' := by
  rw [Md_isTalker] at h
  refine ev_runs 2 (0, [some (.inr (.inr 92)), some (.inl a1)], [], g) (2, [some (.inr (.inr 92)), some (.inl a1)], [.inl a1, .inr (.inr 92)], g) rfl ?_
  obtain ⟨q1, hq, h⟩ := Option.bind_eq_some_iff.mp h
  refine ec 36 5 [.inr (.inr 92), .inl a1] [] rfl (ev_Md_here a1 g q1.1 q1.2 hq) ?_
  show Ev 39 5 [some (.inr (.inr 92)), some (.inl a1)] [.inl q1.1] q1.2 _ _
  refine ev_runs 3 (5, [some (.inr (.inr 92)), some (.inl a1)], [.inl q1.1], q1.2) (12, [some (.inr (.inr 92)), some (.inl a1)], [.inr (.inl 70), .inr (.inl 65), .inr (.inl q1.1)], q1.2) rfl ?_
  refine ec 4 15 [.inr (.inl q1.1), .inr (.inl 65), .inr (.inl 70)] [] rfl (ev_Md_in q1.1 65 70 q1.2 _ rfl) ?_
  show Ev 39 15 [some (.inr (.inr 92)), some (.inl a1)] [.inl (Md_in q1.1 65 70)] q1.2 _ _
  cases h
  exact er (if_pos (bo_Md_in q1.1 65 70))
set_option maxRecDepth 100000 in
set_option maxHeartbeats 4000000 in
theorem ev_Md_readsItem (g : Gx) (r : Int) (g' : Gx) (h : Md_readsItem g = some (r, g')) : Ev 40 0 [some (.inr (.inr 92)), none, none, none] [] g (some (.inl r)) g' := by
  rw [Md_readsItem] at h
  refine ev_runs 2 (0, [some (.inr (.inr 92)), none, none, none], [], g) (2, [some (.inr (.inr 92)), none, none, none], [.inl 0, .inr (.inr 92)], g) rfl ?_
  obtain ⟨q1, hq, h⟩ := Option.bind_eq_some_iff.mp h
  refine ec 36 5 [.inr (.inr 92), .inl 0] [] rfl (ev_Md_here 0 g q1.1 q1.2 hq) ?_
  show Ev 40 5 [some (.inr (.inr 92)), none, none, none] [.inl q1.1] q1.2 _ _
  refine ev_runs 3 (5, [some (.inr (.inr 92)), none, none, none], [.inl q1.1], q1.2) (9, [some (.inr (.inr 92)), some (.inl q1.1), none, none], [.inl 45, .inl q1.1], q1.2) rfl ?_
  by_cases hc : ¬ q1.1 = 45
  · rw [if_pos hc] at h
    refine es (24, [some (.inr (.inr 92)), some (.inl q1.1), none, none], [], q1.2) (congrArg some (if_pos hc)) ?_
    refine ev_runs 4 (24, [some (.inr (.inr 92)), some (.inl q1.1), none, none], [], q1.2) (32, [some (.inr (.inr 92)), some (.inl q1.1), none, none], [.inr (.inl 52), .inr (.inl 50), .inr (.inl q1.1)], q1.2) rfl ?_
    refine ec 4 35 [.inr (.inl q1.1), .inr (.inl 50), .inr (.inl 52)] [] rfl (ev_Md_in q1.1 50 52 q1.2 _ rfl) ?_
    show Ev 40 35 [some (.inr (.inr 92)), some (.inl q1.1), none, none] [.inl (Md_in q1.1 50 52)] q1.2 _ _
    by_cases hc : (Md_in q1.1 50 52) = 0
    · rw [if_pos hc] at h
      refine es (60, [some (.inr (.inr 92)), some (.inl q1.1), none, none], [], q1.2) (congrArg some (if_pos hc)) ?_
      refine ev_runs 2 (60, [some (.inr (.inr 92)), some (.inl q1.1), none, none], [], q1.2) (62, [some (.inr (.inr 92)), some (.inl q1.1), none, none], [.inl 0, .inr (.inr 92)], q1.2) rfl ?_
      obtain ⟨q2, hq, h⟩ := Option.bind_eq_some_iff.mp h
      refine ec 39 65 [.inr (.inr 92), .inl 0] [] rfl (ev_Md_isTalker 0 q1.2 q2.1 q2.2 hq) ?_
      show Ev 40 65 [some (.inr (.inr 92)), some (.inl q1.1), none, none] [.inl q2.1] q2.2 _ _
      by_cases hc : ¬ q2.1 = 0
      · rw [if_pos hc] at h
        refine es (70, [some (.inr (.inr 92)), some (.inl q1.1), none, none], [], q2.2) (congrArg some (if_pos hc)) ?_
        refine ev_runs 12 (70, [some (.inr (.inr 92)), some (.inl q1.1), none, none], [], q2.2) (87, [some (.inr (.inr 92)), some (.inl q1.1), some (.inl (wr (q1.1 - 65))), none], [.inl 0, .inr (.inr 92)], (gset q2.2 92 8 (wr ((q2.2 92 8) + 1)))) rfl ?_
        obtain ⟨q3, hq, h⟩ := Option.bind_eq_some_iff.mp h
        refine ec 36 90 [.inr (.inr 92), .inl 0] [] rfl (ev_Md_here 0 (gset q2.2 92 8 (wr ((q2.2 92 8) + 1))) q3.1 q3.2 hq) ?_
        show Ev 40 90 [some (.inr (.inr 92)), some (.inl q1.1), some (.inl (wr (q1.1 - 65))), none] [.inl q3.1] q3.2 _ _
        refine ev_runs 1 (90, [some (.inr (.inr 92)), some (.inl q1.1), some (.inl (wr (q1.1 - 65))), none], [.inl q3.1], q3.2) (92, [some (.inr (.inr 92)), some (.inl q1.1), some (.inl (wr (q1.1 - 65))), none], [.inl 40, .inl q3.1], q3.2) rfl ?_
        by_cases hc : ¬ q3.1 = 40
        · rw [if_pos hc] at h
          refine es (135, [some (.inr (.inr 92)), some (.inl q1.1), some (.inl (wr (q1.1 - 65))), none], [], q3.2) (congrArg some (if_pos hc)) ?_
          refine ev_runs 2 (135, [some (.inr (.inr 92)), some (.inl q1.1), some (.inl (wr (q1.1 - 65))), none], [], q3.2) (137, [some (.inr (.inr 92)), some (.inl q1.1), some (.inl (wr (q1.1 - 65))), none], [.inl 0, .inr (.inr 92)], q3.2) rfl ?_
          obtain ⟨q4, hq, h⟩ := Option.bind_eq_some_iff.mp h
          refine ec 36 140 [.inr (.inr 92), .inl 0] [] rfl (ev_Md_here 0 q3.2 q4.1 q4.2 hq) ?_
          show Ev 40 140 [some (.inr (.inr 92)), some (.inl q1.1), some (.inl (wr (q1.1 - 65))), none] [.inl q4.1] q4.2 _ _
          refine ev_runs 1 (140, [some (.inr (.inr 92)), some (.inl q1.1), some (.inl (wr (q1.1 - 65))), none], [.inl q4.1], q4.2) (142, [some (.inr (.inr 92)), some (.inl q1.1), some (.inl (wr (q1.1 - 65))), none], [.inl 62, .inl q4.1], q4.2) rfl ?_
          by_cases hc : q4.1 = 62
          · rw [if_pos hc] at h
            refine es (147, [some (.inr (.inr 92)), some (.inl q1.1), some (.inl (wr (q1.1 - 65))), none], [], q4.2) (congrArg some (if_pos hc)) ?_
            refine ev_runs 8 (147, [some (.inr (.inr 92)), some (.inl q1.1), some (.inl (wr (q1.1 - 65))), none], [], q4.2) (159, [some (.inr (.inr 92)), some (.inl q1.1), some (.inl (wr (q1.1 - 65))), none], [.inl 0, .inr (.inr 92)], (gset q4.2 92 8 (wr ((q4.2 92 8) + 1)))) rfl ?_
            obtain ⟨q5, hq, h⟩ := Option.bind_eq_some_iff.mp h
            refine ec 39 162 [.inr (.inr 92), .inl 0] [] rfl (ev_Md_isTalker 0 (gset q4.2 92 8 (wr ((q4.2 92 8) + 1))) q5.1 q5.2 hq) ?_
            show Ev 40 162 [some (.inr (.inr 92)), some (.inl q1.1), some (.inl (wr (q1.1 - 65))), none] [.inl q5.1] q5.2 _ _
            by_cases hc : q5.1 = 0
            · rw [if_pos hc] at h
              refine es (174, [some (.inr (.inr 92)), some (.inl q1.1), some (.inl (wr (q1.1 - 65))), none], [], q5.2) (congrArg some (if_pos hc)) ?_
              refine ev_runs 1 (174, [some (.inr (.inr 92)), some (.inl q1.1), some (.inl (wr (q1.1 - 65))), none], [], q5.2) (175, [some (.inr (.inr 92)), some (.inl q1.1), some (.inl (wr (q1.1 - 65))), none], [.inl 0], q5.2) rfl ?_
              cases h
              exact er rfl
            · rw [if_neg hc] at h
              refine es (165, [some (.inr (.inr 92)), some (.inl q1.1), some (.inl (wr (q1.1 - 65))), none], [], q5.2) (congrArg some (if_neg hc)) ?_
              refine ev_runs 2 (165, [some (.inr (.inr 92)), some (.inl q1.1), some (.inl (wr (q1.1 - 65))), none], [], q5.2) (167, [some (.inr (.inr 92)), some (.inl q1.1), some (.inl (wr (q1.1 - 65))), none], [.inl 0, .inr (.inr 92)], q5.2) rfl ?_
              obtain ⟨q6, hq, h⟩ := Option.bind_eq_some_iff.mp h
              refine ec 36 170 [.inr (.inr 92), .inl 0] [] rfl (ev_Md_here 0 q5.2 q6.1 q6.2 hq) ?_
              show Ev 40 170 [some (.inr (.inr 92)), some (.inl q1.1), some (.inl (wr (q1.1 - 65))), none] [.inl q6.1] q6.2 _ _
              refine ev_runs 1 (170, [some (.inr (.inr 92)), some (.inl q1.1), some (.inl (wr (q1.1 - 65))), none], [.inl q6.1], q6.2) (171, [some (.inr (.inr 92)), some (.inl q1.1), some (.inl (wr (q1.1 - 65))), none], [.inl q1.1, .inl q6.1], q6.2) rfl ?_
              by_cases hc : ¬ q6.1 = q1.1
              · rw [if_pos hc] at h
                refine es (176, [some (.inr (.inr 92)), some (.inl q1.1), some (.inl (wr (q1.1 - 65))), none], [], q6.2) (congrArg some (if_pos hc)) ?_
                refine ev_runs 2 (176, [some (.inr (.inr 92)), some (.inl q1.1), some (.inl (wr (q1.1 - 65))), none], [], q6.2) (178, [some (.inr (.inr 92)), some (.inl q1.1), some (.inl (wr (q1.1 - 65))), none], [.inl 0, .inr (.inr 92)], q6.2) rfl ?_
                obtain ⟨q7, hq, h⟩ := Option.bind_eq_some_iff.mp h
                refine ec 36 181 [.inr (.inr 92), .inl 0] [] rfl (ev_Md_here 0 q6.2 q7.1 q7.2 hq) ?_
                show Ev 40 181 [some (.inr (.inr 92)), some (.inl q1.1), some (.inl (wr (q1.1 - 65))), none] [.inl q7.1] q7.2 _ _
                refine ev_runs 11 (181, [some (.inr (.inr 92)), some (.inl q1.1), some (.inl (wr (q1.1 - 65))), none], [.inl q7.1], q7.2) (197, [some (.inr (.inr 92)), some (.inl q1.1), some (.inl (wr (q1.1 - 65))), some (.inl (wr (q7.1 - 65)))], [.inl 0, .inr (.inr 92)], (gset q7.2 92 8 (wr ((q7.2 92 8) + 1)))) rfl ?_
                obtain ⟨q8, hq, h⟩ := Option.bind_eq_some_iff.mp h
                refine ec 36 200 [.inr (.inr 92), .inl 0] [] rfl (ev_Md_here 0 (gset q7.2 92 8 (wr ((q7.2 92 8) + 1))) q8.1 q8.2 hq) ?_
                show Ev 40 200 [some (.inr (.inr 92)), some (.inl q1.1), some (.inl (wr (q1.1 - 65))), some (.inl (wr (q7.1 - 65)))] [.inl q8.1] q8.2 _ _
                refine ev_runs 3 (200, [some (.inr (.inr 92)), some (.inl q1.1), some (.inl (wr (q1.1 - 65))), some (.inl (wr (q7.1 - 65)))], [.inl q8.1], q8.2) (207, [some (.inr (.inr 92)), some (.inl q1.1), some (.inl (wr (q1.1 - 65))), some (.inl (wr (q7.1 - 65)))], [.inr (.inl 122), .inr (.inl 97), .inr (.inl q8.1)], q8.2) rfl ?_
                refine ec 4 210 [.inr (.inl q8.1), .inr (.inl 97), .inr (.inl 122)] [] rfl (ev_Md_in q8.1 97 122 q8.2 _ rfl) ?_
                show Ev 40 210 [some (.inr (.inr 92)), some (.inl q1.1), some (.inl (wr (q1.1 - 65))), some (.inl (wr (q7.1 - 65)))] [.inl (Md_in q8.1 97 122)] q8.2 _ _
                by_cases hc : ¬ (Md_in q8.1 97 122) = 0
                · rw [if_pos hc] at h
                  refine es (215, [some (.inr (.inr 92)), some (.inl q1.1), some (.inl (wr (q1.1 - 65))), some (.inl (wr (q7.1 - 65)))], [], q8.2) (congrArg some (if_pos hc)) ?_
                  refine ev_runs 6 (215, [some (.inr (.inr 92)), some (.inl q1.1), some (.inl (wr (q1.1 - 65))), some (.inl (wr (q7.1 - 65)))], [], q8.2) (221, [some (.inr (.inr 92)), some (.inl q1.1), some (.inl (wr (q1.1 - 65))), some (.inl (wr (q7.1 - 65)))], [.inl 0, .inr (.inr 92), .inl (wr (q7.1 - 65)), .inl (wr (q1.1 - 65)), .inl 0, .inr (.inr 92)], q8.2) rfl ?_
                  obtain ⟨q9, hq, h⟩ := Option.bind_eq_some_iff.mp h
                  refine ec 36 224 [.inr (.inr 92), .inl 0] [.inl (wr (q7.1 - 65)), .inl (wr (q1.1 - 65)), .inl 0, .inr (.inr 92)] rfl (ev_Md_here 0 q8.2 q9.1 q9.2 hq) ?_
                  show Ev 40 224 [some (.inr (.inr 92)), some (.inl q1.1), some (.inl (wr (q1.1 - 65))), some (.inl (wr (q7.1 - 65)))] [.inl q9.1, .inl (wr (q7.1 - 65)), .inl (wr (q1.1 - 65)), .inl 0, .inr (.inr 92)] q9.2 _ _
                  refine ev_runs 2 (224, [some (.inr (.inr 92)), some (.inl q1.1), some (.inl (wr (q1.1 - 65))), some (.inl (wr (q7.1 - 65)))], [.inl q9.1, .inl (wr (q7.1 - 65)), .inl (wr (q1.1 - 65)), .inl 0, .inr (.inr 92)], q9.2) (227, [some (.inr (.inr 92)), some (.inl q1.1), some (.inl (wr (q1.1 - 65))), some (.inl (wr (q7.1 - 65)))], [.inl (wr (q9.1 - 97)), .inl (wr (q7.1 - 65)), .inl (wr (q1.1 - 65)), .inl 0, .inr (.inr 92)], q9.2) rfl ?_
                  obtain ⟨g10, hq, h⟩ := Option.bind_eq_some_iff.mp h
                  refine ec 37 230 [.inr (.inr 92), .inl 0, .inl (wr (q1.1 - 65)), .inl (wr (q7.1 - 65)), .inl (wr (q9.1 - 97))] [] rfl (ev_Md_act 0 (wr (q1.1 - 65)) (wr (q7.1 - 65)) (wr (q9.1 - 97)) q9.2 g10 hq) ?_
                  show Ev 40 230 [some (.inr (.inr 92)), some (.inl q1.1), some (.inl (wr (q1.1 - 65))), some (.inl (wr (q7.1 - 65)))] [] g10 _ _
                  refine ev_runs 25 (230, [some (.inr (.inr 92)), some (.inl q1.1), some (.inl (wr (q1.1 - 65))), some (.inl (wr (q7.1 - 65)))], [], g10) (267, [some (.inr (.inr 92)), some (.inl q1.1), some (.inl (wr (q1.1 - 65))), some (.inl (wr (q7.1 - 65)))], [.inl 1], (gset (gset (gset g10 92 8 (wr ((g10 92 8) + 1))) 92 17 (wr ((g10 92 17) + 1))) 92 18 (jor (g10 92 18) (jor (jshl 1 (wr (q1.1 - 65))) (jshl 1 (wr (q7.1 - 65))))))) rfl ?_
                  cases h
                  exact er rfl
                · rw [if_neg hc] at h
                  refine es (213, [some (.inr (.inr 92)), some (.inl q1.1), some (.inl (wr (q1.1 - 65))), some (.inl (wr (q7.1 - 65)))], [], q8.2) (congrArg some (if_neg hc)) ?_
                  refine ev_runs 1 (213, [some (.inr (.inr 92)), some (.inl q1.1), some (.inl (wr (q1.1 - 65))), some (.inl (wr (q7.1 - 65)))], [], q8.2) (214, [some (.inr (.inr 92)), some (.inl q1.1), some (.inl (wr (q1.1 - 65))), some (.inl (wr (q7.1 - 65)))], [.inl 0], q8.2) rfl ?_
                  cases h
                  exact er rfl
              · rw [if_neg hc] at h
                refine es (174, [some (.inr (.inr 92)), some (.inl q1.1), some (.inl (wr (q1.1 - 65))), none], [], q6.2) (congrArg some (if_neg hc)) ?_
                refine ev_runs 1 (174, [some (.inr (.inr 92)), some (.inl q1.1), some (.inl (wr (q1.1 - 65))), none], [], q6.2) (175, [some (.inr (.inr 92)), some (.inl q1.1), some (.inl (wr (q1.1 - 65))), none], [.inl 0], q6.2) rfl ?_
                cases h
                exact er rfl
          · rw [if_neg hc] at h
            refine es (145, [some (.inr (.inr 92)), some (.inl q1.1), some (.inl (wr (q1.1 - 65))), none], [], q4.2) (congrArg some (if_neg hc)) ?_
            refine ev_runs 1 (145, [some (.inr (.inr 92)), some (.inl q1.1), some (.inl (wr (q1.1 - 65))), none], [], q4.2) (146, [some (.inr (.inr 92)), some (.inl q1.1), some (.inl (wr (q1.1 - 65))), none], [.inl 0], q4.2) rfl ?_
            cases h
            exact er rfl
        · rw [if_neg hc] at h
          refine es (95, [some (.inr (.inr 92)), some (.inl q1.1), some (.inl (wr (q1.1 - 65))), none], [], q3.2) (congrArg some (if_neg hc)) ?_
          refine ev_runs 6 (95, [some (.inr (.inr 92)), some (.inl q1.1), some (.inl (wr (q1.1 - 65))), none], [], q3.2) (103, [some (.inr (.inr 92)), some (.inl q1.1), some (.inl (wr (q1.1 - 65))), none], [.inl (q3.2 92 16), .inl 1, .inl (wr (q1.1 - 65)), .inl 1, .inr (.inr 92)], q3.2) rfl ?_
          obtain ⟨q11, hq, h⟩ := Option.bind_eq_some_iff.mp h
          refine ec 38 106 [.inr (.inr 92), .inl 1, .inl (wr (q1.1 - 65)), .inl 1, .inl (q3.2 92 16)] [] rfl (ev_Md_opens 1 (wr (q1.1 - 65)) 1 (q3.2 92 16) q3.2 q11.1 q11.2 hq) ?_
          show Ev 40 106 [some (.inr (.inr 92)), some (.inl q1.1), some (.inl (wr (q1.1 - 65))), none] [.inl q11.1] q11.2 _ _
          by_cases hc : ¬ q11.1 = 0
          · rw [if_pos hc] at h
            refine es (111, [some (.inr (.inr 92)), some (.inl q1.1), some (.inl (wr (q1.1 - 65))), none], [], q11.2) (congrArg some (if_pos hc)) ?_
            refine ev_runs 15 (111, [some (.inr (.inr 92)), some (.inl q1.1), some (.inl (wr (q1.1 - 65))), none], [], q11.2) (134, [some (.inr (.inr 92)), some (.inl q1.1), some (.inl (wr (q1.1 - 65))), none], [.inl 1], (gset (gset q11.2 92 16 (wr ((q11.2 92 16) + 1))) 92 18 (jor (q11.2 92 18) (jshl 1 (wr (q1.1 - 65)))))) rfl ?_
            cases h
            exact er rfl
          · rw [if_neg hc] at h
            refine es (109, [some (.inr (.inr 92)), some (.inl q1.1), some (.inl (wr (q1.1 - 65))), none], [], q11.2) (congrArg some (if_neg hc)) ?_
            refine ev_runs 1 (109, [some (.inr (.inr 92)), some (.inl q1.1), some (.inl (wr (q1.1 - 65))), none], [], q11.2) (110, [some (.inr (.inr 92)), some (.inl q1.1), some (.inl (wr (q1.1 - 65))), none], [.inl 0], q11.2) rfl ?_
            cases h
            exact er rfl
      · rw [if_neg hc] at h
        refine es (68, [some (.inr (.inr 92)), some (.inl q1.1), none, none], [], q2.2) (congrArg some (if_neg hc)) ?_
        refine ev_runs 1 (68, [some (.inr (.inr 92)), some (.inl q1.1), none, none], [], q2.2) (69, [some (.inr (.inr 92)), some (.inl q1.1), none, none], [.inl 0], q2.2) rfl ?_
        cases h
        exact er rfl
    · rw [if_neg hc] at h
      refine es (38, [some (.inr (.inr 92)), some (.inl q1.1), none, none], [], q1.2) (congrArg some (if_neg hc)) ?_
      refine ev_runs 13 (38, [some (.inr (.inr 92)), some (.inl q1.1), none, none], [], q1.2) (56, [some (.inr (.inr 92)), some (.inl q1.1), none, none], [.inl 0, .inl (wr (q1.1 - 48)), .inl 0, .inl 3, .inr (.inr 92)], (gset q1.2 92 8 (wr ((q1.2 92 8) + 1)))) rfl ?_
      obtain ⟨q12, hq, h⟩ := Option.bind_eq_some_iff.mp h
      refine ec 38 59 [.inr (.inr 92), .inl 3, .inl 0, .inl (wr (q1.1 - 48)), .inl 0] [] rfl (ev_Md_opens 3 0 (wr (q1.1 - 48)) 0 (gset q1.2 92 8 (wr ((q1.2 92 8) + 1))) q12.1 q12.2 hq) ?_
      show Ev 40 59 [some (.inr (.inr 92)), some (.inl q1.1), none, none] [.inl q12.1] q12.2 _ _
      by_cases hc : q12.1 = 0 ∨ q12.1 = 1
      · rw [if_pos hc] at h
        cases h
        exact er (if_pos hc)
      · rw [if_neg hc] at h; cases h
  · rw [if_neg hc] at h
    refine es (12, [some (.inr (.inr 92)), some (.inl q1.1), none, none], [], q1.2) (congrArg some (if_neg hc)) ?_
    refine ev_runs 7 (12, [some (.inr (.inr 92)), some (.inl q1.1), none, none], [], q1.2) (23, [some (.inr (.inr 92)), some (.inl q1.1), none, none], [.inl 1], (gset q1.2 92 8 (wr ((q1.2 92 8) + 1)))) rfl ?_
    cases h
    exact er rfl
set_option maxRecDepth 100000 in
set_option maxHeartbeats 4000000 in
theorem ev_Md_wayMore (g : Gx) (r : Int) (g' : Gx) (h : Md_wayMore g = some (r, g')) : Ev 41 0 [some (.inr (.inr 92)), none] [] g (some (.inl r)) g' := by
  rw [Md_wayMore] at h
  refine ev_runs 2 (0, [some (.inr (.inr 92)), none], [], g) (4, [some (.inr (.inr 92)), none], [.inl (g 92 20)], g) rfl ?_
  by_cases hc : (g 92 20) = 0
  · rw [if_pos hc] at h
    refine es (47, [some (.inr (.inr 92)), none], [], g) (congrArg some (if_pos hc)) ?_
    refine ev_runs 1 (47, [some (.inr (.inr 92)), none], [], g) (48, [some (.inr (.inr 92)), none], [.inl 0], g) rfl ?_
    cases h
    exact er rfl
  · rw [if_neg hc] at h
    refine es (7, [some (.inr (.inr 92)), none], [], g) (congrArg some (if_neg hc)) ?_
    refine ev_runs 8 (7, [some (.inr (.inr 92)), none], [], g) (21, [some (.inr (.inr 92)), none], [.inl (wr ((g 92 20) - 1)), .inr (.inr 105), .inr (.inr 99)], g) rfl ?_
    by_cases hc : 0 ≤ (wr ((g 92 20) - 1)) ∧ (wr ((g 92 20) - 1)) < 4
    · rw [if_pos hc] at h
      refine es (22, [some (.inr (.inr 92)), none], [.inl (g 105 (wr ((g 92 20) - 1)).toNat), .inr (.inr 99)], g) (if_pos hc) ?_
      by_cases hc : 0 ≤ (g 105 (wr ((g 92 20) - 1)).toNat) ∧ (g 105 (wr ((g 92 20) - 1)).toNat) < 170
      · rw [if_pos hc] at h
        refine es (23, [some (.inr (.inr 92)), none], [.inl (g 99 (g 105 (wr ((g 92 20) - 1)).toNat).toNat)], g) (if_pos hc) ?_
        refine ev_runs 1 (23, [some (.inr (.inr 92)), none], [.inl (g 99 (g 105 (wr ((g 92 20) - 1)).toNat).toNat)], g) (24, [some (.inr (.inr 92)), none], [.inl 1, .inl (g 99 (g 105 (wr ((g 92 20) - 1)).toNat).toNat)], g) rfl ?_
        by_cases hc : ¬ (g 99 (g 105 (wr ((g 92 20) - 1)).toNat).toNat) = 1
        · rw [if_pos hc] at h
          refine es (47, [some (.inr (.inr 92)), none], [], g) (congrArg some (if_pos hc)) ?_
          refine ev_runs 1 (47, [some (.inr (.inr 92)), none], [], g) (48, [some (.inr (.inr 92)), none], [.inl 0], g) rfl ?_
          cases h
          exact er rfl
        · rw [if_neg hc] at h
          refine es (27, [some (.inr (.inr 92)), none], [], g) (congrArg some (if_neg hc)) ?_
          refine ev_runs 8 (27, [some (.inr (.inr 92)), none], [], g) (41, [some (.inr (.inr 92)), none], [.inl (wr ((g 92 20) - 1)), .inr (.inr 105), .inr (.inr 101)], g) rfl ?_
          by_cases hc : 0 ≤ (wr ((g 92 20) - 1)) ∧ (wr ((g 92 20) - 1)) < 4
          · rw [if_pos hc] at h
            refine es (42, [some (.inr (.inr 92)), none], [.inl (g 105 (wr ((g 92 20) - 1)).toNat), .inr (.inr 101)], g) (if_pos hc) ?_
            by_cases hc : 0 ≤ (g 105 (wr ((g 92 20) - 1)).toNat) ∧ (g 105 (wr ((g 92 20) - 1)).toNat) < 170
            · rw [if_pos hc] at h
              refine es (43, [some (.inr (.inr 92)), none], [.inl (g 101 (g 105 (wr ((g 92 20) - 1)).toNat).toNat)], g) (if_pos hc) ?_
              refine ev_runs 1 (43, [some (.inr (.inr 92)), none], [.inl (g 101 (g 105 (wr ((g 92 20) - 1)).toNat).toNat)], g) (44, [some (.inr (.inr 92)), none], [.inl 4, .inl (g 101 (g 105 (wr ((g 92 20) - 1)).toNat).toNat)], g) rfl ?_
              by_cases hc : ¬ (g 101 (g 105 (wr ((g 92 20) - 1)).toNat).toNat) = 4
              · rw [if_pos hc] at h
                refine es (49, [some (.inr (.inr 92)), none], [], g) (congrArg some (if_pos hc)) ?_
                refine ev_runs 6 (49, [some (.inr (.inr 92)), none], [], g) (59, [some (.inr (.inr 92)), none], [.inl (wr ((g 92 20) - 1)), .inr (.inr 105)], g) rfl ?_
                by_cases hc : 0 ≤ (wr ((g 92 20) - 1)) ∧ (wr ((g 92 20) - 1)) < 4
                · rw [if_pos hc] at h
                  refine es (60, [some (.inr (.inr 92)), none], [.inl (g 105 (wr ((g 92 20) - 1)).toNat)], g) (if_pos hc) ?_
                  refine ev_runs 6 (60, [some (.inr (.inr 92)), none], [.inl (g 105 (wr ((g 92 20) - 1)).toNat)], g) (66, [some (.inr (.inr 92)), some (.inl (g 105 (wr ((g 92 20) - 1)).toNat))], [.inl (g 105 (wr ((g 92 20) - 1)).toNat), .inl 0, .inl 0, .inl 2, .inr (.inr 92)], g) rfl ?_
                  obtain ⟨g1, hq, h⟩ := Option.bind_eq_some_iff.mp h
                  refine ec 37 69 [.inr (.inr 92), .inl 2, .inl 0, .inl 0, .inl (g 105 (wr ((g 92 20) - 1)).toNat)] [] rfl (ev_Md_act 2 0 0 (g 105 (wr ((g 92 20) - 1)).toNat) g g1 hq) ?_
                  show Ev 41 69 [some (.inr (.inr 92)), some (.inl (g 105 (wr ((g 92 20) - 1)).toNat))] [] g1 _ _
                  refine ev_runs 8 (69, [some (.inr (.inr 92)), some (.inl (g 105 (wr ((g 92 20) - 1)).toNat))], [], g1) (81, [some (.inr (.inr 92)), some (.inl (g 105 (wr ((g 92 20) - 1)).toNat))], [.inl (g 105 (wr ((g 92 20) - 1)).toNat), .inr (.inr 101), .inl (wr (4 * (g 105 (wr ((g 92 20) - 1)).toNat))), .inr (.inr 104)], g1) rfl ?_
                  by_cases hc : 0 ≤ (g 105 (wr ((g 92 20) - 1)).toNat) ∧ (g 105 (wr ((g 92 20) - 1)).toNat) < 170
                  · rw [if_pos hc] at h
                    refine es (82, [some (.inr (.inr 92)), some (.inl (g 105 (wr ((g 92 20) - 1)).toNat))], [.inl (g1 101 (g 105 (wr ((g 92 20) - 1)).toNat).toNat), .inl (wr (4 * (g 105 (wr ((g 92 20) - 1)).toNat))), .inr (.inr 104)], g1) (if_pos hc) ?_
                    refine ev_runs 3 (82, [some (.inr (.inr 92)), some (.inl (g 105 (wr ((g 92 20) - 1)).toNat))], [.inl (g1 101 (g 105 (wr ((g 92 20) - 1)).toNat).toNat), .inl (wr (4 * (g 105 (wr ((g 92 20) - 1)).toNat))), .inr (.inr 104)], g1) (87, [some (.inr (.inr 92)), some (.inl (g 105 (wr ((g 92 20) - 1)).toNat))], [.inl (g1 92 9), .inl (wr ((wr (4 * (g 105 (wr ((g 92 20) - 1)).toNat))) + (g1 101 (g 105 (wr ((g 92 20) - 1)).toNat).toNat))), .inr (.inr 104)], g1) rfl ?_
                    by_cases hc : 0 ≤ (wr ((wr (4 * (g 105 (wr ((g 92 20) - 1)).toNat))) + (g1 101 (g 105 (wr ((g 92 20) - 1)).toNat).toNat))) ∧ (wr ((wr (4 * (g 105 (wr ((g 92 20) - 1)).toNat))) + (g1 101 (g 105 (wr ((g 92 20) - 1)).toNat).toNat))) < 680
                    · rw [if_pos hc] at h
                      refine es (88, [some (.inr (.inr 92)), some (.inl (g 105 (wr ((g 92 20) - 1)).toNat))], [], (gset g1 104 ((wr ((wr (4 * (g 105 (wr ((g 92 20) - 1)).toNat))) + (g1 101 (g 105 (wr ((g 92 20) - 1)).toNat).toNat))).toNat) (g1 92 9))) (if_pos hc) ?_
                      refine ev_runs 4 (88, [some (.inr (.inr 92)), some (.inl (g 105 (wr ((g 92 20) - 1)).toNat))], [], (gset g1 104 ((wr ((wr (4 * (g 105 (wr ((g 92 20) - 1)).toNat))) + (g1 101 (g 105 (wr ((g 92 20) - 1)).toNat).toNat))).toNat) (g1 92 9))) (94, [some (.inr (.inr 92)), some (.inl (g 105 (wr ((g 92 20) - 1)).toNat))], [.inl (g 105 (wr ((g 92 20) - 1)).toNat), .inr (.inr 101), .inl (g 105 (wr ((g 92 20) - 1)).toNat), .inr (.inr 101)], (gset g1 104 ((wr ((wr (4 * (g 105 (wr ((g 92 20) - 1)).toNat))) + (g1 101 (g 105 (wr ((g 92 20) - 1)).toNat).toNat))).toNat) (g1 92 9))) rfl ?_
                      by_cases hc : 0 ≤ (g 105 (wr ((g 92 20) - 1)).toNat) ∧ (g 105 (wr ((g 92 20) - 1)).toNat) < 170
                      · rw [if_pos hc] at h
                        refine es (95, [some (.inr (.inr 92)), some (.inl (g 105 (wr ((g 92 20) - 1)).toNat))], [.inl (g1 101 (g 105 (wr ((g 92 20) - 1)).toNat).toNat), .inl (g 105 (wr ((g 92 20) - 1)).toNat), .inr (.inr 101)], (gset g1 104 ((wr ((wr (4 * (g 105 (wr ((g 92 20) - 1)).toNat))) + (g1 101 (g 105 (wr ((g 92 20) - 1)).toNat).toNat))).toNat) (g1 92 9))) (if_pos hc) ?_
                        refine ev_runs 2 (95, [some (.inr (.inr 92)), some (.inl (g 105 (wr ((g 92 20) - 1)).toNat))], [.inl (g1 101 (g 105 (wr ((g 92 20) - 1)).toNat).toNat), .inl (g 105 (wr ((g 92 20) - 1)).toNat), .inr (.inr 101)], (gset g1 104 ((wr ((wr (4 * (g 105 (wr ((g 92 20) - 1)).toNat))) + (g1 101 (g 105 (wr ((g 92 20) - 1)).toNat).toNat))).toNat) (g1 92 9))) (97, [some (.inr (.inr 92)), some (.inl (g 105 (wr ((g 92 20) - 1)).toNat))], [.inl (wr ((g1 101 (g 105 (wr ((g 92 20) - 1)).toNat).toNat) + 1)), .inl (g 105 (wr ((g 92 20) - 1)).toNat), .inr (.inr 101)], (gset g1 104 ((wr ((wr (4 * (g 105 (wr ((g 92 20) - 1)).toNat))) + (g1 101 (g 105 (wr ((g 92 20) - 1)).toNat).toNat))).toNat) (g1 92 9))) rfl ?_
                        by_cases hc : 0 ≤ (g 105 (wr ((g 92 20) - 1)).toNat) ∧ (g 105 (wr ((g 92 20) - 1)).toNat) < 170
                        · rw [if_pos hc] at h
                          refine es (98, [some (.inr (.inr 92)), some (.inl (g 105 (wr ((g 92 20) - 1)).toNat))], [], (gset (gset g1 104 ((wr ((wr (4 * (g 105 (wr ((g 92 20) - 1)).toNat))) + (g1 101 (g 105 (wr ((g 92 20) - 1)).toNat).toNat))).toNat) (g1 92 9)) 101 ((g 105 (wr ((g 92 20) - 1)).toNat).toNat) (wr ((g1 101 (g 105 (wr ((g 92 20) - 1)).toNat).toNat) + 1)))) (if_pos hc) ?_
                          refine ev_runs 7 (98, [some (.inr (.inr 92)), some (.inl (g 105 (wr ((g 92 20) - 1)).toNat))], [], (gset (gset g1 104 ((wr ((wr (4 * (g 105 (wr ((g 92 20) - 1)).toNat))) + (g1 101 (g 105 (wr ((g 92 20) - 1)).toNat).toNat))).toNat) (g1 92 9)) 101 ((g 105 (wr ((g 92 20) - 1)).toNat).toNat) (wr ((g1 101 (g 105 (wr ((g 92 20) - 1)).toNat).toNat) + 1)))) (109, [some (.inr (.inr 92)), some (.inl (g 105 (wr ((g 92 20) - 1)).toNat))], [.inl 1], (gset (gset (gset g1 104 ((wr ((wr (4 * (g 105 (wr ((g 92 20) - 1)).toNat))) + (g1 101 (g 105 (wr ((g 92 20) - 1)).toNat).toNat))).toNat) (g1 92 9)) 101 ((g 105 (wr ((g 92 20) - 1)).toNat).toNat) (wr ((g1 101 (g 105 (wr ((g 92 20) - 1)).toNat).toNat) + 1))) 92 8 (wr ((g1 92 8) + 1)))) rfl ?_
                          cases h
                          exact er rfl
                        · rw [if_neg hc] at h; cases h
                      · rw [if_neg hc] at h; cases h
                    · rw [if_neg hc] at h; cases h
                  · rw [if_neg hc] at h; cases h
                · rw [if_neg hc] at h; cases h
              · rw [if_neg hc] at h
                refine es (47, [some (.inr (.inr 92)), none], [], g) (congrArg some (if_neg hc)) ?_
                refine ev_runs 1 (47, [some (.inr (.inr 92)), none], [], g) (48, [some (.inr (.inr 92)), none], [.inl 0], g) rfl ?_
                cases h
                exact er rfl
            · rw [if_neg hc] at h; cases h
          · rw [if_neg hc] at h; cases h
      · rw [if_neg hc] at h; cases h
    · rw [if_neg hc] at h; cases h
set_option maxRecDepth 100000 in
set_option maxHeartbeats 4000000 in
theorem ev_Md_closes (g : Gx) (r : Int) (g' : Gx) (h : Md_closes g = some (r, g')) : Ev 42 0 [some (.inr (.inr 92)), none] [] g (some (.inl r)) g' := by
  rw [Md_closes] at h
  refine ev_runs 2 (0, [some (.inr (.inr 92)), none], [], g) (4, [some (.inr (.inr 92)), none], [.inl (g 92 20)], g) rfl ?_
  by_cases hc : ¬ (g 92 20) = 0
  · rw [if_pos hc] at h
    refine es (9, [some (.inr (.inr 92)), none], [], g) (congrArg some (if_pos hc)) ?_
    refine ev_runs 6 (9, [some (.inr (.inr 92)), none], [], g) (19, [some (.inr (.inr 92)), none], [.inl (wr ((g 92 20) - 1)), .inr (.inr 105)], g) rfl ?_
    by_cases hc : 0 ≤ (wr ((g 92 20) - 1)) ∧ (wr ((g 92 20) - 1)) < 4
    · rw [if_pos hc] at h
      refine es (20, [some (.inr (.inr 92)), none], [.inl (g 105 (wr ((g 92 20) - 1)).toNat)], g) (if_pos hc) ?_
      refine ev_runs 4 (20, [some (.inr (.inr 92)), none], [.inl (g 105 (wr ((g 92 20) - 1)).toNat)], g) (26, [some (.inr (.inr 92)), some (.inl (g 105 (wr ((g 92 20) - 1)).toNat))], [.inl (g 105 (wr ((g 92 20) - 1)).toNat), .inr (.inr 99)], g) rfl ?_
      by_cases hc : 0 ≤ (g 105 (wr ((g 92 20) - 1)).toNat) ∧ (g 105 (wr ((g 92 20) - 1)).toNat) < 170
      · rw [if_pos hc] at h
        refine es (27, [some (.inr (.inr 92)), some (.inl (g 105 (wr ((g 92 20) - 1)).toNat))], [.inl (g 99 (g 105 (wr ((g 92 20) - 1)).toNat).toNat)], g) (if_pos hc) ?_
        refine ev_runs 1 (27, [some (.inr (.inr 92)), some (.inl (g 105 (wr ((g 92 20) - 1)).toNat))], [.inl (g 99 (g 105 (wr ((g 92 20) - 1)).toNat).toNat)], g) (28, [some (.inr (.inr 92)), some (.inl (g 105 (wr ((g 92 20) - 1)).toNat))], [.inl 1, .inl (g 99 (g 105 (wr ((g 92 20) - 1)).toNat).toNat)], g) rfl ?_
        by_cases hc : ¬ (g 99 (g 105 (wr ((g 92 20) - 1)).toNat).toNat) = 1
        · rw [if_pos hc] at h
          refine es (43, [some (.inr (.inr 92)), some (.inl (g 105 (wr ((g 92 20) - 1)).toNat))], [], g) (congrArg some (if_pos hc)) ?_
          refine ev_runs 3 (43, [some (.inr (.inr 92)), some (.inl (g 105 (wr ((g 92 20) - 1)).toNat))], [], g) (48, [some (.inr (.inr 92)), some (.inl (g 105 (wr ((g 92 20) - 1)).toNat))], [.inl (g 105 (wr ((g 92 20) - 1)).toNat), .inr (.inr 99)], g) rfl ?_
          by_cases hc : 0 ≤ (g 105 (wr ((g 92 20) - 1)).toNat) ∧ (g 105 (wr ((g 92 20) - 1)).toNat) < 170
          · rw [if_pos hc] at h
            refine es (49, [some (.inr (.inr 92)), some (.inl (g 105 (wr ((g 92 20) - 1)).toNat))], [.inl (g 99 (g 105 (wr ((g 92 20) - 1)).toNat).toNat)], g) (if_pos hc) ?_
            refine ev_runs 1 (49, [some (.inr (.inr 92)), some (.inl (g 105 (wr ((g 92 20) - 1)).toNat))], [.inl (g 99 (g 105 (wr ((g 92 20) - 1)).toNat).toNat)], g) (50, [some (.inr (.inr 92)), some (.inl (g 105 (wr ((g 92 20) - 1)).toNat))], [.inl 3, .inl (g 99 (g 105 (wr ((g 92 20) - 1)).toNat).toNat)], g) rfl ?_
            by_cases hc : ¬ (g 99 (g 105 (wr ((g 92 20) - 1)).toNat).toNat) = 3
            · rw [if_pos hc] at h
              refine es (61, [some (.inr (.inr 92)), some (.inl (g 105 (wr ((g 92 20) - 1)).toNat))], [], g) (congrArg some (if_pos hc)) ?_
              refine ev_runs 5 (61, [some (.inr (.inr 92)), some (.inl (g 105 (wr ((g 92 20) - 1)).toNat))], [], g) (70, [some (.inr (.inr 92)), some (.inl (g 105 (wr ((g 92 20) - 1)).toNat))], [.inl (g 92 9), .inl (g 105 (wr ((g 92 20) - 1)).toNat), .inr (.inr 103)], g) rfl ?_
              by_cases hc : 0 ≤ (g 105 (wr ((g 92 20) - 1)).toNat) ∧ (g 105 (wr ((g 92 20) - 1)).toNat) < 170
              · rw [if_pos hc] at h
                refine es (71, [some (.inr (.inr 92)), some (.inl (g 105 (wr ((g 92 20) - 1)).toNat))], [], (gset g 103 ((g 105 (wr ((g 92 20) - 1)).toNat).toNat) (g 92 9))) (if_pos hc) ?_
                refine ev_runs 13 (71, [some (.inr (.inr 92)), some (.inl (g 105 (wr ((g 92 20) - 1)).toNat))], [], (gset g 103 ((g 105 (wr ((g 92 20) - 1)).toNat).toNat) (g 92 9))) (92, [some (.inr (.inr 92)), some (.inl (g 105 (wr ((g 92 20) - 1)).toNat))], [.inl 1], (gset (gset (gset g 103 ((g 105 (wr ((g 92 20) - 1)).toNat).toNat) (g 92 9)) 92 20 (wr ((g 92 20) - 1))) 92 8 (wr ((g 92 8) + 1)))) rfl ?_
                cases h
                exact er rfl
              · rw [if_neg hc] at h; cases h
            · rw [if_neg hc] at h
              refine es (53, [some (.inr (.inr 92)), some (.inl (g 105 (wr ((g 92 20) - 1)).toNat))], [], g) (congrArg some (if_neg hc)) ?_
              refine ev_runs 5 (53, [some (.inr (.inr 92)), some (.inl (g 105 (wr ((g 92 20) - 1)).toNat))], [], g) (58, [some (.inr (.inr 92)), some (.inl (g 105 (wr ((g 92 20) - 1)).toNat))], [.inl (g 105 (wr ((g 92 20) - 1)).toNat), .inl 0, .inl 0, .inl 4, .inr (.inr 92)], g) rfl ?_
              obtain ⟨g1, hq, h⟩ := Option.bind_eq_some_iff.mp h
              refine ec 37 61 [.inr (.inr 92), .inl 4, .inl 0, .inl 0, .inl (g 105 (wr ((g 92 20) - 1)).toNat)] [] rfl (ev_Md_act 4 0 0 (g 105 (wr ((g 92 20) - 1)).toNat) g g1 hq) ?_
              show Ev 42 61 [some (.inr (.inr 92)), some (.inl (g 105 (wr ((g 92 20) - 1)).toNat))] [] g1 _ _
              refine ev_runs 5 (61, [some (.inr (.inr 92)), some (.inl (g 105 (wr ((g 92 20) - 1)).toNat))], [], g1) (70, [some (.inr (.inr 92)), some (.inl (g 105 (wr ((g 92 20) - 1)).toNat))], [.inl (g1 92 9), .inl (g 105 (wr ((g 92 20) - 1)).toNat), .inr (.inr 103)], g1) rfl ?_
              by_cases hc : 0 ≤ (g 105 (wr ((g 92 20) - 1)).toNat) ∧ (g 105 (wr ((g 92 20) - 1)).toNat) < 170
              · rw [if_pos hc] at h
                refine es (71, [some (.inr (.inr 92)), some (.inl (g 105 (wr ((g 92 20) - 1)).toNat))], [], (gset g1 103 ((g 105 (wr ((g 92 20) - 1)).toNat).toNat) (g1 92 9))) (if_pos hc) ?_
                refine ev_runs 13 (71, [some (.inr (.inr 92)), some (.inl (g 105 (wr ((g 92 20) - 1)).toNat))], [], (gset g1 103 ((g 105 (wr ((g 92 20) - 1)).toNat).toNat) (g1 92 9))) (92, [some (.inr (.inr 92)), some (.inl (g 105 (wr ((g 92 20) - 1)).toNat))], [.inl 1], (gset (gset (gset g1 103 ((g 105 (wr ((g 92 20) - 1)).toNat).toNat) (g1 92 9)) 92 20 (wr ((g1 92 20) - 1))) 92 8 (wr ((g1 92 8) + 1)))) rfl ?_
                cases h
                exact er rfl
              · rw [if_neg hc] at h; cases h
          · rw [if_neg hc] at h; cases h
        · rw [if_neg hc] at h
          refine es (31, [some (.inr (.inr 92)), some (.inl (g 105 (wr ((g 92 20) - 1)).toNat))], [], g) (congrArg some (if_neg hc)) ?_
          refine ev_runs 3 (31, [some (.inr (.inr 92)), some (.inl (g 105 (wr ((g 92 20) - 1)).toNat))], [], g) (36, [some (.inr (.inr 92)), some (.inl (g 105 (wr ((g 92 20) - 1)).toNat))], [.inl (g 105 (wr ((g 92 20) - 1)).toNat), .inr (.inr 101)], g) rfl ?_
          by_cases hc : 0 ≤ (g 105 (wr ((g 92 20) - 1)).toNat) ∧ (g 105 (wr ((g 92 20) - 1)).toNat) < 170
          · rw [if_pos hc] at h
            refine es (37, [some (.inr (.inr 92)), some (.inl (g 105 (wr ((g 92 20) - 1)).toNat))], [.inl (g 101 (g 105 (wr ((g 92 20) - 1)).toNat).toNat)], g) (if_pos hc) ?_
            refine ev_runs 1 (37, [some (.inr (.inr 92)), some (.inl (g 105 (wr ((g 92 20) - 1)).toNat))], [.inl (g 101 (g 105 (wr ((g 92 20) - 1)).toNat).toNat)], g) (38, [some (.inr (.inr 92)), some (.inl (g 105 (wr ((g 92 20) - 1)).toNat))], [.inl 1, .inl (g 101 (g 105 (wr ((g 92 20) - 1)).toNat).toNat)], g) rfl ?_
            by_cases hc : ¬ (g 101 (g 105 (wr ((g 92 20) - 1)).toNat).toNat) = 1
            · rw [if_pos hc] at h
              refine es (43, [some (.inr (.inr 92)), some (.inl (g 105 (wr ((g 92 20) - 1)).toNat))], [], g) (congrArg some (if_pos hc)) ?_
              refine ev_runs 3 (43, [some (.inr (.inr 92)), some (.inl (g 105 (wr ((g 92 20) - 1)).toNat))], [], g) (48, [some (.inr (.inr 92)), some (.inl (g 105 (wr ((g 92 20) - 1)).toNat))], [.inl (g 105 (wr ((g 92 20) - 1)).toNat), .inr (.inr 99)], g) rfl ?_
              by_cases hc : 0 ≤ (g 105 (wr ((g 92 20) - 1)).toNat) ∧ (g 105 (wr ((g 92 20) - 1)).toNat) < 170
              · rw [if_pos hc] at h
                refine es (49, [some (.inr (.inr 92)), some (.inl (g 105 (wr ((g 92 20) - 1)).toNat))], [.inl (g 99 (g 105 (wr ((g 92 20) - 1)).toNat).toNat)], g) (if_pos hc) ?_
                refine ev_runs 1 (49, [some (.inr (.inr 92)), some (.inl (g 105 (wr ((g 92 20) - 1)).toNat))], [.inl (g 99 (g 105 (wr ((g 92 20) - 1)).toNat).toNat)], g) (50, [some (.inr (.inr 92)), some (.inl (g 105 (wr ((g 92 20) - 1)).toNat))], [.inl 3, .inl (g 99 (g 105 (wr ((g 92 20) - 1)).toNat).toNat)], g) rfl ?_
                by_cases hc : ¬ (g 99 (g 105 (wr ((g 92 20) - 1)).toNat).toNat) = 3
                · rw [if_pos hc] at h
                  refine es (61, [some (.inr (.inr 92)), some (.inl (g 105 (wr ((g 92 20) - 1)).toNat))], [], g) (congrArg some (if_pos hc)) ?_
                  refine ev_runs 5 (61, [some (.inr (.inr 92)), some (.inl (g 105 (wr ((g 92 20) - 1)).toNat))], [], g) (70, [some (.inr (.inr 92)), some (.inl (g 105 (wr ((g 92 20) - 1)).toNat))], [.inl (g 92 9), .inl (g 105 (wr ((g 92 20) - 1)).toNat), .inr (.inr 103)], g) rfl ?_
                  by_cases hc : 0 ≤ (g 105 (wr ((g 92 20) - 1)).toNat) ∧ (g 105 (wr ((g 92 20) - 1)).toNat) < 170
                  · rw [if_pos hc] at h
                    refine es (71, [some (.inr (.inr 92)), some (.inl (g 105 (wr ((g 92 20) - 1)).toNat))], [], (gset g 103 ((g 105 (wr ((g 92 20) - 1)).toNat).toNat) (g 92 9))) (if_pos hc) ?_
                    refine ev_runs 13 (71, [some (.inr (.inr 92)), some (.inl (g 105 (wr ((g 92 20) - 1)).toNat))], [], (gset g 103 ((g 105 (wr ((g 92 20) - 1)).toNat).toNat) (g 92 9))) (92, [some (.inr (.inr 92)), some (.inl (g 105 (wr ((g 92 20) - 1)).toNat))], [.inl 1], (gset (gset (gset g 103 ((g 105 (wr ((g 92 20) - 1)).toNat).toNat) (g 92 9)) 92 20 (wr ((g 92 20) - 1))) 92 8 (wr ((g 92 8) + 1)))) rfl ?_
                    cases h
                    exact er rfl
                  · rw [if_neg hc] at h; cases h
                · rw [if_neg hc] at h
                  refine es (53, [some (.inr (.inr 92)), some (.inl (g 105 (wr ((g 92 20) - 1)).toNat))], [], g) (congrArg some (if_neg hc)) ?_
                  refine ev_runs 5 (53, [some (.inr (.inr 92)), some (.inl (g 105 (wr ((g 92 20) - 1)).toNat))], [], g) (58, [some (.inr (.inr 92)), some (.inl (g 105 (wr ((g 92 20) - 1)).toNat))], [.inl (g 105 (wr ((g 92 20) - 1)).toNat), .inl 0, .inl 0, .inl 4, .inr (.inr 92)], g) rfl ?_
                  obtain ⟨g2, hq, h⟩ := Option.bind_eq_some_iff.mp h
                  refine ec 37 61 [.inr (.inr 92), .inl 4, .inl 0, .inl 0, .inl (g 105 (wr ((g 92 20) - 1)).toNat)] [] rfl (ev_Md_act 4 0 0 (g 105 (wr ((g 92 20) - 1)).toNat) g g2 hq) ?_
                  show Ev 42 61 [some (.inr (.inr 92)), some (.inl (g 105 (wr ((g 92 20) - 1)).toNat))] [] g2 _ _
                  refine ev_runs 5 (61, [some (.inr (.inr 92)), some (.inl (g 105 (wr ((g 92 20) - 1)).toNat))], [], g2) (70, [some (.inr (.inr 92)), some (.inl (g 105 (wr ((g 92 20) - 1)).toNat))], [.inl (g2 92 9), .inl (g 105 (wr ((g 92 20) - 1)).toNat), .inr (.inr 103)], g2) rfl ?_
                  by_cases hc : 0 ≤ (g 105 (wr ((g 92 20) - 1)).toNat) ∧ (g 105 (wr ((g 92 20) - 1)).toNat) < 170
                  · rw [if_pos hc] at h
                    refine es (71, [some (.inr (.inr 92)), some (.inl (g 105 (wr ((g 92 20) - 1)).toNat))], [], (gset g2 103 ((g 105 (wr ((g 92 20) - 1)).toNat).toNat) (g2 92 9))) (if_pos hc) ?_
                    refine ev_runs 13 (71, [some (.inr (.inr 92)), some (.inl (g 105 (wr ((g 92 20) - 1)).toNat))], [], (gset g2 103 ((g 105 (wr ((g 92 20) - 1)).toNat).toNat) (g2 92 9))) (92, [some (.inr (.inr 92)), some (.inl (g 105 (wr ((g 92 20) - 1)).toNat))], [.inl 1], (gset (gset (gset g2 103 ((g 105 (wr ((g 92 20) - 1)).toNat).toNat) (g2 92 9)) 92 20 (wr ((g2 92 20) - 1))) 92 8 (wr ((g2 92 8) + 1)))) rfl ?_
                    cases h
                    exact er rfl
                  · rw [if_neg hc] at h; cases h
              · rw [if_neg hc] at h; cases h
            · rw [if_neg hc] at h
              refine es (41, [some (.inr (.inr 92)), some (.inl (g 105 (wr ((g 92 20) - 1)).toNat))], [], g) (congrArg some (if_neg hc)) ?_
              refine ev_runs 1 (41, [some (.inr (.inr 92)), some (.inl (g 105 (wr ((g 92 20) - 1)).toNat))], [], g) (42, [some (.inr (.inr 92)), some (.inl (g 105 (wr ((g 92 20) - 1)).toNat))], [.inl 0], g) rfl ?_
              cases h
              exact er rfl
          · rw [if_neg hc] at h; cases h
      · rw [if_neg hc] at h; cases h
    · rw [if_neg hc] at h; cases h
  · rw [if_neg hc] at h
    refine es (7, [some (.inr (.inr 92)), none], [], g) (congrArg some (if_neg hc)) ?_
    refine ev_runs 1 (7, [some (.inr (.inr 92)), none], [], g) (8, [some (.inr (.inr 92)), none], [.inl 0], g) rfl ?_
    cases h
    exact er rfl
set_option maxRecDepth 100000 in
set_option maxHeartbeats 4000000 in
theorem ev_Md_reads_l32 (K32_156 : Gx → Option (Int × Gx)) (K32_161 : Gx → Option (Int × Gx)) (hK32_156 : ∀ (g : Gx) (r : Int) (g' : Gx), K32_156 g = some (r, g') → Ev 43 156 [some (.inr (.inr 92)), none, none] [] g (some (.inl r)) g') (hK32_161 : ∀ (g : Gx) (r : Int) (g' : Gx), K32_161 g = some (r, g') → Ev 43 161 [some (.inr (.inr 92)), none, none] [] g (some (.inl r)) g') : ∀ (n32 : Nat) (v1 : Int) (g : Gx) (r : Int) (g' : Gx), Md_reads_l32 K32_156 K32_161 n32 v1 g = some (r, g') → Ev 43 32 [some (.inr (.inr 92)), some (.inl v1), none] [] g (some (.inl r)) g' := by
  intro n32
  induction n32 with
  | zero => intro v1 g r g' h; cases h
  | succ n32 ih32 =>
    intro v1 g r g' h
    rw [Md_reads_l32] at h
    refine ev_runs 1 (32, [some (.inr (.inr 92)), some (.inl v1), none], [], g) (33, [some (.inr (.inr 92)), some (.inl v1), none], [.inl v1], g) rfl ?_
    by_cases hc : ¬ v1 = 0
    · rw [if_pos hc] at h
      refine es (49, [some (.inr (.inr 92)), some (.inl v1), none], [], g) (congrArg some (if_pos hc)) ?_
      refine ev_runs 1 (49, [some (.inr (.inr 92)), some (.inl v1), none], [], g) (50, [some (.inr (.inr 92)), some (.inl v1), none], [.inl v1], g) rfl ?_
      by_cases hc : v1 = 0
      · rw [if_pos hc] at h
        refine es (87, [some (.inr (.inr 92)), some (.inl v1), none], [], g) (congrArg some (if_pos hc)) ?_
        refine ev_runs 2 (87, [some (.inr (.inr 92)), some (.inl v1), none], [], g) (89, [some (.inr (.inr 92)), some (.inl v1), none], [.inl 0, .inr (.inr 92)], g) rfl ?_
        obtain ⟨q1, hq, h⟩ := Option.bind_eq_some_iff.mp h
        refine ec 36 92 [.inr (.inr 92), .inl 0] [] rfl (ev_Md_here 0 g q1.1 q1.2 hq) ?_
        show Ev 43 92 [some (.inr (.inr 92)), some (.inl v1), none] [.inl q1.1] q1.2 _ _
        refine ev_runs 1 (92, [some (.inr (.inr 92)), some (.inl v1), none], [.inl q1.1], q1.2) (94, [some (.inr (.inr 92)), some (.inl v1), none], [.inl 44, .inl q1.1], q1.2) rfl ?_
        by_cases hc : ¬ q1.1 = 44
        · rw [if_pos hc] at h
          refine es (112, [some (.inr (.inr 92)), some (.inl v1), none], [], q1.2) (congrArg some (if_pos hc)) ?_
          refine ev_runs 2 (112, [some (.inr (.inr 92)), some (.inl v1), none], [], q1.2) (114, [some (.inr (.inr 92)), some (.inl v1), none], [.inl 0, .inr (.inr 92)], q1.2) rfl ?_
          obtain ⟨q2, hq, h⟩ := Option.bind_eq_some_iff.mp h
          refine ec 36 117 [.inr (.inr 92), .inl 0] [] rfl (ev_Md_here 0 q1.2 q2.1 q2.2 hq) ?_
          show Ev 43 117 [some (.inr (.inr 92)), some (.inl v1), none] [.inl q2.1] q2.2 _ _
          refine ev_runs 1 (117, [some (.inr (.inr 92)), some (.inl v1), none], [.inl q2.1], q2.2) (119, [some (.inr (.inr 92)), some (.inl v1), none], [.inl 124, .inl q2.1], q2.2) rfl ?_
          by_cases hc : ¬ q2.1 = 124
          · rw [if_pos hc] at h
            refine es (139, [some (.inr (.inr 92)), some (.inl v1), none], [], q2.2) (congrArg some (if_pos hc)) ?_
            refine ev_runs 2 (139, [some (.inr (.inr 92)), some (.inl v1), none], [], q2.2) (141, [some (.inr (.inr 92)), some (.inl v1), none], [.inl 0, .inr (.inr 92)], q2.2) rfl ?_
            obtain ⟨q3, hq, h⟩ := Option.bind_eq_some_iff.mp h
            refine ec 36 144 [.inr (.inr 92), .inl 0] [] rfl (ev_Md_here 0 q2.2 q3.1 q3.2 hq) ?_
            show Ev 43 144 [some (.inr (.inr 92)), some (.inl v1), none] [.inl q3.1] q3.2 _ _
            refine ev_runs 1 (144, [some (.inr (.inr 92)), some (.inl v1), none], [.inl q3.1], q3.2) (146, [some (.inr (.inr 92)), some (.inl v1), none], [.inl 41, .inl q3.1], q3.2) rfl ?_
            by_cases hc : ¬ q3.1 = 41
            · rw [if_pos hc] at h
              refine es (156, [some (.inr (.inr 92)), some (.inl v1), none], [], q3.2) (congrArg some (if_pos hc)) ?_
              exact ev_le (L := [some (.inr (.inr 92)), none, none]) (by simp [Lle]) (hK32_156 q3.2 r g' h)
            · rw [if_neg hc] at h
              refine es (149, [some (.inr (.inr 92)), some (.inl v1), none], [], q3.2) (congrArg some (if_neg hc)) ?_
              refine ev_runs 1 (149, [some (.inr (.inr 92)), some (.inl v1), none], [], q3.2) (150, [some (.inr (.inr 92)), some (.inl v1), none], [.inr (.inr 92)], q3.2) rfl ?_
              obtain ⟨q4, hq, h⟩ := Option.bind_eq_some_iff.mp h
              refine ec 42 153 [.inr (.inr 92)] [] rfl (ev_Md_closes q3.2 q4.1 q4.2 hq) ?_
              show Ev 43 153 [some (.inr (.inr 92)), some (.inl v1), none] [.inl q4.1] q4.2 _ _
              by_cases hc : ¬ q4.1 = 0
              · rw [if_pos hc] at h
                refine es (32, [some (.inr (.inr 92)), some (.inl v1), none], [], q4.2) (congrArg some (if_pos hc)) ?_
                exact ev_le (L := [some (.inr (.inr 92)), some (.inl v1), none]) (by simp [Lle]) (ih32 v1 q4.2 r g' h)
              · rw [if_neg hc] at h
                refine es (156, [some (.inr (.inr 92)), some (.inl v1), none], [], q4.2) (congrArg some (if_neg hc)) ?_
                exact ev_le (L := [some (.inr (.inr 92)), none, none]) (by simp [Lle]) (hK32_156 q4.2 r g' h)
          · rw [if_neg hc] at h
            refine es (122, [some (.inr (.inr 92)), some (.inl v1), none], [], q2.2) (congrArg some (if_neg hc)) ?_
            refine ev_runs 1 (122, [some (.inr (.inr 92)), some (.inl v1), none], [], q2.2) (123, [some (.inr (.inr 92)), some (.inl v1), none], [.inr (.inr 92)], q2.2) rfl ?_
            obtain ⟨q5, hq, h⟩ := Option.bind_eq_some_iff.mp h
            refine ec 41 126 [.inr (.inr 92)] [] rfl (ev_Md_wayMore q2.2 q5.1 q5.2 hq) ?_
            show Ev 43 126 [some (.inr (.inr 92)), some (.inl v1), none] [.inl q5.1] q5.2 _ _
            by_cases hc : ¬ q5.1 = 0
            · rw [if_pos hc] at h
              refine es (134, [some (.inr (.inr 92)), some (.inl v1), none], [], q5.2) (congrArg some (if_pos hc)) ?_
              refine ev_runs 3 (134, [some (.inr (.inr 92)), some (.inl v1), none], [], q5.2) (32, [some (.inr (.inr 92)), some (.inl 1), none], [], q5.2) rfl ?_
              exact ev_le (L := [some (.inr (.inr 92)), some (.inl 1), none]) (by simp [Lle]) (ih32 1 q5.2 r g' h)
            · rw [if_neg hc] at h
              refine es (129, [some (.inr (.inr 92)), some (.inl v1), none], [], q5.2) (congrArg some (if_neg hc)) ?_
              refine ev_runs 2 (129, [some (.inr (.inr 92)), some (.inl v1), none], [], q5.2) (133, [some (.inr (.inr 92)), some (.inl v1), none], [.inl (q5.2 92 8)], q5.2) rfl ?_
              cases h
              exact er rfl
        · rw [if_neg hc] at h
          refine es (97, [some (.inr (.inr 92)), some (.inl v1), none], [], q1.2) (congrArg some (if_neg hc)) ?_
          refine ev_runs 9 (97, [some (.inr (.inr 92)), some (.inl v1), none], [], q1.2) (32, [some (.inr (.inr 92)), some (.inl 1), none], [], (gset q1.2 92 8 (wr ((q1.2 92 8) + 1)))) rfl ?_
          exact ev_le (L := [some (.inr (.inr 92)), some (.inl 1), none]) (by simp [Lle]) (ih32 1 (gset q1.2 92 8 (wr ((q1.2 92 8) + 1))) r g' h)
      · rw [if_neg hc] at h
        refine es (53, [some (.inr (.inr 92)), some (.inl v1), none], [], g) (congrArg some (if_neg hc)) ?_
        refine ev_runs 4 (53, [some (.inr (.inr 92)), some (.inl v1), none], [], g) (59, [some (.inr (.inr 92)), some (.inl v1), some (.inl (g 92 20))], [.inr (.inr 92)], g) rfl ?_
        obtain ⟨q6, hq, h⟩ := Option.bind_eq_some_iff.mp h
        refine ec 40 62 [.inr (.inr 92)] [] rfl (ev_Md_readsItem g q6.1 q6.2 hq) ?_
        show Ev 43 62 [some (.inr (.inr 92)), some (.inl v1), some (.inl (g 92 20))] [.inl q6.1] q6.2 _ _
        by_cases hc : ¬ q6.1 = 0
        · rw [if_pos hc] at h
          refine es (70, [some (.inr (.inr 92)), some (.inl v1), some (.inl (g 92 20))], [], q6.2) (congrArg some (if_pos hc)) ?_
          refine ev_runs 3 (70, [some (.inr (.inr 92)), some (.inl v1), some (.inl (g 92 20))], [], q6.2) (75, [some (.inr (.inr 92)), some (.inl v1), some (.inl (g 92 20))], [.inl (g 92 20), .inl (q6.2 92 20)], q6.2) rfl ?_
          by_cases hc : (q6.2 92 20) ≤ (g 92 20)
          · rw [if_pos hc] at h
            refine es (82, [some (.inr (.inr 92)), some (.inl v1), some (.inl (g 92 20))], [], q6.2) (congrArg some (if_pos hc)) ?_
            refine ev_runs 3 (82, [some (.inr (.inr 92)), some (.inl v1), some (.inl (g 92 20))], [], q6.2) (32, [some (.inr (.inr 92)), some (.inl 0), some (.inl (g 92 20))], [], q6.2) rfl ?_
            exact ev_le (L := [some (.inr (.inr 92)), some (.inl 0), none]) (by simp [Lle]) (ih32 0 q6.2 r g' h)
          · rw [if_neg hc] at h
            refine es (78, [some (.inr (.inr 92)), some (.inl v1), some (.inl (g 92 20))], [], q6.2) (congrArg some (if_neg hc)) ?_
            refine ev_runs 4 (78, [some (.inr (.inr 92)), some (.inl v1), some (.inl (g 92 20))], [], q6.2) (32, [some (.inr (.inr 92)), some (.inl 1), some (.inl (g 92 20))], [], q6.2) rfl ?_
            exact ev_le (L := [some (.inr (.inr 92)), some (.inl 1), none]) (by simp [Lle]) (ih32 1 q6.2 r g' h)
        · rw [if_neg hc] at h
          refine es (65, [some (.inr (.inr 92)), some (.inl v1), some (.inl (g 92 20))], [], q6.2) (congrArg some (if_neg hc)) ?_
          refine ev_runs 2 (65, [some (.inr (.inr 92)), some (.inl v1), some (.inl (g 92 20))], [], q6.2) (69, [some (.inr (.inr 92)), some (.inl v1), some (.inl (g 92 20))], [.inl (q6.2 92 8)], q6.2) rfl ?_
          cases h
          exact er rfl
    · rw [if_neg hc] at h
      refine es (36, [some (.inr (.inr 92)), some (.inl v1), none], [], g) (congrArg some (if_neg hc)) ?_
      refine ev_runs 6 (36, [some (.inr (.inr 92)), some (.inl v1), none], [], g) (46, [some (.inr (.inr 92)), some (.inl v1), none], [.inl (g 98 0), .inl (g 92 8)], g) rfl ?_
      by_cases hc : (g 98 0) ≤ (g 92 8)
      · rw [if_pos hc] at h
        refine es (161, [some (.inr (.inr 92)), some (.inl v1), none], [], g) (congrArg some (if_pos hc)) ?_
        exact ev_le (L := [some (.inr (.inr 92)), none, none]) (by simp [Lle]) (hK32_161 g r g' h)
      · rw [if_neg hc] at h
        refine es (49, [some (.inr (.inr 92)), some (.inl v1), none], [], g) (congrArg some (if_neg hc)) ?_
        refine ev_runs 1 (49, [some (.inr (.inr 92)), some (.inl v1), none], [], g) (50, [some (.inr (.inr 92)), some (.inl v1), none], [.inl v1], g) rfl ?_
        by_cases hc : v1 = 0
        · rw [if_pos hc] at h
          refine es (87, [some (.inr (.inr 92)), some (.inl v1), none], [], g) (congrArg some (if_pos hc)) ?_
          refine ev_runs 2 (87, [some (.inr (.inr 92)), some (.inl v1), none], [], g) (89, [some (.inr (.inr 92)), some (.inl v1), none], [.inl 0, .inr (.inr 92)], g) rfl ?_
          obtain ⟨q7, hq, h⟩ := Option.bind_eq_some_iff.mp h
          refine ec 36 92 [.inr (.inr 92), .inl 0] [] rfl (ev_Md_here 0 g q7.1 q7.2 hq) ?_
          show Ev 43 92 [some (.inr (.inr 92)), some (.inl v1), none] [.inl q7.1] q7.2 _ _
          refine ev_runs 1 (92, [some (.inr (.inr 92)), some (.inl v1), none], [.inl q7.1], q7.2) (94, [some (.inr (.inr 92)), some (.inl v1), none], [.inl 44, .inl q7.1], q7.2) rfl ?_
          by_cases hc : ¬ q7.1 = 44
          · rw [if_pos hc] at h
            refine es (112, [some (.inr (.inr 92)), some (.inl v1), none], [], q7.2) (congrArg some (if_pos hc)) ?_
            refine ev_runs 2 (112, [some (.inr (.inr 92)), some (.inl v1), none], [], q7.2) (114, [some (.inr (.inr 92)), some (.inl v1), none], [.inl 0, .inr (.inr 92)], q7.2) rfl ?_
            obtain ⟨q8, hq, h⟩ := Option.bind_eq_some_iff.mp h
            refine ec 36 117 [.inr (.inr 92), .inl 0] [] rfl (ev_Md_here 0 q7.2 q8.1 q8.2 hq) ?_
            show Ev 43 117 [some (.inr (.inr 92)), some (.inl v1), none] [.inl q8.1] q8.2 _ _
            refine ev_runs 1 (117, [some (.inr (.inr 92)), some (.inl v1), none], [.inl q8.1], q8.2) (119, [some (.inr (.inr 92)), some (.inl v1), none], [.inl 124, .inl q8.1], q8.2) rfl ?_
            by_cases hc : ¬ q8.1 = 124
            · rw [if_pos hc] at h
              refine es (139, [some (.inr (.inr 92)), some (.inl v1), none], [], q8.2) (congrArg some (if_pos hc)) ?_
              refine ev_runs 2 (139, [some (.inr (.inr 92)), some (.inl v1), none], [], q8.2) (141, [some (.inr (.inr 92)), some (.inl v1), none], [.inl 0, .inr (.inr 92)], q8.2) rfl ?_
              obtain ⟨q9, hq, h⟩ := Option.bind_eq_some_iff.mp h
              refine ec 36 144 [.inr (.inr 92), .inl 0] [] rfl (ev_Md_here 0 q8.2 q9.1 q9.2 hq) ?_
              show Ev 43 144 [some (.inr (.inr 92)), some (.inl v1), none] [.inl q9.1] q9.2 _ _
              refine ev_runs 1 (144, [some (.inr (.inr 92)), some (.inl v1), none], [.inl q9.1], q9.2) (146, [some (.inr (.inr 92)), some (.inl v1), none], [.inl 41, .inl q9.1], q9.2) rfl ?_
              by_cases hc : ¬ q9.1 = 41
              · rw [if_pos hc] at h
                refine es (156, [some (.inr (.inr 92)), some (.inl v1), none], [], q9.2) (congrArg some (if_pos hc)) ?_
                exact ev_le (L := [some (.inr (.inr 92)), none, none]) (by simp [Lle]) (hK32_156 q9.2 r g' h)
              · rw [if_neg hc] at h
                refine es (149, [some (.inr (.inr 92)), some (.inl v1), none], [], q9.2) (congrArg some (if_neg hc)) ?_
                refine ev_runs 1 (149, [some (.inr (.inr 92)), some (.inl v1), none], [], q9.2) (150, [some (.inr (.inr 92)), some (.inl v1), none], [.inr (.inr 92)], q9.2) rfl ?_
                obtain ⟨q10, hq, h⟩ := Option.bind_eq_some_iff.mp h
                refine ec 42 153 [.inr (.inr 92)] [] rfl (ev_Md_closes q9.2 q10.1 q10.2 hq) ?_
                show Ev 43 153 [some (.inr (.inr 92)), some (.inl v1), none] [.inl q10.1] q10.2 _ _
                by_cases hc : ¬ q10.1 = 0
                · rw [if_pos hc] at h
                  refine es (32, [some (.inr (.inr 92)), some (.inl v1), none], [], q10.2) (congrArg some (if_pos hc)) ?_
                  exact ev_le (L := [some (.inr (.inr 92)), some (.inl v1), none]) (by simp [Lle]) (ih32 v1 q10.2 r g' h)
                · rw [if_neg hc] at h
                  refine es (156, [some (.inr (.inr 92)), some (.inl v1), none], [], q10.2) (congrArg some (if_neg hc)) ?_
                  exact ev_le (L := [some (.inr (.inr 92)), none, none]) (by simp [Lle]) (hK32_156 q10.2 r g' h)
            · rw [if_neg hc] at h
              refine es (122, [some (.inr (.inr 92)), some (.inl v1), none], [], q8.2) (congrArg some (if_neg hc)) ?_
              refine ev_runs 1 (122, [some (.inr (.inr 92)), some (.inl v1), none], [], q8.2) (123, [some (.inr (.inr 92)), some (.inl v1), none], [.inr (.inr 92)], q8.2) rfl ?_
              obtain ⟨q11, hq, h⟩ := Option.bind_eq_some_iff.mp h
              refine ec 41 126 [.inr (.inr 92)] [] rfl (ev_Md_wayMore q8.2 q11.1 q11.2 hq) ?_
              show Ev 43 126 [some (.inr (.inr 92)), some (.inl v1), none] [.inl q11.1] q11.2 _ _
              by_cases hc : ¬ q11.1 = 0
              · rw [if_pos hc] at h
                refine es (134, [some (.inr (.inr 92)), some (.inl v1), none], [], q11.2) (congrArg some (if_pos hc)) ?_
                refine ev_runs 3 (134, [some (.inr (.inr 92)), some (.inl v1), none], [], q11.2) (32, [some (.inr (.inr 92)), some (.inl 1), none], [], q11.2) rfl ?_
                exact ev_le (L := [some (.inr (.inr 92)), some (.inl 1), none]) (by simp [Lle]) (ih32 1 q11.2 r g' h)
              · rw [if_neg hc] at h
                refine es (129, [some (.inr (.inr 92)), some (.inl v1), none], [], q11.2) (congrArg some (if_neg hc)) ?_
                refine ev_runs 2 (129, [some (.inr (.inr 92)), some (.inl v1), none], [], q11.2) (133, [some (.inr (.inr 92)), some (.inl v1), none], [.inl (q11.2 92 8)], q11.2) rfl ?_
                cases h
                exact er rfl
          · rw [if_neg hc] at h
            refine es (97, [some (.inr (.inr 92)), some (.inl v1), none], [], q7.2) (congrArg some (if_neg hc)) ?_
            refine ev_runs 9 (97, [some (.inr (.inr 92)), some (.inl v1), none], [], q7.2) (32, [some (.inr (.inr 92)), some (.inl 1), none], [], (gset q7.2 92 8 (wr ((q7.2 92 8) + 1)))) rfl ?_
            exact ev_le (L := [some (.inr (.inr 92)), some (.inl 1), none]) (by simp [Lle]) (ih32 1 (gset q7.2 92 8 (wr ((q7.2 92 8) + 1))) r g' h)
        · rw [if_neg hc] at h
          refine es (53, [some (.inr (.inr 92)), some (.inl v1), none], [], g) (congrArg some (if_neg hc)) ?_
          refine ev_runs 4 (53, [some (.inr (.inr 92)), some (.inl v1), none], [], g) (59, [some (.inr (.inr 92)), some (.inl v1), some (.inl (g 92 20))], [.inr (.inr 92)], g) rfl ?_
          obtain ⟨q12, hq, h⟩ := Option.bind_eq_some_iff.mp h
          refine ec 40 62 [.inr (.inr 92)] [] rfl (ev_Md_readsItem g q12.1 q12.2 hq) ?_
          show Ev 43 62 [some (.inr (.inr 92)), some (.inl v1), some (.inl (g 92 20))] [.inl q12.1] q12.2 _ _
          by_cases hc : ¬ q12.1 = 0
          · rw [if_pos hc] at h
            refine es (70, [some (.inr (.inr 92)), some (.inl v1), some (.inl (g 92 20))], [], q12.2) (congrArg some (if_pos hc)) ?_
            refine ev_runs 3 (70, [some (.inr (.inr 92)), some (.inl v1), some (.inl (g 92 20))], [], q12.2) (75, [some (.inr (.inr 92)), some (.inl v1), some (.inl (g 92 20))], [.inl (g 92 20), .inl (q12.2 92 20)], q12.2) rfl ?_
            by_cases hc : (q12.2 92 20) ≤ (g 92 20)
            · rw [if_pos hc] at h
              refine es (82, [some (.inr (.inr 92)), some (.inl v1), some (.inl (g 92 20))], [], q12.2) (congrArg some (if_pos hc)) ?_
              refine ev_runs 3 (82, [some (.inr (.inr 92)), some (.inl v1), some (.inl (g 92 20))], [], q12.2) (32, [some (.inr (.inr 92)), some (.inl 0), some (.inl (g 92 20))], [], q12.2) rfl ?_
              exact ev_le (L := [some (.inr (.inr 92)), some (.inl 0), none]) (by simp [Lle]) (ih32 0 q12.2 r g' h)
            · rw [if_neg hc] at h
              refine es (78, [some (.inr (.inr 92)), some (.inl v1), some (.inl (g 92 20))], [], q12.2) (congrArg some (if_neg hc)) ?_
              refine ev_runs 4 (78, [some (.inr (.inr 92)), some (.inl v1), some (.inl (g 92 20))], [], q12.2) (32, [some (.inr (.inr 92)), some (.inl 1), some (.inl (g 92 20))], [], q12.2) rfl ?_
              exact ev_le (L := [some (.inr (.inr 92)), some (.inl 1), none]) (by simp [Lle]) (ih32 1 q12.2 r g' h)
          · rw [if_neg hc] at h
            refine es (65, [some (.inr (.inr 92)), some (.inl v1), some (.inl (g 92 20))], [], q12.2) (congrArg some (if_neg hc)) ?_
            refine ev_runs 2 (65, [some (.inr (.inr 92)), some (.inl v1), some (.inl (g 92 20))], [], q12.2) (69, [some (.inr (.inr 92)), some (.inl v1), some (.inl (g 92 20))], [.inl (q12.2 92 8)], q12.2) rfl ?_
            cases h
            exact er rfl
set_option maxRecDepth 100000 in
set_option maxHeartbeats 4000000 in
theorem ev_Md_reads (g : Gx) (r : Int) (g' : Gx) (h : Md_reads g = some (r, g')) : Ev 43 0 [some (.inr (.inr 92)), none, none] [] g (some (.inl r)) g' := by
  rw [Md_reads] at h
  refine ev_runs 20 (0, [some (.inr (.inr 92)), none, none], [], g) (32, [some (.inr (.inr 92)), some (.inl 1), none], [], (gset (gset (gset (gset (gset (gset g 92 8 0) 92 9 0) 92 16 0) 92 17 0) 92 18 0) 92 20 0)) rfl ?_
  refine ev_le (L := [some (.inr (.inr 92)), some (.inl 1), none]) (by simp [Lle]) ?_
  refine ev_Md_reads_l32 _ _ ?_ ?_ fu 1 (gset (gset (gset (gset (gset (gset g 92 8 0) 92 9 0) 92 16 0) 92 17 0) 92 18 0) 92 20 0) r g' h
  · intro g13 r g' h
    refine ev_runs 2 (156, [some (.inr (.inr 92)), none, none], [], g13) (160, [some (.inr (.inr 92)), none, none], [.inl (g13 92 8)], g13) rfl ?_
    cases h
    exact er rfl
  · intro g14 r g' h
    refine ev_runs 2 (161, [some (.inr (.inr 92)), none, none], [], g14) (165, [some (.inr (.inr 92)), none, none], [.inl (g14 92 20)], g14) rfl ?_
    by_cases hc : ¬ (g14 92 20) = 0
    · rw [if_pos hc] at h
      refine es (172, [some (.inr (.inr 92)), none, none], [], g14) (congrArg some (if_pos hc)) ?_
      refine ev_runs 2 (172, [some (.inr (.inr 92)), none, none], [], g14) (176, [some (.inr (.inr 92)), none, none], [.inl (g14 92 8)], g14) rfl ?_
      cases h
      exact er rfl
    · rw [if_neg hc] at h
      refine es (168, [some (.inr (.inr 92)), none, none], [], g14) (congrArg some (if_neg hc)) ?_
      refine ev_runs 2 (168, [some (.inr (.inr 92)), none, none], [], g14) (176, [some (.inr (.inr 92)), none, none], [.inl (-1)], g14) rfl ?_
      cases h
      exact er rfl
set_option maxRecDepth 100000 in
set_option maxHeartbeats 4000000 in
theorem ev_Md_readsProgram_l17 (K17_251 : Gx → Option (Int × Gx)) (hK17_251 : ∀ (g : Gx) (r : Int) (g' : Gx), K17_251 g = some (r, g') → Ev 44 251 [none, none, none] [] g (some (.inl r)) g') : ∀ (n17 : Nat) (g : Gx) (r : Int) (g' : Gx), Md_readsProgram_l17 K17_251 n17 g = some (r, g') → Ev 44 17 [some (.inr (.inr 92)), none, none] [] g (some (.inl r)) g' := by
  intro n17
  induction n17 with
  | zero => intro g r g' h; cases h
  | succ n17 ih17 =>
    intro g r g' h
    rw [Md_readsProgram_l17] at h
    refine ev_runs 6 (17, [some (.inr (.inr 92)), none, none], [], g) (27, [some (.inr (.inr 92)), none, none], [.inl (g 98 1), .inl (g 92 8)], g) rfl ?_
    by_cases hc : (g 98 1) ≤ (g 92 8)
    · rw [if_pos hc] at h
      refine es (251, [some (.inr (.inr 92)), none, none], [], g) (congrArg some (if_pos hc)) ?_
      exact ev_le (L := [none, none, none]) (by simp [Lle]) (hK17_251 g r g' h)
    · rw [if_neg hc] at h
      refine es (30, [some (.inr (.inr 92)), none, none], [], g) (congrArg some (if_neg hc)) ?_
      refine ev_runs 2 (30, [some (.inr (.inr 92)), none, none], [], g) (32, [some (.inr (.inr 92)), none, none], [.inl 1, .inr (.inr 92)], g) rfl ?_
      obtain ⟨q1, hq, h⟩ := Option.bind_eq_some_iff.mp h
      refine ec 36 35 [.inr (.inr 92), .inl 1] [] rfl (ev_Md_here 1 g q1.1 q1.2 hq) ?_
      show Ev 44 35 [some (.inr (.inr 92)), none, none] [.inl q1.1] q1.2 _ _
      refine ev_runs 1 (35, [some (.inr (.inr 92)), none, none], [.inl q1.1], q1.2) (37, [some (.inr (.inr 92)), none, none], [.inl 124, .inl q1.1], q1.2) rfl ?_
      by_cases hc : ¬ q1.1 = 124
      · rw [if_pos hc] at h
        refine es (87, [some (.inr (.inr 92)), none, none], [], q1.2) (congrArg some (if_pos hc)) ?_
        refine ev_runs 2 (87, [some (.inr (.inr 92)), none, none], [], q1.2) (89, [some (.inr (.inr 92)), none, none], [.inl 1, .inr (.inr 92)], q1.2) rfl ?_
        obtain ⟨q2, hq, h⟩ := Option.bind_eq_some_iff.mp h
        refine ec 36 92 [.inr (.inr 92), .inl 1] [] rfl (ev_Md_here 1 q1.2 q2.1 q2.2 hq) ?_
        show Ev 44 92 [some (.inr (.inr 92)), none, none] [.inl q2.1] q2.2 _ _
        refine ev_runs 3 (92, [some (.inr (.inr 92)), none, none], [.inl q2.1], q2.2) (96, [some (.inr (.inr 92)), some (.inl q2.1), none], [.inl 33, .inl q2.1], q2.2) rfl ?_
        by_cases hc : q2.1 = 33
        · rw [if_pos hc] at h
          refine es (110, [some (.inr (.inr 92)), some (.inl q2.1), none], [], q2.2) (congrArg some (if_pos hc)) ?_
          refine ev_runs 8 (110, [some (.inr (.inr 92)), some (.inl q2.1), none], [], q2.2) (122, [some (.inr (.inr 92)), some (.inl q2.1), none], [.inl 1, .inr (.inr 92)], (gset q2.2 92 8 (wr ((q2.2 92 8) + 1)))) rfl ?_
          obtain ⟨q3, hq, h⟩ := Option.bind_eq_some_iff.mp h
          refine ec 39 125 [.inr (.inr 92), .inl 1] [] rfl (ev_Md_isTalker 1 (gset q2.2 92 8 (wr ((q2.2 92 8) + 1))) q3.1 q3.2 hq) ?_
          show Ev 44 125 [some (.inr (.inr 92)), some (.inl q2.1), none] [.inl q3.1] q3.2 _ _
          by_cases hc : ¬ q3.1 = 0
          · rw [if_pos hc] at h
            refine es (133, [some (.inr (.inr 92)), some (.inl q2.1), none], [], q3.2) (congrArg some (if_pos hc)) ?_
            refine ev_runs 12 (133, [some (.inr (.inr 92)), some (.inl q2.1), none], [], q3.2) (152, [some (.inr (.inr 92)), some (.inl q2.1), none], [.inl (wr ((q3.2 92 21) - 1)), .inr (.inr 106), .inl (wr (30 * (wr ((q3.2 92 21) - 1))))], q3.2) rfl ?_
            by_cases hc : 0 ≤ (wr ((q3.2 92 21) - 1)) ∧ (wr ((q3.2 92 21) - 1)) < 8
            · rw [if_pos hc] at h
              refine es (153, [some (.inr (.inr 92)), some (.inl q2.1), none], [.inl (q3.2 106 (wr ((q3.2 92 21) - 1)).toNat), .inl (wr (30 * (wr ((q3.2 92 21) - 1))))], q3.2) (if_pos hc) ?_
              refine ev_runs 6 (153, [some (.inr (.inr 92)), some (.inl q2.1), none], [.inl (q3.2 106 (wr ((q3.2 92 21) - 1)).toNat), .inl (wr (30 * (wr ((q3.2 92 21) - 1))))], q3.2) (161, [some (.inr (.inr 92)), some (.inl q2.1), some (.inl (wr ((wr (30 * (wr ((q3.2 92 21) - 1)))) + (q3.2 106 (wr ((q3.2 92 21) - 1)).toNat))))], [.inl q2.1, .inl (wr ((wr (30 * (wr ((q3.2 92 21) - 1)))) + (q3.2 106 (wr ((q3.2 92 21) - 1)).toNat))), .inr (.inr 107)], q3.2) rfl ?_
              by_cases hc : 0 ≤ (wr ((wr (30 * (wr ((q3.2 92 21) - 1)))) + (q3.2 106 (wr ((q3.2 92 21) - 1)).toNat))) ∧ (wr ((wr (30 * (wr ((q3.2 92 21) - 1)))) + (q3.2 106 (wr ((q3.2 92 21) - 1)).toNat))) < 240
              · rw [if_pos hc] at h
                refine es (162, [some (.inr (.inr 92)), some (.inl q2.1), some (.inl (wr ((wr (30 * (wr ((q3.2 92 21) - 1)))) + (q3.2 106 (wr ((q3.2 92 21) - 1)).toNat))))], [], (gset q3.2 107 ((wr ((wr (30 * (wr ((q3.2 92 21) - 1)))) + (q3.2 106 (wr ((q3.2 92 21) - 1)).toNat))).toNat) q2.1)) (if_pos hc) ?_
                refine ev_runs 5 (162, [some (.inr (.inr 92)), some (.inl q2.1), some (.inl (wr ((wr (30 * (wr ((q3.2 92 21) - 1)))) + (q3.2 106 (wr ((q3.2 92 21) - 1)).toNat))))], [], (gset q3.2 107 ((wr ((wr (30 * (wr ((q3.2 92 21) - 1)))) + (q3.2 106 (wr ((q3.2 92 21) - 1)).toNat))).toNat) q2.1)) (169, [some (.inr (.inr 92)), some (.inl q2.1), some (.inl (wr ((wr (30 * (wr ((q3.2 92 21) - 1)))) + (q3.2 106 (wr ((q3.2 92 21) - 1)).toNat))))], [.inl 1, .inr (.inr 92), .inl (wr ((wr (30 * (wr ((q3.2 92 21) - 1)))) + (q3.2 106 (wr ((q3.2 92 21) - 1)).toNat))), .inr (.inr 108)], (gset q3.2 107 ((wr ((wr (30 * (wr ((q3.2 92 21) - 1)))) + (q3.2 106 (wr ((q3.2 92 21) - 1)).toNat))).toNat) q2.1)) rfl ?_
                obtain ⟨q4, hq, h⟩ := Option.bind_eq_some_iff.mp h
                refine ec 36 172 [.inr (.inr 92), .inl 1] [.inl (wr ((wr (30 * (wr ((q3.2 92 21) - 1)))) + (q3.2 106 (wr ((q3.2 92 21) - 1)).toNat))), .inr (.inr 108)] rfl (ev_Md_here 1 (gset q3.2 107 ((wr ((wr (30 * (wr ((q3.2 92 21) - 1)))) + (q3.2 106 (wr ((q3.2 92 21) - 1)).toNat))).toNat) q2.1) q4.1 q4.2 hq) ?_
                show Ev 44 172 [some (.inr (.inr 92)), some (.inl q2.1), some (.inl (wr ((wr (30 * (wr ((q3.2 92 21) - 1)))) + (q3.2 106 (wr ((q3.2 92 21) - 1)).toNat))))] [.inl q4.1, .inl (wr ((wr (30 * (wr ((q3.2 92 21) - 1)))) + (q3.2 106 (wr ((q3.2 92 21) - 1)).toNat))), .inr (.inr 108)] q4.2 _ _
                refine ev_runs 2 (172, [some (.inr (.inr 92)), some (.inl q2.1), some (.inl (wr ((wr (30 * (wr ((q3.2 92 21) - 1)))) + (q3.2 106 (wr ((q3.2 92 21) - 1)).toNat))))], [.inl q4.1, .inl (wr ((wr (30 * (wr ((q3.2 92 21) - 1)))) + (q3.2 106 (wr ((q3.2 92 21) - 1)).toNat))), .inr (.inr 108)], q4.2) (175, [some (.inr (.inr 92)), some (.inl q2.1), some (.inl (wr ((wr (30 * (wr ((q3.2 92 21) - 1)))) + (q3.2 106 (wr ((q3.2 92 21) - 1)).toNat))))], [.inl (wr (q4.1 - 65)), .inl (wr ((wr (30 * (wr ((q3.2 92 21) - 1)))) + (q3.2 106 (wr ((q3.2 92 21) - 1)).toNat))), .inr (.inr 108)], q4.2) rfl ?_
                by_cases hc : 0 ≤ (wr ((wr (30 * (wr ((q3.2 92 21) - 1)))) + (q3.2 106 (wr ((q3.2 92 21) - 1)).toNat))) ∧ (wr ((wr (30 * (wr ((q3.2 92 21) - 1)))) + (q3.2 106 (wr ((q3.2 92 21) - 1)).toNat))) < 240
                · rw [if_pos hc] at h
                  refine es (176, [some (.inr (.inr 92)), some (.inl q2.1), some (.inl (wr ((wr (30 * (wr ((q3.2 92 21) - 1)))) + (q3.2 106 (wr ((q3.2 92 21) - 1)).toNat))))], [], (gset q4.2 108 ((wr ((wr (30 * (wr ((q3.2 92 21) - 1)))) + (q3.2 106 (wr ((q3.2 92 21) - 1)).toNat))).toNat) (wr (q4.1 - 65)))) (if_pos hc) ?_
                  refine ev_runs 8 (176, [some (.inr (.inr 92)), some (.inl q2.1), some (.inl (wr ((wr (30 * (wr ((q3.2 92 21) - 1)))) + (q3.2 106 (wr ((q3.2 92 21) - 1)).toNat))))], [], (gset q4.2 108 ((wr ((wr (30 * (wr ((q3.2 92 21) - 1)))) + (q3.2 106 (wr ((q3.2 92 21) - 1)).toNat))).toNat) (wr (q4.1 - 65)))) (188, [some (.inr (.inr 92)), some (.inl q2.1), some (.inl (wr ((wr (30 * (wr ((q3.2 92 21) - 1)))) + (q3.2 106 (wr ((q3.2 92 21) - 1)).toNat))))], [.inl 1, .inr (.inr 92)], (gset (gset q4.2 108 ((wr ((wr (30 * (wr ((q3.2 92 21) - 1)))) + (q3.2 106 (wr ((q3.2 92 21) - 1)).toNat))).toNat) (wr (q4.1 - 65))) 92 8 (wr ((q4.2 92 8) + 1)))) rfl ?_
                  obtain ⟨q5, hq, h⟩ := Option.bind_eq_some_iff.mp h
                  refine ec 36 191 [.inr (.inr 92), .inl 1] [] rfl (ev_Md_here 1 (gset (gset q4.2 108 ((wr ((wr (30 * (wr ((q3.2 92 21) - 1)))) + (q3.2 106 (wr ((q3.2 92 21) - 1)).toNat))).toNat) (wr (q4.1 - 65))) 92 8 (wr ((q4.2 92 8) + 1))) q5.1 q5.2 hq) ?_
                  show Ev 44 191 [some (.inr (.inr 92)), some (.inl q2.1), some (.inl (wr ((wr (30 * (wr ((q3.2 92 21) - 1)))) + (q3.2 106 (wr ((q3.2 92 21) - 1)).toNat))))] [.inl q5.1] q5.2 _ _
                  refine ev_runs 3 (191, [some (.inr (.inr 92)), some (.inl q2.1), some (.inl (wr ((wr (30 * (wr ((q3.2 92 21) - 1)))) + (q3.2 106 (wr ((q3.2 92 21) - 1)).toNat))))], [.inl q5.1], q5.2) (198, [some (.inr (.inr 92)), some (.inl q2.1), some (.inl (wr ((wr (30 * (wr ((q3.2 92 21) - 1)))) + (q3.2 106 (wr ((q3.2 92 21) - 1)).toNat))))], [.inr (.inl 122), .inr (.inl 97), .inr (.inl q5.1)], q5.2) rfl ?_
                  refine ec 4 201 [.inr (.inl q5.1), .inr (.inl 97), .inr (.inl 122)] [] rfl (ev_Md_in q5.1 97 122 q5.2 _ rfl) ?_
                  show Ev 44 201 [some (.inr (.inr 92)), some (.inl q2.1), some (.inl (wr ((wr (30 * (wr ((q3.2 92 21) - 1)))) + (q3.2 106 (wr ((q3.2 92 21) - 1)).toNat))))] [.inl (Md_in q5.1 97 122)] q5.2 _ _
                  by_cases hc : ¬ (Md_in q5.1 97 122) = 0
                  · rw [if_pos hc] at h
                    refine es (209, [some (.inr (.inr 92)), some (.inl q2.1), some (.inl (wr ((wr (30 * (wr ((q3.2 92 21) - 1)))) + (q3.2 106 (wr ((q3.2 92 21) - 1)).toNat))))], [], q5.2) (congrArg some (if_pos hc)) ?_
                    refine ev_runs 5 (209, [some (.inr (.inr 92)), some (.inl q2.1), some (.inl (wr ((wr (30 * (wr ((q3.2 92 21) - 1)))) + (q3.2 106 (wr ((q3.2 92 21) - 1)).toNat))))], [], q5.2) (216, [some (.inr (.inr 92)), some (.inl q2.1), some (.inl (wr ((wr (30 * (wr ((q3.2 92 21) - 1)))) + (q3.2 106 (wr ((q3.2 92 21) - 1)).toNat))))], [.inl 1, .inr (.inr 92), .inl (wr ((wr (30 * (wr ((q3.2 92 21) - 1)))) + (q3.2 106 (wr ((q3.2 92 21) - 1)).toNat))), .inr (.inr 109)], q5.2) rfl ?_
                    obtain ⟨q6, hq, h⟩ := Option.bind_eq_some_iff.mp h
                    refine ec 36 219 [.inr (.inr 92), .inl 1] [.inl (wr ((wr (30 * (wr ((q3.2 92 21) - 1)))) + (q3.2 106 (wr ((q3.2 92 21) - 1)).toNat))), .inr (.inr 109)] rfl (ev_Md_here 1 q5.2 q6.1 q6.2 hq) ?_
                    show Ev 44 219 [some (.inr (.inr 92)), some (.inl q2.1), some (.inl (wr ((wr (30 * (wr ((q3.2 92 21) - 1)))) + (q3.2 106 (wr ((q3.2 92 21) - 1)).toNat))))] [.inl q6.1, .inl (wr ((wr (30 * (wr ((q3.2 92 21) - 1)))) + (q3.2 106 (wr ((q3.2 92 21) - 1)).toNat))), .inr (.inr 109)] q6.2 _ _
                    refine ev_runs 2 (219, [some (.inr (.inr 92)), some (.inl q2.1), some (.inl (wr ((wr (30 * (wr ((q3.2 92 21) - 1)))) + (q3.2 106 (wr ((q3.2 92 21) - 1)).toNat))))], [.inl q6.1, .inl (wr ((wr (30 * (wr ((q3.2 92 21) - 1)))) + (q3.2 106 (wr ((q3.2 92 21) - 1)).toNat))), .inr (.inr 109)], q6.2) (222, [some (.inr (.inr 92)), some (.inl q2.1), some (.inl (wr ((wr (30 * (wr ((q3.2 92 21) - 1)))) + (q3.2 106 (wr ((q3.2 92 21) - 1)).toNat))))], [.inl (wr (q6.1 - 97)), .inl (wr ((wr (30 * (wr ((q3.2 92 21) - 1)))) + (q3.2 106 (wr ((q3.2 92 21) - 1)).toNat))), .inr (.inr 109)], q6.2) rfl ?_
                    by_cases hc : 0 ≤ (wr ((wr (30 * (wr ((q3.2 92 21) - 1)))) + (q3.2 106 (wr ((q3.2 92 21) - 1)).toNat))) ∧ (wr ((wr (30 * (wr ((q3.2 92 21) - 1)))) + (q3.2 106 (wr ((q3.2 92 21) - 1)).toNat))) < 240
                    · rw [if_pos hc] at h
                      refine es (223, [some (.inr (.inr 92)), some (.inl q2.1), some (.inl (wr ((wr (30 * (wr ((q3.2 92 21) - 1)))) + (q3.2 106 (wr ((q3.2 92 21) - 1)).toNat))))], [], (gset q6.2 109 ((wr ((wr (30 * (wr ((q3.2 92 21) - 1)))) + (q3.2 106 (wr ((q3.2 92 21) - 1)).toNat))).toNat) (wr (q6.1 - 97)))) (if_pos hc) ?_
                      refine ev_runs 7 (223, [some (.inr (.inr 92)), some (.inl q2.1), some (.inl (wr ((wr (30 * (wr ((q3.2 92 21) - 1)))) + (q3.2 106 (wr ((q3.2 92 21) - 1)).toNat))))], [], (gset q6.2 109 ((wr ((wr (30 * (wr ((q3.2 92 21) - 1)))) + (q3.2 106 (wr ((q3.2 92 21) - 1)).toNat))).toNat) (wr (q6.1 - 97)))) (234, [some (.inr (.inr 92)), some (.inl q2.1), some (.inl (wr ((wr (30 * (wr ((q3.2 92 21) - 1)))) + (q3.2 106 (wr ((q3.2 92 21) - 1)).toNat))))], [.inl (wr ((q6.2 92 21) - 1)), .inr (.inr 106), .inl (wr ((q6.2 92 21) - 1)), .inr (.inr 106)], (gset q6.2 109 ((wr ((wr (30 * (wr ((q3.2 92 21) - 1)))) + (q3.2 106 (wr ((q3.2 92 21) - 1)).toNat))).toNat) (wr (q6.1 - 97)))) rfl ?_
                      by_cases hc : 0 ≤ (wr ((q6.2 92 21) - 1)) ∧ (wr ((q6.2 92 21) - 1)) < 8
                      · rw [if_pos hc] at h
                        refine es (235, [some (.inr (.inr 92)), some (.inl q2.1), some (.inl (wr ((wr (30 * (wr ((q3.2 92 21) - 1)))) + (q3.2 106 (wr ((q3.2 92 21) - 1)).toNat))))], [.inl (q6.2 106 (wr ((q6.2 92 21) - 1)).toNat), .inl (wr ((q6.2 92 21) - 1)), .inr (.inr 106)], (gset q6.2 109 ((wr ((wr (30 * (wr ((q3.2 92 21) - 1)))) + (q3.2 106 (wr ((q3.2 92 21) - 1)).toNat))).toNat) (wr (q6.1 - 97)))) (if_pos hc) ?_
                        refine ev_runs 2 (235, [some (.inr (.inr 92)), some (.inl q2.1), some (.inl (wr ((wr (30 * (wr ((q3.2 92 21) - 1)))) + (q3.2 106 (wr ((q3.2 92 21) - 1)).toNat))))], [.inl (q6.2 106 (wr ((q6.2 92 21) - 1)).toNat), .inl (wr ((q6.2 92 21) - 1)), .inr (.inr 106)], (gset q6.2 109 ((wr ((wr (30 * (wr ((q3.2 92 21) - 1)))) + (q3.2 106 (wr ((q3.2 92 21) - 1)).toNat))).toNat) (wr (q6.1 - 97)))) (237, [some (.inr (.inr 92)), some (.inl q2.1), some (.inl (wr ((wr (30 * (wr ((q3.2 92 21) - 1)))) + (q3.2 106 (wr ((q3.2 92 21) - 1)).toNat))))], [.inl (wr ((q6.2 106 (wr ((q6.2 92 21) - 1)).toNat) + 1)), .inl (wr ((q6.2 92 21) - 1)), .inr (.inr 106)], (gset q6.2 109 ((wr ((wr (30 * (wr ((q3.2 92 21) - 1)))) + (q3.2 106 (wr ((q3.2 92 21) - 1)).toNat))).toNat) (wr (q6.1 - 97)))) rfl ?_
                        by_cases hc : 0 ≤ (wr ((q6.2 92 21) - 1)) ∧ (wr ((q6.2 92 21) - 1)) < 8
                        · rw [if_pos hc] at h
                          refine es (238, [some (.inr (.inr 92)), some (.inl q2.1), some (.inl (wr ((wr (30 * (wr ((q3.2 92 21) - 1)))) + (q3.2 106 (wr ((q3.2 92 21) - 1)).toNat))))], [], (gset (gset q6.2 109 ((wr ((wr (30 * (wr ((q3.2 92 21) - 1)))) + (q3.2 106 (wr ((q3.2 92 21) - 1)).toNat))).toNat) (wr (q6.1 - 97))) 106 ((wr ((q6.2 92 21) - 1)).toNat) (wr ((q6.2 106 (wr ((q6.2 92 21) - 1)).toNat) + 1)))) (if_pos hc) ?_
                          refine ev_runs 7 (238, [some (.inr (.inr 92)), some (.inl q2.1), some (.inl (wr ((wr (30 * (wr ((q3.2 92 21) - 1)))) + (q3.2 106 (wr ((q3.2 92 21) - 1)).toNat))))], [], (gset (gset q6.2 109 ((wr ((wr (30 * (wr ((q3.2 92 21) - 1)))) + (q3.2 106 (wr ((q3.2 92 21) - 1)).toNat))).toNat) (wr (q6.1 - 97))) 106 ((wr ((q6.2 92 21) - 1)).toNat) (wr ((q6.2 106 (wr ((q6.2 92 21) - 1)).toNat) + 1)))) (17, [some (.inr (.inr 92)), some (.inl q2.1), some (.inl (wr ((wr (30 * (wr ((q3.2 92 21) - 1)))) + (q3.2 106 (wr ((q3.2 92 21) - 1)).toNat))))], [], (gset (gset (gset q6.2 109 ((wr ((wr (30 * (wr ((q3.2 92 21) - 1)))) + (q3.2 106 (wr ((q3.2 92 21) - 1)).toNat))).toNat) (wr (q6.1 - 97))) 106 ((wr ((q6.2 92 21) - 1)).toNat) (wr ((q6.2 106 (wr ((q6.2 92 21) - 1)).toNat) + 1))) 92 8 (wr ((q6.2 92 8) + 1)))) rfl ?_
                          exact ev_le (L := [some (.inr (.inr 92)), none, none]) (by simp [Lle]) (ih17 (gset (gset (gset q6.2 109 ((wr ((wr (30 * (wr ((q3.2 92 21) - 1)))) + (q3.2 106 (wr ((q3.2 92 21) - 1)).toNat))).toNat) (wr (q6.1 - 97))) 106 ((wr ((q6.2 92 21) - 1)).toNat) (wr ((q6.2 106 (wr ((q6.2 92 21) - 1)).toNat) + 1))) 92 8 (wr ((q6.2 92 8) + 1))) r g' h)
                        · rw [if_neg hc] at h; cases h
                      · rw [if_neg hc] at h; cases h
                    · rw [if_neg hc] at h; cases h
                  · rw [if_neg hc] at h
                    refine es (204, [some (.inr (.inr 92)), some (.inl q2.1), some (.inl (wr ((wr (30 * (wr ((q3.2 92 21) - 1)))) + (q3.2 106 (wr ((q3.2 92 21) - 1)).toNat))))], [], q5.2) (congrArg some (if_neg hc)) ?_
                    refine ev_runs 2 (204, [some (.inr (.inr 92)), some (.inl q2.1), some (.inl (wr ((wr (30 * (wr ((q3.2 92 21) - 1)))) + (q3.2 106 (wr ((q3.2 92 21) - 1)).toNat))))], [], q5.2) (208, [some (.inr (.inr 92)), some (.inl q2.1), some (.inl (wr ((wr (30 * (wr ((q3.2 92 21) - 1)))) + (q3.2 106 (wr ((q3.2 92 21) - 1)).toNat))))], [.inl (q5.2 92 8)], q5.2) rfl ?_
                    cases h
                    exact er rfl
                · rw [if_neg hc] at h; cases h
              · rw [if_neg hc] at h; cases h
            · rw [if_neg hc] at h; cases h
          · rw [if_neg hc] at h
            refine es (128, [some (.inr (.inr 92)), some (.inl q2.1), none], [], q3.2) (congrArg some (if_neg hc)) ?_
            refine ev_runs 2 (128, [some (.inr (.inr 92)), some (.inl q2.1), none], [], q3.2) (132, [some (.inr (.inr 92)), some (.inl q2.1), none], [.inl (q3.2 92 8)], q3.2) rfl ?_
            cases h
            exact er rfl
        · rw [if_neg hc] at h
          refine es (99, [some (.inr (.inr 92)), some (.inl q2.1), none], [], q2.2) (congrArg some (if_neg hc)) ?_
          refine ev_runs 2 (99, [some (.inr (.inr 92)), some (.inl q2.1), none], [], q2.2) (102, [some (.inr (.inr 92)), some (.inl q2.1), none], [.inl 63, .inl q2.1], q2.2) rfl ?_
          by_cases hc : q2.1 = 63
          · rw [if_pos hc] at h
            refine es (110, [some (.inr (.inr 92)), some (.inl q2.1), none], [], q2.2) (congrArg some (if_pos hc)) ?_
            refine ev_runs 8 (110, [some (.inr (.inr 92)), some (.inl q2.1), none], [], q2.2) (122, [some (.inr (.inr 92)), some (.inl q2.1), none], [.inl 1, .inr (.inr 92)], (gset q2.2 92 8 (wr ((q2.2 92 8) + 1)))) rfl ?_
            obtain ⟨q7, hq, h⟩ := Option.bind_eq_some_iff.mp h
            refine ec 39 125 [.inr (.inr 92), .inl 1] [] rfl (ev_Md_isTalker 1 (gset q2.2 92 8 (wr ((q2.2 92 8) + 1))) q7.1 q7.2 hq) ?_
            show Ev 44 125 [some (.inr (.inr 92)), some (.inl q2.1), none] [.inl q7.1] q7.2 _ _
            by_cases hc : ¬ q7.1 = 0
            · rw [if_pos hc] at h
              refine es (133, [some (.inr (.inr 92)), some (.inl q2.1), none], [], q7.2) (congrArg some (if_pos hc)) ?_
              refine ev_runs 12 (133, [some (.inr (.inr 92)), some (.inl q2.1), none], [], q7.2) (152, [some (.inr (.inr 92)), some (.inl q2.1), none], [.inl (wr ((q7.2 92 21) - 1)), .inr (.inr 106), .inl (wr (30 * (wr ((q7.2 92 21) - 1))))], q7.2) rfl ?_
              by_cases hc : 0 ≤ (wr ((q7.2 92 21) - 1)) ∧ (wr ((q7.2 92 21) - 1)) < 8
              · rw [if_pos hc] at h
                refine es (153, [some (.inr (.inr 92)), some (.inl q2.1), none], [.inl (q7.2 106 (wr ((q7.2 92 21) - 1)).toNat), .inl (wr (30 * (wr ((q7.2 92 21) - 1))))], q7.2) (if_pos hc) ?_
                refine ev_runs 6 (153, [some (.inr (.inr 92)), some (.inl q2.1), none], [.inl (q7.2 106 (wr ((q7.2 92 21) - 1)).toNat), .inl (wr (30 * (wr ((q7.2 92 21) - 1))))], q7.2) (161, [some (.inr (.inr 92)), some (.inl q2.1), some (.inl (wr ((wr (30 * (wr ((q7.2 92 21) - 1)))) + (q7.2 106 (wr ((q7.2 92 21) - 1)).toNat))))], [.inl q2.1, .inl (wr ((wr (30 * (wr ((q7.2 92 21) - 1)))) + (q7.2 106 (wr ((q7.2 92 21) - 1)).toNat))), .inr (.inr 107)], q7.2) rfl ?_
                by_cases hc : 0 ≤ (wr ((wr (30 * (wr ((q7.2 92 21) - 1)))) + (q7.2 106 (wr ((q7.2 92 21) - 1)).toNat))) ∧ (wr ((wr (30 * (wr ((q7.2 92 21) - 1)))) + (q7.2 106 (wr ((q7.2 92 21) - 1)).toNat))) < 240
                · rw [if_pos hc] at h
                  refine es (162, [some (.inr (.inr 92)), some (.inl q2.1), some (.inl (wr ((wr (30 * (wr ((q7.2 92 21) - 1)))) + (q7.2 106 (wr ((q7.2 92 21) - 1)).toNat))))], [], (gset q7.2 107 ((wr ((wr (30 * (wr ((q7.2 92 21) - 1)))) + (q7.2 106 (wr ((q7.2 92 21) - 1)).toNat))).toNat) q2.1)) (if_pos hc) ?_
                  refine ev_runs 5 (162, [some (.inr (.inr 92)), some (.inl q2.1), some (.inl (wr ((wr (30 * (wr ((q7.2 92 21) - 1)))) + (q7.2 106 (wr ((q7.2 92 21) - 1)).toNat))))], [], (gset q7.2 107 ((wr ((wr (30 * (wr ((q7.2 92 21) - 1)))) + (q7.2 106 (wr ((q7.2 92 21) - 1)).toNat))).toNat) q2.1)) (169, [some (.inr (.inr 92)), some (.inl q2.1), some (.inl (wr ((wr (30 * (wr ((q7.2 92 21) - 1)))) + (q7.2 106 (wr ((q7.2 92 21) - 1)).toNat))))], [.inl 1, .inr (.inr 92), .inl (wr ((wr (30 * (wr ((q7.2 92 21) - 1)))) + (q7.2 106 (wr ((q7.2 92 21) - 1)).toNat))), .inr (.inr 108)], (gset q7.2 107 ((wr ((wr (30 * (wr ((q7.2 92 21) - 1)))) + (q7.2 106 (wr ((q7.2 92 21) - 1)).toNat))).toNat) q2.1)) rfl ?_
                  obtain ⟨q8, hq, h⟩ := Option.bind_eq_some_iff.mp h
                  refine ec 36 172 [.inr (.inr 92), .inl 1] [.inl (wr ((wr (30 * (wr ((q7.2 92 21) - 1)))) + (q7.2 106 (wr ((q7.2 92 21) - 1)).toNat))), .inr (.inr 108)] rfl (ev_Md_here 1 (gset q7.2 107 ((wr ((wr (30 * (wr ((q7.2 92 21) - 1)))) + (q7.2 106 (wr ((q7.2 92 21) - 1)).toNat))).toNat) q2.1) q8.1 q8.2 hq) ?_
                  show Ev 44 172 [some (.inr (.inr 92)), some (.inl q2.1), some (.inl (wr ((wr (30 * (wr ((q7.2 92 21) - 1)))) + (q7.2 106 (wr ((q7.2 92 21) - 1)).toNat))))] [.inl q8.1, .inl (wr ((wr (30 * (wr ((q7.2 92 21) - 1)))) + (q7.2 106 (wr ((q7.2 92 21) - 1)).toNat))), .inr (.inr 108)] q8.2 _ _
                  refine ev_runs 2 (172, [some (.inr (.inr 92)), some (.inl q2.1), some (.inl (wr ((wr (30 * (wr ((q7.2 92 21) - 1)))) + (q7.2 106 (wr ((q7.2 92 21) - 1)).toNat))))], [.inl q8.1, .inl (wr ((wr (30 * (wr ((q7.2 92 21) - 1)))) + (q7.2 106 (wr ((q7.2 92 21) - 1)).toNat))), .inr (.inr 108)], q8.2) (175, [some (.inr (.inr 92)), some (.inl q2.1), some (.inl (wr ((wr (30 * (wr ((q7.2 92 21) - 1)))) + (q7.2 106 (wr ((q7.2 92 21) - 1)).toNat))))], [.inl (wr (q8.1 - 65)), .inl (wr ((wr (30 * (wr ((q7.2 92 21) - 1)))) + (q7.2 106 (wr ((q7.2 92 21) - 1)).toNat))), .inr (.inr 108)], q8.2) rfl ?_
                  by_cases hc : 0 ≤ (wr ((wr (30 * (wr ((q7.2 92 21) - 1)))) + (q7.2 106 (wr ((q7.2 92 21) - 1)).toNat))) ∧ (wr ((wr (30 * (wr ((q7.2 92 21) - 1)))) + (q7.2 106 (wr ((q7.2 92 21) - 1)).toNat))) < 240
                  · rw [if_pos hc] at h
                    refine es (176, [some (.inr (.inr 92)), some (.inl q2.1), some (.inl (wr ((wr (30 * (wr ((q7.2 92 21) - 1)))) + (q7.2 106 (wr ((q7.2 92 21) - 1)).toNat))))], [], (gset q8.2 108 ((wr ((wr (30 * (wr ((q7.2 92 21) - 1)))) + (q7.2 106 (wr ((q7.2 92 21) - 1)).toNat))).toNat) (wr (q8.1 - 65)))) (if_pos hc) ?_
                    refine ev_runs 8 (176, [some (.inr (.inr 92)), some (.inl q2.1), some (.inl (wr ((wr (30 * (wr ((q7.2 92 21) - 1)))) + (q7.2 106 (wr ((q7.2 92 21) - 1)).toNat))))], [], (gset q8.2 108 ((wr ((wr (30 * (wr ((q7.2 92 21) - 1)))) + (q7.2 106 (wr ((q7.2 92 21) - 1)).toNat))).toNat) (wr (q8.1 - 65)))) (188, [some (.inr (.inr 92)), some (.inl q2.1), some (.inl (wr ((wr (30 * (wr ((q7.2 92 21) - 1)))) + (q7.2 106 (wr ((q7.2 92 21) - 1)).toNat))))], [.inl 1, .inr (.inr 92)], (gset (gset q8.2 108 ((wr ((wr (30 * (wr ((q7.2 92 21) - 1)))) + (q7.2 106 (wr ((q7.2 92 21) - 1)).toNat))).toNat) (wr (q8.1 - 65))) 92 8 (wr ((q8.2 92 8) + 1)))) rfl ?_
                    obtain ⟨q9, hq, h⟩ := Option.bind_eq_some_iff.mp h
                    refine ec 36 191 [.inr (.inr 92), .inl 1] [] rfl (ev_Md_here 1 (gset (gset q8.2 108 ((wr ((wr (30 * (wr ((q7.2 92 21) - 1)))) + (q7.2 106 (wr ((q7.2 92 21) - 1)).toNat))).toNat) (wr (q8.1 - 65))) 92 8 (wr ((q8.2 92 8) + 1))) q9.1 q9.2 hq) ?_
                    show Ev 44 191 [some (.inr (.inr 92)), some (.inl q2.1), some (.inl (wr ((wr (30 * (wr ((q7.2 92 21) - 1)))) + (q7.2 106 (wr ((q7.2 92 21) - 1)).toNat))))] [.inl q9.1] q9.2 _ _
                    refine ev_runs 3 (191, [some (.inr (.inr 92)), some (.inl q2.1), some (.inl (wr ((wr (30 * (wr ((q7.2 92 21) - 1)))) + (q7.2 106 (wr ((q7.2 92 21) - 1)).toNat))))], [.inl q9.1], q9.2) (198, [some (.inr (.inr 92)), some (.inl q2.1), some (.inl (wr ((wr (30 * (wr ((q7.2 92 21) - 1)))) + (q7.2 106 (wr ((q7.2 92 21) - 1)).toNat))))], [.inr (.inl 122), .inr (.inl 97), .inr (.inl q9.1)], q9.2) rfl ?_
                    refine ec 4 201 [.inr (.inl q9.1), .inr (.inl 97), .inr (.inl 122)] [] rfl (ev_Md_in q9.1 97 122 q9.2 _ rfl) ?_
                    show Ev 44 201 [some (.inr (.inr 92)), some (.inl q2.1), some (.inl (wr ((wr (30 * (wr ((q7.2 92 21) - 1)))) + (q7.2 106 (wr ((q7.2 92 21) - 1)).toNat))))] [.inl (Md_in q9.1 97 122)] q9.2 _ _
                    by_cases hc : ¬ (Md_in q9.1 97 122) = 0
                    · rw [if_pos hc] at h
                      refine es (209, [some (.inr (.inr 92)), some (.inl q2.1), some (.inl (wr ((wr (30 * (wr ((q7.2 92 21) - 1)))) + (q7.2 106 (wr ((q7.2 92 21) - 1)).toNat))))], [], q9.2) (congrArg some (if_pos hc)) ?_
                      refine ev_runs 5 (209, [some (.inr (.inr 92)), some (.inl q2.1), some (.inl (wr ((wr (30 * (wr ((q7.2 92 21) - 1)))) + (q7.2 106 (wr ((q7.2 92 21) - 1)).toNat))))], [], q9.2) (216, [some (.inr (.inr 92)), some (.inl q2.1), some (.inl (wr ((wr (30 * (wr ((q7.2 92 21) - 1)))) + (q7.2 106 (wr ((q7.2 92 21) - 1)).toNat))))], [.inl 1, .inr (.inr 92), .inl (wr ((wr (30 * (wr ((q7.2 92 21) - 1)))) + (q7.2 106 (wr ((q7.2 92 21) - 1)).toNat))), .inr (.inr 109)], q9.2) rfl ?_
                      obtain ⟨q10, hq, h⟩ := Option.bind_eq_some_iff.mp h
                      refine ec 36 219 [.inr (.inr 92), .inl 1] [.inl (wr ((wr (30 * (wr ((q7.2 92 21) - 1)))) + (q7.2 106 (wr ((q7.2 92 21) - 1)).toNat))), .inr (.inr 109)] rfl (ev_Md_here 1 q9.2 q10.1 q10.2 hq) ?_
                      show Ev 44 219 [some (.inr (.inr 92)), some (.inl q2.1), some (.inl (wr ((wr (30 * (wr ((q7.2 92 21) - 1)))) + (q7.2 106 (wr ((q7.2 92 21) - 1)).toNat))))] [.inl q10.1, .inl (wr ((wr (30 * (wr ((q7.2 92 21) - 1)))) + (q7.2 106 (wr ((q7.2 92 21) - 1)).toNat))), .inr (.inr 109)] q10.2 _ _
                      refine ev_runs 2 (219, [some (.inr (.inr 92)), some (.inl q2.1), some (.inl (wr ((wr (30 * (wr ((q7.2 92 21) - 1)))) + (q7.2 106 (wr ((q7.2 92 21) - 1)).toNat))))], [.inl q10.1, .inl (wr ((wr (30 * (wr ((q7.2 92 21) - 1)))) + (q7.2 106 (wr ((q7.2 92 21) - 1)).toNat))), .inr (.inr 109)], q10.2) (222, [some (.inr (.inr 92)), some (.inl q2.1), some (.inl (wr ((wr (30 * (wr ((q7.2 92 21) - 1)))) + (q7.2 106 (wr ((q7.2 92 21) - 1)).toNat))))], [.inl (wr (q10.1 - 97)), .inl (wr ((wr (30 * (wr ((q7.2 92 21) - 1)))) + (q7.2 106 (wr ((q7.2 92 21) - 1)).toNat))), .inr (.inr 109)], q10.2) rfl ?_
                      by_cases hc : 0 ≤ (wr ((wr (30 * (wr ((q7.2 92 21) - 1)))) + (q7.2 106 (wr ((q7.2 92 21) - 1)).toNat))) ∧ (wr ((wr (30 * (wr ((q7.2 92 21) - 1)))) + (q7.2 106 (wr ((q7.2 92 21) - 1)).toNat))) < 240
                      · rw [if_pos hc] at h
                        refine es (223, [some (.inr (.inr 92)), some (.inl q2.1), some (.inl (wr ((wr (30 * (wr ((q7.2 92 21) - 1)))) + (q7.2 106 (wr ((q7.2 92 21) - 1)).toNat))))], [], (gset q10.2 109 ((wr ((wr (30 * (wr ((q7.2 92 21) - 1)))) + (q7.2 106 (wr ((q7.2 92 21) - 1)).toNat))).toNat) (wr (q10.1 - 97)))) (if_pos hc) ?_
                        refine ev_runs 7 (223, [some (.inr (.inr 92)), some (.inl q2.1), some (.inl (wr ((wr (30 * (wr ((q7.2 92 21) - 1)))) + (q7.2 106 (wr ((q7.2 92 21) - 1)).toNat))))], [], (gset q10.2 109 ((wr ((wr (30 * (wr ((q7.2 92 21) - 1)))) + (q7.2 106 (wr ((q7.2 92 21) - 1)).toNat))).toNat) (wr (q10.1 - 97)))) (234, [some (.inr (.inr 92)), some (.inl q2.1), some (.inl (wr ((wr (30 * (wr ((q7.2 92 21) - 1)))) + (q7.2 106 (wr ((q7.2 92 21) - 1)).toNat))))], [.inl (wr ((q10.2 92 21) - 1)), .inr (.inr 106), .inl (wr ((q10.2 92 21) - 1)), .inr (.inr 106)], (gset q10.2 109 ((wr ((wr (30 * (wr ((q7.2 92 21) - 1)))) + (q7.2 106 (wr ((q7.2 92 21) - 1)).toNat))).toNat) (wr (q10.1 - 97)))) rfl ?_
                        by_cases hc : 0 ≤ (wr ((q10.2 92 21) - 1)) ∧ (wr ((q10.2 92 21) - 1)) < 8
                        · rw [if_pos hc] at h
                          refine es (235, [some (.inr (.inr 92)), some (.inl q2.1), some (.inl (wr ((wr (30 * (wr ((q7.2 92 21) - 1)))) + (q7.2 106 (wr ((q7.2 92 21) - 1)).toNat))))], [.inl (q10.2 106 (wr ((q10.2 92 21) - 1)).toNat), .inl (wr ((q10.2 92 21) - 1)), .inr (.inr 106)], (gset q10.2 109 ((wr ((wr (30 * (wr ((q7.2 92 21) - 1)))) + (q7.2 106 (wr ((q7.2 92 21) - 1)).toNat))).toNat) (wr (q10.1 - 97)))) (if_pos hc) ?_
                          refine ev_runs 2 (235, [some (.inr (.inr 92)), some (.inl q2.1), some (.inl (wr ((wr (30 * (wr ((q7.2 92 21) - 1)))) + (q7.2 106 (wr ((q7.2 92 21) - 1)).toNat))))], [.inl (q10.2 106 (wr ((q10.2 92 21) - 1)).toNat), .inl (wr ((q10.2 92 21) - 1)), .inr (.inr 106)], (gset q10.2 109 ((wr ((wr (30 * (wr ((q7.2 92 21) - 1)))) + (q7.2 106 (wr ((q7.2 92 21) - 1)).toNat))).toNat) (wr (q10.1 - 97)))) (237, [some (.inr (.inr 92)), some (.inl q2.1), some (.inl (wr ((wr (30 * (wr ((q7.2 92 21) - 1)))) + (q7.2 106 (wr ((q7.2 92 21) - 1)).toNat))))], [.inl (wr ((q10.2 106 (wr ((q10.2 92 21) - 1)).toNat) + 1)), .inl (wr ((q10.2 92 21) - 1)), .inr (.inr 106)], (gset q10.2 109 ((wr ((wr (30 * (wr ((q7.2 92 21) - 1)))) + (q7.2 106 (wr ((q7.2 92 21) - 1)).toNat))).toNat) (wr (q10.1 - 97)))) rfl ?_
                          by_cases hc : 0 ≤ (wr ((q10.2 92 21) - 1)) ∧ (wr ((q10.2 92 21) - 1)) < 8
                          · rw [if_pos hc] at h
                            refine es (238, [some (.inr (.inr 92)), some (.inl q2.1), some (.inl (wr ((wr (30 * (wr ((q7.2 92 21) - 1)))) + (q7.2 106 (wr ((q7.2 92 21) - 1)).toNat))))], [], (gset (gset q10.2 109 ((wr ((wr (30 * (wr ((q7.2 92 21) - 1)))) + (q7.2 106 (wr ((q7.2 92 21) - 1)).toNat))).toNat) (wr (q10.1 - 97))) 106 ((wr ((q10.2 92 21) - 1)).toNat) (wr ((q10.2 106 (wr ((q10.2 92 21) - 1)).toNat) + 1)))) (if_pos hc) ?_
                            refine ev_runs 7 (238, [some (.inr (.inr 92)), some (.inl q2.1), some (.inl (wr ((wr (30 * (wr ((q7.2 92 21) - 1)))) + (q7.2 106 (wr ((q7.2 92 21) - 1)).toNat))))], [], (gset (gset q10.2 109 ((wr ((wr (30 * (wr ((q7.2 92 21) - 1)))) + (q7.2 106 (wr ((q7.2 92 21) - 1)).toNat))).toNat) (wr (q10.1 - 97))) 106 ((wr ((q10.2 92 21) - 1)).toNat) (wr ((q10.2 106 (wr ((q10.2 92 21) - 1)).toNat) + 1)))) (17, [some (.inr (.inr 92)), some (.inl q2.1), some (.inl (wr ((wr (30 * (wr ((q7.2 92 21) - 1)))) + (q7.2 106 (wr ((q7.2 92 21) - 1)).toNat))))], [], (gset (gset (gset q10.2 109 ((wr ((wr (30 * (wr ((q7.2 92 21) - 1)))) + (q7.2 106 (wr ((q7.2 92 21) - 1)).toNat))).toNat) (wr (q10.1 - 97))) 106 ((wr ((q10.2 92 21) - 1)).toNat) (wr ((q10.2 106 (wr ((q10.2 92 21) - 1)).toNat) + 1))) 92 8 (wr ((q10.2 92 8) + 1)))) rfl ?_
                            exact ev_le (L := [some (.inr (.inr 92)), none, none]) (by simp [Lle]) (ih17 (gset (gset (gset q10.2 109 ((wr ((wr (30 * (wr ((q7.2 92 21) - 1)))) + (q7.2 106 (wr ((q7.2 92 21) - 1)).toNat))).toNat) (wr (q10.1 - 97))) 106 ((wr ((q10.2 92 21) - 1)).toNat) (wr ((q10.2 106 (wr ((q10.2 92 21) - 1)).toNat) + 1))) 92 8 (wr ((q10.2 92 8) + 1))) r g' h)
                          · rw [if_neg hc] at h; cases h
                        · rw [if_neg hc] at h; cases h
                      · rw [if_neg hc] at h; cases h
                    · rw [if_neg hc] at h
                      refine es (204, [some (.inr (.inr 92)), some (.inl q2.1), some (.inl (wr ((wr (30 * (wr ((q7.2 92 21) - 1)))) + (q7.2 106 (wr ((q7.2 92 21) - 1)).toNat))))], [], q9.2) (congrArg some (if_neg hc)) ?_
                      refine ev_runs 2 (204, [some (.inr (.inr 92)), some (.inl q2.1), some (.inl (wr ((wr (30 * (wr ((q7.2 92 21) - 1)))) + (q7.2 106 (wr ((q7.2 92 21) - 1)).toNat))))], [], q9.2) (208, [some (.inr (.inr 92)), some (.inl q2.1), some (.inl (wr ((wr (30 * (wr ((q7.2 92 21) - 1)))) + (q7.2 106 (wr ((q7.2 92 21) - 1)).toNat))))], [.inl (q9.2 92 8)], q9.2) rfl ?_
                      cases h
                      exact er rfl
                  · rw [if_neg hc] at h; cases h
                · rw [if_neg hc] at h; cases h
              · rw [if_neg hc] at h; cases h
            · rw [if_neg hc] at h
              refine es (128, [some (.inr (.inr 92)), some (.inl q2.1), none], [], q7.2) (congrArg some (if_neg hc)) ?_
              refine ev_runs 2 (128, [some (.inr (.inr 92)), some (.inl q2.1), none], [], q7.2) (132, [some (.inr (.inr 92)), some (.inl q2.1), none], [.inl (q7.2 92 8)], q7.2) rfl ?_
              cases h
              exact er rfl
          · rw [if_neg hc] at h
            refine es (105, [some (.inr (.inr 92)), some (.inl q2.1), none], [], q2.2) (congrArg some (if_neg hc)) ?_
            refine ev_runs 2 (105, [some (.inr (.inr 92)), some (.inl q2.1), none], [], q2.2) (109, [some (.inr (.inr 92)), some (.inl q2.1), none], [.inl (q2.2 92 8)], q2.2) rfl ?_
            cases h
            exact er rfl
      · rw [if_neg hc] at h
        refine es (40, [some (.inr (.inr 92)), none, none], [], q1.2) (congrArg some (if_neg hc)) ?_
        refine ev_runs 3 (40, [some (.inr (.inr 92)), none, none], [], q1.2) (46, [some (.inr (.inr 92)), none, none], [.inl 8, .inl (q1.2 92 21)], q1.2) rfl ?_
        by_cases hc : ¬ (q1.2 92 21) = 8
        · rw [if_pos hc] at h
          refine es (54, [some (.inr (.inr 92)), none, none], [], q1.2) (congrArg some (if_pos hc)) ?_
          refine ev_runs 5 (54, [some (.inr (.inr 92)), none, none], [], q1.2) (63, [some (.inr (.inr 92)), none, none], [.inl 0, .inl (q1.2 92 21), .inr (.inr 106)], q1.2) rfl ?_
          by_cases hc : 0 ≤ (q1.2 92 21) ∧ (q1.2 92 21) < 8
          · rw [if_pos hc] at h
            refine es (64, [some (.inr (.inr 92)), none, none], [], (gset q1.2 106 ((q1.2 92 21).toNat) 0)) (if_pos hc) ?_
            refine ev_runs 13 (64, [some (.inr (.inr 92)), none, none], [], (gset q1.2 106 ((q1.2 92 21).toNat) 0)) (17, [some (.inr (.inr 92)), none, none], [], (gset (gset (gset q1.2 106 ((q1.2 92 21).toNat) 0) 92 21 (wr ((q1.2 92 21) + 1))) 92 8 (wr ((q1.2 92 8) + 1)))) rfl ?_
            exact ev_le (L := [some (.inr (.inr 92)), none, none]) (by simp [Lle]) (ih17 (gset (gset (gset q1.2 106 ((q1.2 92 21).toNat) 0) 92 21 (wr ((q1.2 92 21) + 1))) 92 8 (wr ((q1.2 92 8) + 1))) r g' h)
          · rw [if_neg hc] at h; cases h
        · rw [if_neg hc] at h
          refine es (49, [some (.inr (.inr 92)), none, none], [], q1.2) (congrArg some (if_neg hc)) ?_
          refine ev_runs 2 (49, [some (.inr (.inr 92)), none, none], [], q1.2) (53, [some (.inr (.inr 92)), none, none], [.inl (q1.2 92 8)], q1.2) rfl ?_
          cases h
          exact er rfl
set_option maxRecDepth 100000 in
set_option maxHeartbeats 4000000 in
theorem ev_Md_readsProgram (g : Gx) (r : Int) (g' : Gx) (h : Md_readsProgram g = some (r, g')) : Ev 44 0 [some (.inr (.inr 92)), none, none] [] g (some (.inl r)) g' := by
  rw [Md_readsProgram] at h
  refine ev_runs 11 (0, [some (.inr (.inr 92)), none, none], [], g) (17, [some (.inr (.inr 92)), none, none], [], (gset (gset (gset g 92 8 0) 92 21 1) 106 0 0)) rfl ?_
  refine ev_le (L := [some (.inr (.inr 92)), none, none]) (by simp [Lle]) ?_
  refine ev_Md_readsProgram_l17 _ ?_ fu (gset (gset (gset g 92 8 0) 92 21 1) 106 0 0) r g' h
  · intro g11 r g' h
    refine ev_runs 1 (251, [none, none, none], [], g11) (252, [none, none, none], [.inl (-1)], g11) rfl ?_
    cases h
    exact er rfl
set_option maxRecDepth 100000 in
set_option maxHeartbeats 4000000 in
theorem ev_Md_fault (a1 : Int) (g : Gx) (r : Int) (g' : Gx) (h : Md_fault a1 g = some (r, g')) : Ev 45 0 [some (.inr (.inr 92)), some (.inl a1)] [] g (some (.inl r)) g' := by
  rw [Md_fault] at h
  refine ev_runs 4 (0, [some (.inr (.inr 92)), some (.inl a1)], [], g) (4, [some (.inr (.inr 92)), some (.inl a1)], [.inr (.inl 1), .inr (.inl 0), .inr (.inl a1)], g) rfl ?_
  refine ec 4 7 [.inr (.inl a1), .inr (.inl 0), .inr (.inl 1)] [] rfl (ev_Md_in a1 0 1 g _ rfl) ?_
  show Ev 45 7 [some (.inr (.inr 92)), some (.inl a1)] [.inl (Md_in a1 0 1)] g _ _
  by_cases hc : (Md_in a1 0 1) = 0
  · rw [if_pos hc] at h
    refine es (28, [some (.inr (.inr 92)), some (.inl a1)], [], g) (congrArg some (if_pos hc)) ?_
    refine ev_runs 1 (28, [some (.inr (.inr 92)), some (.inl a1)], [], g) (30, [some (.inr (.inr 92)), some (.inl a1)], [.inl (-2)], g) rfl ?_
    cases h
    exact er rfl
  · rw [if_neg hc] at h
    refine es (10, [some (.inr (.inr 92)), some (.inl a1)], [], g) (congrArg some (if_neg hc)) ?_
    refine ev_runs 1 (10, [some (.inr (.inr 92)), some (.inl a1)], [], g) (11, [some (.inr (.inr 92)), some (.inl a1)], [.inl a1], g) rfl ?_
    by_cases hc : ¬ a1 = 0
    · rw [if_pos hc] at h
      refine es (21, [some (.inr (.inr 92)), some (.inl a1)], [], g) (congrArg some (if_pos hc)) ?_
      refine ev_runs 1 (21, [some (.inr (.inr 92)), some (.inl a1)], [], g) (22, [some (.inr (.inr 92)), some (.inl a1)], [.inr (.inr 92)], g) rfl ?_
      obtain ⟨q1, hq, h⟩ := Option.bind_eq_some_iff.mp h
      refine ec 44 25 [.inr (.inr 92)] [] rfl (ev_Md_readsProgram g q1.1 q1.2 hq) ?_
      show Ev 45 25 [some (.inr (.inr 92)), some (.inl a1)] [.inl q1.1] q1.2 _ _
      refine ev_runs 1 (25, [some (.inr (.inr 92)), some (.inl a1)], [.inl q1.1], q1.2) (30, [some (.inr (.inr 92)), some (.inl a1)], [.inl q1.1], q1.2) rfl ?_
      cases h
      exact er rfl
    · rw [if_neg hc] at h
      refine es (14, [some (.inr (.inr 92)), some (.inl a1)], [], g) (congrArg some (if_neg hc)) ?_
      refine ev_runs 1 (14, [some (.inr (.inr 92)), some (.inl a1)], [], g) (15, [some (.inr (.inr 92)), some (.inl a1)], [.inr (.inr 92)], g) rfl ?_
      obtain ⟨q2, hq, h⟩ := Option.bind_eq_some_iff.mp h
      refine ec 43 18 [.inr (.inr 92)] [] rfl (ev_Md_reads g q2.1 q2.2 hq) ?_
      show Ev 45 18 [some (.inr (.inr 92)), some (.inl a1)] [.inl q2.1] q2.2 _ _
      refine ev_runs 1 (18, [some (.inr (.inr 92)), some (.inl a1)], [.inl q2.1], q2.2) (30, [some (.inr (.inr 92)), some (.inl a1)], [.inl q2.1], q2.2) rfl ?_
      cases h
      exact er rfl
set_option maxRecDepth 100000 in
set_option maxHeartbeats 4000000 in
theorem ev_St_choices (g : Gx) (r : Int) (h : St_choices g = r) : Ev 46 0 [some (.inr (.inr 7))] [] g (some (.inl r)) g := by
  rw [St_choices] at h
  refine ev_runs 2 (0, [some (.inr (.inr 7))], [], g) (4, [some (.inr (.inr 7))], [.inl (g 7 11)], g) rfl ?_
  subst h
  exact er rfl
set_option maxRecDepth 100000 in
set_option maxHeartbeats 4000000 in
theorem ev_Pr_used (g : Gx) (r : Int) (h : Pr_used g = r) : Ev 47 0 [some (.inr (.inr 28))] [] g (some (.inl r)) g := by
  rw [Pr_used] at h
  refine ev_runs 2 (0, [some (.inr (.inr 28))], [], g) (4, [some (.inr (.inr 28))], [.inl (g 28 7)], g) rfl ?_
  subst h
  exact er rfl
set_option maxRecDepth 100000 in
set_option maxHeartbeats 4000000 in
theorem ev_Pr_sayings (g : Gx) (r : Int) (h : Pr_sayings g = r) : Ev 48 0 [some (.inr (.inr 28))] [] g (some (.inl r)) g := by
  rw [Pr_sayings] at h
  refine ev_runs 2 (0, [some (.inr (.inr 28))], [], g) (4, [some (.inr (.inr 28))], [.inl (g 28 8)], g) rfl ?_
  subst h
  exact er rfl
set_option maxRecDepth 100000 in
set_option maxHeartbeats 4000000 in
theorem ev_Op_plan (a1 : Int) (g : Gx) (r : Int) (g' : Gx) (h : Op_plan a1 g = some (r, g')) : Ev 49 0 [some (.inr (.inr 0)), some (.inl a1)] [] g (some (.inl r)) g' := by
  rw [Op_plan] at h
  refine ev_runs 1 (0, [some (.inr (.inr 0)), some (.inl a1)], [], g) (1, [some (.inr (.inr 0)), some (.inl a1)], [.inl a1], g) rfl ?_
  by_cases hc : a1 < 0
  · rw [if_pos hc] at h
    refine es (9, [some (.inr (.inr 0)), some (.inl a1)], [], g) (congrArg some (if_pos hc)) ?_
    refine ev_runs 1 (9, [some (.inr (.inr 0)), some (.inl a1)], [], g) (11, [some (.inr (.inr 0)), some (.inl a1)], [.inl (-2)], g) rfl ?_
    cases h
    exact er rfl
  · rw [if_neg hc] at h
    refine es (4, [some (.inr (.inr 0)), some (.inl a1)], [], g) (congrArg some (if_neg hc)) ?_
    refine ev_runs 2 (4, [some (.inr (.inr 0)), some (.inl a1)], [], g) (6, [some (.inr (.inr 0)), some (.inl a1)], [.inl 2, .inl a1], g) rfl ?_
    by_cases hc : a1 ≤ 2
    · rw [if_pos hc] at h
      refine es (12, [some (.inr (.inr 0)), some (.inl a1)], [], g) (congrArg some (if_pos hc)) ?_
      refine ev_runs 2 (12, [some (.inr (.inr 0)), some (.inl a1)], [], g) (16, [some (.inr (.inr 0)), some (.inl a1)], [.inr (.inr 28)], g) rfl ?_
      obtain ⟨q1, hq, h⟩ := Option.bind_eq_some_iff.mp h
      refine ec 32 19 [.inr (.inr 28)] [] rfl (ev_Pr_firstFault g q1.1 q1.2 hq) ?_
      show Ev 49 19 [some (.inr (.inr 0)), some (.inl a1)] [.inl q1.1] q1.2 _ _
      refine ev_runs 1 (19, [some (.inr (.inr 0)), some (.inl a1)], [.inl q1.1], q1.2) (20, [some (.inr (.inr 0)), some (.inl a1)], [.inl (-1), .inl q1.1], q1.2) rfl ?_
      by_cases hc : q1.1 = (-1)
      · rw [if_pos hc] at h
        refine es (26, [some (.inr (.inr 0)), some (.inl a1)], [], q1.2) (congrArg some (if_pos hc)) ?_
        refine ev_runs 1 (26, [some (.inr (.inr 0)), some (.inl a1)], [], q1.2) (27, [some (.inr (.inr 0)), some (.inl a1)], [.inl a1], q1.2) rfl ?_
        by_cases hc : ¬ a1 = 0
        · rw [if_pos hc] at h
          refine es (38, [some (.inr (.inr 0)), some (.inl a1)], [], q1.2) (congrArg some (if_pos hc)) ?_
          refine ev_runs 2 (38, [some (.inr (.inr 0)), some (.inl a1)], [], q1.2) (40, [some (.inr (.inr 0)), some (.inl a1)], [.inl 1, .inl a1], q1.2) rfl ?_
          by_cases hc : ¬ a1 = 1
          · rw [if_pos hc] at h
            refine es (53, [some (.inr (.inr 0)), some (.inl a1)], [], q1.2) (congrArg some (if_pos hc)) ?_
            refine ev_runs 2 (53, [some (.inr (.inr 0)), some (.inl a1)], [], q1.2) (57, [some (.inr (.inr 0)), some (.inl a1)], [.inr (.inr 28)], q1.2) rfl ?_
            refine ec 48 60 [.inr (.inr 28)] [] rfl (ev_Pr_sayings q1.2 _ rfl) ?_
            show Ev 49 60 [some (.inr (.inr 0)), some (.inl a1)] [.inl (Pr_sayings q1.2)] q1.2 _ _
            cases h
            exact er rfl
          · rw [if_neg hc] at h
            refine es (43, [some (.inr (.inr 0)), some (.inl a1)], [], q1.2) (congrArg some (if_neg hc)) ?_
            refine ev_runs 2 (43, [some (.inr (.inr 0)), some (.inl a1)], [], q1.2) (47, [some (.inr (.inr 0)), some (.inl a1)], [.inr (.inr 28)], q1.2) rfl ?_
            refine ec 47 50 [.inr (.inr 28)] [] rfl (ev_Pr_used q1.2 _ rfl) ?_
            show Ev 49 50 [some (.inr (.inr 0)), some (.inl a1)] [.inl (Pr_used q1.2)] q1.2 _ _
            refine ev_runs 1 (50, [some (.inr (.inr 0)), some (.inl a1)], [.inl (Pr_used q1.2)], q1.2) (60, [some (.inr (.inr 0)), some (.inl a1)], [.inl (Pr_used q1.2)], q1.2) rfl ?_
            cases h
            exact er rfl
        · rw [if_neg hc] at h
          refine es (30, [some (.inr (.inr 0)), some (.inl a1)], [], q1.2) (congrArg some (if_neg hc)) ?_
          refine ev_runs 2 (30, [some (.inr (.inr 0)), some (.inl a1)], [], q1.2) (34, [some (.inr (.inr 0)), some (.inl a1)], [.inr (.inr 7)], q1.2) rfl ?_
          refine ec 46 37 [.inr (.inr 7)] [] rfl (ev_St_choices q1.2 _ rfl) ?_
          show Ev 49 37 [some (.inr (.inr 0)), some (.inl a1)] [.inl (St_choices q1.2)] q1.2 _ _
          cases h
          exact er rfl
      · rw [if_neg hc] at h
        refine es (23, [some (.inr (.inr 0)), some (.inl a1)], [], q1.2) (congrArg some (if_neg hc)) ?_
        refine ev_runs 1 (23, [some (.inr (.inr 0)), some (.inl a1)], [], q1.2) (25, [some (.inr (.inr 0)), some (.inl a1)], [.inl (-3)], q1.2) rfl ?_
        cases h
        exact er rfl
    · rw [if_neg hc] at h
      refine es (9, [some (.inr (.inr 0)), some (.inl a1)], [], g) (congrArg some (if_neg hc)) ?_
      refine ev_runs 1 (9, [some (.inr (.inr 0)), some (.inl a1)], [], g) (11, [some (.inr (.inr 0)), some (.inl a1)], [.inl (-2)], g) rfl ?_
      cases h
      exact er rfl
set_option maxRecDepth 100000 in
set_option maxHeartbeats 4000000 in
theorem ev_Md_plan (a1 : Int) (g : Gx) (r : Int) (g' : Gx) (h : Md_plan a1 g = some (r, g')) : Ev 50 0 [some (.inr (.inr 92)), some (.inl a1)] [] g (some (.inl r)) g' := by
  rw [Md_plan] at h
  refine ev_runs 4 (0, [some (.inr (.inr 92)), some (.inl a1)], [], g) (6, [some (.inr (.inr 92)), some (.inl a1)], [.inr (.inl 2), .inr (.inl 0), .inr (.inl a1)], g) rfl ?_
  refine ec 4 9 [.inr (.inl a1), .inr (.inl 0), .inr (.inl 2)] [] rfl (ev_Md_in a1 0 2 g _ rfl) ?_
  show Ev 50 9 [some (.inr (.inr 92)), some (.inl a1)] [.inl (Md_in a1 0 2)] g _ _
  by_cases hc : ¬ (Md_in a1 0 2) = 0
  · rw [if_pos hc] at h
    refine es (15, [some (.inr (.inr 92)), some (.inl a1)], [], g) (congrArg some (if_pos hc)) ?_
    refine ev_runs 1 (15, [some (.inr (.inr 92)), some (.inl a1)], [], g) (16, [some (.inr (.inr 92)), some (.inl a1)], [.inr (.inr 92)], g) rfl ?_
    obtain ⟨q1, hq, h⟩ := Option.bind_eq_some_iff.mp h
    refine ec 43 19 [.inr (.inr 92)] [] rfl (ev_Md_reads g q1.1 q1.2 hq) ?_
    show Ev 50 19 [some (.inr (.inr 92)), some (.inl a1)] [.inl q1.1] q1.2 _ _
    refine ev_runs 1 (19, [some (.inr (.inr 92)), some (.inl a1)], [.inl q1.1], q1.2) (20, [some (.inr (.inr 92)), some (.inl a1)], [.inl (-1), .inl q1.1], q1.2) rfl ?_
    by_cases hc : q1.1 = (-1)
    · rw [if_pos hc] at h
      refine es (26, [some (.inr (.inr 92)), some (.inl a1)], [], q1.2) (congrArg some (if_pos hc)) ?_
      refine ev_runs 1 (26, [some (.inr (.inr 92)), some (.inl a1)], [], q1.2) (27, [some (.inr (.inr 92)), some (.inl a1)], [.inl a1], q1.2) rfl ?_
      by_cases hc : ¬ a1 = 0
      · rw [if_pos hc] at h
        refine es (37, [some (.inr (.inr 92)), some (.inl a1)], [], q1.2) (congrArg some (if_pos hc)) ?_
        refine ev_runs 2 (37, [some (.inr (.inr 92)), some (.inl a1)], [], q1.2) (39, [some (.inr (.inr 92)), some (.inl a1)], [.inl 1, .inl a1], q1.2) rfl ?_
        by_cases hc : ¬ a1 = 1
        · rw [if_pos hc] at h
          refine es (49, [some (.inr (.inr 92)), some (.inl a1)], [], q1.2) (congrArg some (if_pos hc)) ?_
          refine ev_runs 2 (49, [some (.inr (.inr 92)), some (.inl a1)], [], q1.2) (53, [some (.inr (.inr 92)), some (.inl a1)], [.inl (q1.2 92 17)], q1.2) rfl ?_
          cases h
          exact er rfl
        · rw [if_neg hc] at h
          refine es (42, [some (.inr (.inr 92)), some (.inl a1)], [], q1.2) (congrArg some (if_neg hc)) ?_
          refine ev_runs 3 (42, [some (.inr (.inr 92)), some (.inl a1)], [], q1.2) (53, [some (.inr (.inr 92)), some (.inl a1)], [.inl (q1.2 92 18)], q1.2) rfl ?_
          cases h
          exact er rfl
      · rw [if_neg hc] at h
        refine es (30, [some (.inr (.inr 92)), some (.inl a1)], [], q1.2) (congrArg some (if_neg hc)) ?_
        refine ev_runs 3 (30, [some (.inr (.inr 92)), some (.inl a1)], [], q1.2) (53, [some (.inr (.inr 92)), some (.inl a1)], [.inl (q1.2 92 16)], q1.2) rfl ?_
        cases h
        exact er rfl
    · rw [if_neg hc] at h
      refine es (23, [some (.inr (.inr 92)), some (.inl a1)], [], q1.2) (congrArg some (if_neg hc)) ?_
      refine ev_runs 1 (23, [some (.inr (.inr 92)), some (.inl a1)], [], q1.2) (25, [some (.inr (.inr 92)), some (.inl a1)], [.inl (-3)], q1.2) rfl ?_
      cases h
      exact er rfl
  · rw [if_neg hc] at h
    refine es (12, [some (.inr (.inr 92)), some (.inl a1)], [], g) (congrArg some (if_neg hc)) ?_
    refine ev_runs 1 (12, [some (.inr (.inr 92)), some (.inl a1)], [], g) (14, [some (.inr (.inr 92)), some (.inl a1)], [.inl (-2)], g) rfl ?_
    cases h
    exact er rfl
set_option maxRecDepth 100000 in
set_option maxHeartbeats 4000000 in
theorem ev_Op_tell (a1 : Int) (g : Gx) (r : Int) (g' : Gx) (h : Op_tell a1 g = (r, g')) : Ev 51 0 [some (.inr (.inr 0)), some (.inl a1), none] [] g (some (.inl r)) g' := by
  rw [Op_tell] at h
  refine ev_runs 1 (0, [some (.inr (.inr 0)), some (.inl a1), none], [], g) (1, [some (.inr (.inr 0)), some (.inl a1), none], [.inl a1], g) rfl ?_
  by_cases hc : a1 < 0
  · rw [if_pos hc] at h
    refine es (10, [some (.inr (.inr 0)), some (.inl a1), none], [], g) (congrArg some (if_pos hc)) ?_
    refine ev_runs 1 (10, [some (.inr (.inr 0)), some (.inl a1), none], [], g) (12, [some (.inr (.inr 0)), some (.inl a1), none], [.inl (-2)], g) rfl ?_
    cases h
    exact er rfl
  · rw [if_neg hc] at h
    refine es (4, [some (.inr (.inr 0)), some (.inl a1), none], [], g) (congrArg some (if_neg hc)) ?_
    refine ev_runs 2 (4, [some (.inr (.inr 0)), some (.inl a1), none], [], g) (7, [some (.inr (.inr 0)), some (.inl a1), none], [.inl 1073741823, .inl a1], g) rfl ?_
    by_cases hc : a1 ≤ 1073741823
    · rw [if_pos hc] at h
      refine es (13, [some (.inr (.inr 0)), some (.inl a1), none], [], g) (congrArg some (if_pos hc)) ?_
      refine ev_runs 7 (13, [some (.inr (.inr 0)), some (.inl a1), none], [], g) (24, [some (.inr (.inr 0)), some (.inl a1), some (.inl (g 0 11))], [.inl (g 0 11)], (gset g 0 11 a1)) rfl ?_
      cases h
      exact er rfl
    · rw [if_neg hc] at h
      refine es (10, [some (.inr (.inr 0)), some (.inl a1), none], [], g) (congrArg some (if_neg hc)) ?_
      refine ev_runs 1 (10, [some (.inr (.inr 0)), some (.inl a1), none], [], g) (12, [some (.inr (.inr 0)), some (.inl a1), none], [.inl (-2)], g) rfl ?_
      cases h
      exact er rfl
set_option maxRecDepth 100000 in
set_option maxHeartbeats 4000000 in
theorem ev_Md_tell (a1 : Int) (g : Gx) (r : Int) (g' : Gx) (h : Md_tell a1 g = (r, g')) : Ev 52 0 [some (.inr (.inr 92)), some (.inl a1), none] [] g (some (.inl r)) g' := by
  rw [Md_tell] at h
  refine ev_runs 4 (0, [some (.inr (.inr 92)), some (.inl a1), none], [], g) (6, [some (.inr (.inr 92)), some (.inl a1), none], [.inr (.inl 1073741823), .inr (.inl 0), .inr (.inl a1)], g) rfl ?_
  refine ec 4 9 [.inr (.inl a1), .inr (.inl 0), .inr (.inl 1073741823)] [] rfl (ev_Md_in a1 0 1073741823 g _ rfl) ?_
  show Ev 52 9 [some (.inr (.inr 92)), some (.inl a1), none] [.inl (Md_in a1 0 1073741823)] g _ _
  by_cases hc : ¬ (Md_in a1 0 1073741823) = 0
  · rw [if_pos hc] at h
    refine es (15, [some (.inr (.inr 92)), some (.inl a1), none], [], g) (congrArg some (if_pos hc)) ?_
    refine ev_runs 7 (15, [some (.inr (.inr 92)), some (.inl a1), none], [], g) (26, [some (.inr (.inr 92)), some (.inl a1), some (.inl (g 92 7))], [.inl (g 92 7)], (gset g 92 7 a1)) rfl ?_
    cases h
    exact er rfl
  · rw [if_neg hc] at h
    refine es (12, [some (.inr (.inr 92)), some (.inl a1), none], [], g) (congrArg some (if_neg hc)) ?_
    refine ev_runs 1 (12, [some (.inr (.inr 92)), some (.inl a1), none], [], g) (14, [some (.inr (.inr 92)), some (.inl a1), none], [.inl (-2)], g) rfl ?_
    cases h
    exact er rfl
set_option maxRecDepth 100000 in
set_option maxHeartbeats 4000000 in
theorem ev_St_version (g : Gx) (r : Int) (h : St_version g = r) : Ev 53 0 [some (.inr (.inr 7))] [] g (some (.inl r)) g := by
  rw [St_version] at h
  refine ev_runs 2 (0, [some (.inr (.inr 7))], [], g) (4, [some (.inr (.inr 7))], [.inl (g 7 12)], g) rfl ?_
  subst h
  exact er rfl
set_option maxRecDepth 100000 in
set_option maxHeartbeats 4000000 in
theorem ev_St_beginItems (a1 : Int) (g : Gx) (g' : Gx) (h : St_beginItems a1 g = g') : Ev 54 0 [some (.inr (.inr 7)), some (.inl a1)] [] g none g' := by
  rw [St_beginItems] at h
  refine ev_runs 4 (0, [some (.inr (.inr 7)), some (.inl a1)], [], g) (6, [some (.inr (.inr 7)), some (.inl a1)], [.inl 1, .inl a1, .inr (.inr 20)], g) rfl ?_
  refine ec 0 9 [.inr (.inr 20), .inl a1, .inl 1] [] rfl (ev_Row_set rfl rfl _ _ _) ?_
  show Ev 54 9 [some (.inr (.inr 7)), some (.inl a1)] [] (rset g 21 5 a1 1) _ _
  refine ev_runs 4 (9, [some (.inr (.inr 7)), some (.inl a1)], [], (rset g 21 5 a1 1)) (15, [some (.inr (.inr 7)), some (.inl a1)], [.inl 0, .inl a1, .inr (.inr 22)], (rset g 21 5 a1 1)) rfl ?_
  refine ec 0 18 [.inr (.inr 22), .inl a1, .inl 0] [] rfl (ev_Row_set rfl rfl _ _ _) ?_
  show Ev 54 18 [some (.inr (.inr 7)), some (.inl a1)] [] (rset (rset g 21 5 a1 1) 23 5 a1 0) _ _
  subst h
  exact er rfl
set_option maxRecDepth 100000 in
set_option maxHeartbeats 4000000 in
theorem ev_St_upTo (a0 a1 : Int) (g : Gx) (r : Int) (h : St_upTo a0 a1 = r) : Ev 55 0 [some (.inl a0), some (.inl a1)] [] g (some (.inl r)) g := by
  rw [St_upTo] at h
  refine ev_runs 2 (0, [some (.inl a0), some (.inl a1)], [], g) (2, [some (.inl a0), some (.inl a1)], [.inl a0, .inl a1], g) rfl ?_
  by_cases hc : a0 ≤ a1
  · rw [if_pos hc] at h
    refine es (9, [some (.inl a0), some (.inl a1)], [], g) (congrArg some (if_pos hc)) ?_
    refine ev_runs 1 (9, [some (.inl a0), some (.inl a1)], [], g) (10, [some (.inl a0), some (.inl a1)], [.inl a0], g) rfl ?_
    subst h
    exact er rfl
  · rw [if_neg hc] at h
    refine es (5, [some (.inl a0), some (.inl a1)], [], g) (congrArg some (if_neg hc)) ?_
    refine ev_runs 2 (5, [some (.inl a0), some (.inl a1)], [], g) (10, [some (.inl a0), some (.inl a1)], [.inl a1], g) rfl ?_
    subst h
    exact er rfl
set_option maxRecDepth 100000 in
set_option maxHeartbeats 4000000 in
theorem ev_St_endWay (a1 : Int) (g : Gx) (g' : Gx) (h : St_endWay a1 g = g') : Ev 56 0 [some (.inr (.inr 7)), some (.inl a1)] [] g none g' := by
  rw [St_endWay] at h
  refine ev_runs 7 (0, [some (.inr (.inr 7)), some (.inl a1)], [], g) (12, [some (.inr (.inr 7)), some (.inl a1)], [.inl a1, .inr (.inr 24), .inl 31, .inl a1, .inr (.inr 24)], g) rfl ?_
  refine ec 13 15 [.inr (.inr 24), .inl a1] [.inl 31, .inl a1, .inr (.inr 24)] rfl (ev_Row_at rfl rfl _ _) ?_
  show Ev 56 15 [some (.inr (.inr 7)), some (.inl a1)] [.inl (rat g 25 5 a1), .inl 31, .inl a1, .inr (.inr 24)] g _ _
  refine ev_runs 3 (15, [some (.inr (.inr 7)), some (.inl a1)], [.inl (rat g 25 5 a1), .inl 31, .inl a1, .inr (.inr 24)], g) (20, [some (.inr (.inr 7)), some (.inl a1)], [.inl a1, .inr (.inr 20), .inl (rat g 25 5 a1), .inl 31, .inl a1, .inr (.inr 24)], g) rfl ?_
  refine ec 13 23 [.inr (.inr 20), .inl a1] [.inl (rat g 25 5 a1), .inl 31, .inl a1, .inr (.inr 24)] rfl (ev_Row_at rfl rfl _ _) ?_
  show Ev 56 23 [some (.inr (.inr 7)), some (.inl a1)] [.inl (rat g 21 5 a1), .inl (rat g 25 5 a1), .inl 31, .inl a1, .inr (.inr 24)] g _ _
  refine ev_runs 1 (23, [some (.inr (.inr 7)), some (.inl a1)], [.inl (rat g 21 5 a1), .inl (rat g 25 5 a1), .inl 31, .inl a1, .inr (.inr 24)], g) (24, [some (.inr (.inr 7)), some (.inl a1)], [.inl (wr ((rat g 25 5 a1) + (rat g 21 5 a1))), .inl 31, .inl a1, .inr (.inr 24)], g) rfl ?_
  refine ec 55 27 [.inl 31, .inl (wr ((rat g 25 5 a1) + (rat g 21 5 a1)))] [.inl a1, .inr (.inr 24)] rfl (ev_St_upTo 31 (wr ((rat g 25 5 a1) + (rat g 21 5 a1))) g _ rfl) ?_
  show Ev 56 27 [some (.inr (.inr 7)), some (.inl a1)] [.inl (St_upTo 31 (wr ((rat g 25 5 a1) + (rat g 21 5 a1)))), .inl a1, .inr (.inr 24)] g _ _
  refine ec 0 30 [.inr (.inr 24), .inl a1, .inl (St_upTo 31 (wr ((rat g 25 5 a1) + (rat g 21 5 a1))))] [] rfl (ev_Row_set rfl rfl _ _ _) ?_
  show Ev 56 30 [some (.inr (.inr 7)), some (.inl a1)] [] (rset g 25 5 a1 (St_upTo 31 (wr ((rat g 25 5 a1) + (rat g 21 5 a1))))) _ _
  refine ev_runs 3 (30, [some (.inr (.inr 7)), some (.inl a1)], [], (rset g 25 5 a1 (St_upTo 31 (wr ((rat g 25 5 a1) + (rat g 21 5 a1)))))) (35, [some (.inr (.inr 7)), some (.inl a1)], [.inl a1, .inr (.inr 22)], (rset g 25 5 a1 (St_upTo 31 (wr ((rat g 25 5 a1) + (rat g 21 5 a1)))))) rfl ?_
  refine ec 13 38 [.inr (.inr 22), .inl a1] [] rfl (ev_Row_at rfl rfl _ _) ?_
  show Ev 56 38 [some (.inr (.inr 7)), some (.inl a1)] [.inl (rat g 23 5 a1)] (rset g 25 5 a1 (St_upTo 31 (wr ((rat g 25 5 a1) + (rat g 21 5 a1))))) _ _
  refine ev_runs 3 (38, [some (.inr (.inr 7)), some (.inl a1)], [.inl (rat g 23 5 a1)], (rset g 25 5 a1 (St_upTo 31 (wr ((rat g 25 5 a1) + (rat g 21 5 a1)))))) (43, [some (.inr (.inr 7)), some (.inl a1)], [.inl a1, .inr (.inr 26), .inl (rat g 23 5 a1)], (rset g 25 5 a1 (St_upTo 31 (wr ((rat g 25 5 a1) + (rat g 21 5 a1)))))) rfl ?_
  refine ec 13 46 [.inr (.inr 26), .inl a1] [.inl (rat g 23 5 a1)] rfl (ev_Row_at rfl rfl _ _) ?_
  show Ev 56 46 [some (.inr (.inr 7)), some (.inl a1)] [.inl (rat g 27 5 a1), .inl (rat g 23 5 a1)] (rset g 25 5 a1 (St_upTo 31 (wr ((rat g 25 5 a1) + (rat g 21 5 a1))))) _ _
  by_cases hc : (rat g 23 5 a1) ≤ (rat g 27 5 a1)
  · rw [if_pos hc] at h
    refine es (65, [some (.inr (.inr 7)), some (.inl a1)], [], (rset g 25 5 a1 (St_upTo 31 (wr ((rat g 25 5 a1) + (rat g 21 5 a1)))))) (congrArg some (if_pos hc)) ?_
    refine ev_runs 2 (65, [some (.inr (.inr 7)), some (.inl a1)], [], (rset g 25 5 a1 (St_upTo 31 (wr ((rat g 25 5 a1) + (rat g 21 5 a1)))))) (67, [some (.inr (.inr 7)), some (.inl a1)], [.inl a1, .inr (.inr 7)], (rset g 25 5 a1 (St_upTo 31 (wr ((rat g 25 5 a1) + (rat g 21 5 a1)))))) rfl ?_
    obtain ⟨g1, hq, h⟩ := lett_inv h
    refine ec 54 70 [.inr (.inr 7), .inl a1] [] rfl (ev_St_beginItems a1 (rset g 25 5 a1 (St_upTo 31 (wr ((rat g 25 5 a1) + (rat g 21 5 a1))))) g1 hq.symm) ?_
    show Ev 56 70 [some (.inr (.inr 7)), some (.inl a1)] [] g1 _ _
    subst h
    exact er rfl
  · rw [if_neg hc] at h
    refine es (49, [some (.inr (.inr 7)), some (.inl a1)], [], (rset g 25 5 a1 (St_upTo 31 (wr ((rat g 25 5 a1) + (rat g 21 5 a1)))))) (congrArg some (if_neg hc)) ?_
    refine ev_runs 6 (49, [some (.inr (.inr 7)), some (.inl a1)], [], (rset g 25 5 a1 (St_upTo 31 (wr ((rat g 25 5 a1) + (rat g 21 5 a1)))))) (59, [some (.inr (.inr 7)), some (.inl a1)], [.inl a1, .inr (.inr 22), .inl a1, .inr (.inr 26)], (rset g 25 5 a1 (St_upTo 31 (wr ((rat g 25 5 a1) + (rat g 21 5 a1)))))) rfl ?_
    refine ec 13 62 [.inr (.inr 22), .inl a1] [.inl a1, .inr (.inr 26)] rfl (ev_Row_at rfl rfl _ _) ?_
    show Ev 56 62 [some (.inr (.inr 7)), some (.inl a1)] [.inl (rat g 23 5 a1), .inl a1, .inr (.inr 26)] (rset g 25 5 a1 (St_upTo 31 (wr ((rat g 25 5 a1) + (rat g 21 5 a1))))) _ _
    refine ec 0 65 [.inr (.inr 26), .inl a1, .inl (rat g 23 5 a1)] [] rfl (ev_Row_set rfl rfl _ _ _) ?_
    show Ev 56 65 [some (.inr (.inr 7)), some (.inl a1)] [] (rset (rset g 25 5 a1 (St_upTo 31 (wr ((rat g 25 5 a1) + (rat g 21 5 a1))))) 27 5 a1 (rat g 23 5 a1)) _ _
    refine ev_runs 2 (65, [some (.inr (.inr 7)), some (.inl a1)], [], (rset (rset g 25 5 a1 (St_upTo 31 (wr ((rat g 25 5 a1) + (rat g 21 5 a1))))) 27 5 a1 (rat g 23 5 a1))) (67, [some (.inr (.inr 7)), some (.inl a1)], [.inl a1, .inr (.inr 7)], (rset (rset g 25 5 a1 (St_upTo 31 (wr ((rat g 25 5 a1) + (rat g 21 5 a1))))) 27 5 a1 (rat g 23 5 a1))) rfl ?_
    obtain ⟨g2, hq, h⟩ := lett_inv h
    refine ec 54 70 [.inr (.inr 7), .inl a1] [] rfl (ev_St_beginItems a1 (rset (rset g 25 5 a1 (St_upTo 31 (wr ((rat g 25 5 a1) + (rat g 21 5 a1))))) 27 5 a1 (rat g 23 5 a1)) g2 hq.symm) ?_
    show Ev 56 70 [some (.inr (.inr 7)), some (.inl a1)] [] g2 _ _
    subst h
    exact er rfl
set_option maxRecDepth 100000 in
set_option maxHeartbeats 4000000 in
theorem ev_St_toldOf (a1 a2 : Int) (g : Gx) (r : Int) (h : St_toldOf a1 a2 g = r) : Ev 57 0 [some (.inr (.inr 7)), some (.inl a1), some (.inl a2), none] [] g (some (.inl r)) g := by
  rw [St_toldOf] at h
  refine ev_runs 1 (0, [some (.inr (.inr 7)), some (.inl a1), some (.inl a2), none], [], g) (1, [some (.inr (.inr 7)), some (.inl a1), some (.inl a2), none], [.inl a1], g) rfl ?_
  by_cases hc : a1 < 0
  · rw [if_pos hc] at h
    refine es (9, [some (.inr (.inr 7)), some (.inl a1), some (.inl a2), none], [], g) (congrArg some (if_pos hc)) ?_
    refine ev_runs 1 (9, [some (.inr (.inr 7)), some (.inl a1), some (.inl a2), none], [], g) (10, [some (.inr (.inr 7)), some (.inl a1), some (.inl a2), none], [.inl 0], g) rfl ?_
    subst h
    exact er rfl
  · rw [if_neg hc] at h
    refine es (4, [some (.inr (.inr 7)), some (.inl a1), some (.inl a2), none], [], g) (congrArg some (if_neg hc)) ?_
    refine ev_runs 2 (4, [some (.inr (.inr 7)), some (.inl a1), some (.inl a2), none], [], g) (6, [some (.inr (.inr 7)), some (.inl a1), some (.inl a2), none], [.inl 5, .inl a1], g) rfl ?_
    by_cases hc : a1 < 5
    · rw [if_pos hc] at h
      refine es (11, [some (.inr (.inr 7)), some (.inl a1), some (.inl a2), none], [], g) (congrArg some (if_pos hc)) ?_
      refine ev_runs 5 (11, [some (.inr (.inr 7)), some (.inl a1), some (.inl a2), none], [], g) (19, [some (.inr (.inr 7)), some (.inl a1), some (.inl a2), none], [.inl a1, .inr (.inr 12), .inl 1, .inl 63], g) rfl ?_
      refine ec 13 22 [.inr (.inr 12), .inl a1] [.inl 1, .inl 63] rfl (ev_Row_at rfl rfl _ _) ?_
      show Ev 57 22 [some (.inr (.inr 7)), some (.inl a1), some (.inl a2), none] [.inl (rat g 13 40 a1), .inl 1, .inl 63] g _ _
      refine ev_runs 12 (22, [some (.inr (.inr 7)), some (.inl a1), some (.inl a2), none], [.inl (rat g 13 40 a1), .inl 1, .inl 63], g) (35, [some (.inr (.inr 7)), some (.inl a1), some (.inl a2), some (.inl (jand 63 (jxor (jshl 1 (rat g 13 40 a1)) (-1))))], [.inl (jand (jshr a2 (wr (a1 * 6))) (jand 63 (jxor (jshl 1 (rat g 13 40 a1)) (-1))))], g) rfl ?_
      subst h
      exact er rfl
    · rw [if_neg hc] at h
      refine es (9, [some (.inr (.inr 7)), some (.inl a1), some (.inl a2), none], [], g) (congrArg some (if_neg hc)) ?_
      refine ev_runs 1 (9, [some (.inr (.inr 7)), some (.inl a1), some (.inl a2), none], [], g) (10, [some (.inr (.inr 7)), some (.inl a1), some (.inl a2), none], [.inl 0], g) rfl ?_
      subst h
      exact er rfl
set_option maxRecDepth 100000 in
set_option maxHeartbeats 4000000 in
theorem ev_Ji_bitCount (a0 : Int) (g : Gx) (r : Int) (h : Ji_bitCount a0 = r) : Ev 58 0 [some (.inl a0)] [] g (some (.inl r)) g := by
  rw [Ji_bitCount] at h
  refine ev_runs 41 (0, [some (.inl a0)], [], g) (52, [some (.inl (wr ((wr ((jand (wr ((wr ((jand (wr (a0 - (jand (jushr a0 1) 1431655765))) 858993459) + (jand (jushr (wr (a0 - (jand (jushr a0 1) 1431655765))) 2) 858993459))) + (jushr (wr ((jand (wr (a0 - (jand (jushr a0 1) 1431655765))) 858993459) + (jand (jushr (wr (a0 - (jand (jushr a0 1) 1431655765))) 2) 858993459))) 4))) 252645135) + (jushr (jand (wr ((wr ((jand (wr (a0 - (jand (jushr a0 1) 1431655765))) 858993459) + (jand (jushr (wr (a0 - (jand (jushr a0 1) 1431655765))) 2) 858993459))) + (jushr (wr ((jand (wr (a0 - (jand (jushr a0 1) 1431655765))) 858993459) + (jand (jushr (wr (a0 - (jand (jushr a0 1) 1431655765))) 2) 858993459))) 4))) 252645135) 8))) + (jushr (wr ((jand (wr ((wr ((jand (wr (a0 - (jand (jushr a0 1) 1431655765))) 858993459) + (jand (jushr (wr (a0 - (jand (jushr a0 1) 1431655765))) 2) 858993459))) + (jushr (wr ((jand (wr (a0 - (jand (jushr a0 1) 1431655765))) 858993459) + (jand (jushr (wr (a0 - (jand (jushr a0 1) 1431655765))) 2) 858993459))) 4))) 252645135) + (jushr (jand (wr ((wr ((jand (wr (a0 - (jand (jushr a0 1) 1431655765))) 858993459) + (jand (jushr (wr (a0 - (jand (jushr a0 1) 1431655765))) 2) 858993459))) + (jushr (wr ((jand (wr (a0 - (jand (jushr a0 1) 1431655765))) 858993459) + (jand (jushr (wr (a0 - (jand (jushr a0 1) 1431655765))) 2) 858993459))) 4))) 252645135) 8))) 16))))], [.inl (jand (wr ((wr ((jand (wr ((wr ((jand (wr (a0 - (jand (jushr a0 1) 1431655765))) 858993459) + (jand (jushr (wr (a0 - (jand (jushr a0 1) 1431655765))) 2) 858993459))) + (jushr (wr ((jand (wr (a0 - (jand (jushr a0 1) 1431655765))) 858993459) + (jand (jushr (wr (a0 - (jand (jushr a0 1) 1431655765))) 2) 858993459))) 4))) 252645135) + (jushr (jand (wr ((wr ((jand (wr (a0 - (jand (jushr a0 1) 1431655765))) 858993459) + (jand (jushr (wr (a0 - (jand (jushr a0 1) 1431655765))) 2) 858993459))) + (jushr (wr ((jand (wr (a0 - (jand (jushr a0 1) 1431655765))) 858993459) + (jand (jushr (wr (a0 - (jand (jushr a0 1) 1431655765))) 2) 858993459))) 4))) 252645135) 8))) + (jushr (wr ((jand (wr ((wr ((jand (wr (a0 - (jand (jushr a0 1) 1431655765))) 858993459) + (jand (jushr (wr (a0 - (jand (jushr a0 1) 1431655765))) 2) 858993459))) + (jushr (wr ((jand (wr (a0 - (jand (jushr a0 1) 1431655765))) 858993459) + (jand (jushr (wr (a0 - (jand (jushr a0 1) 1431655765))) 2) 858993459))) 4))) 252645135) + (jushr (jand (wr ((wr ((jand (wr (a0 - (jand (jushr a0 1) 1431655765))) 858993459) + (jand (jushr (wr (a0 - (jand (jushr a0 1) 1431655765))) 2) 858993459))) + (jushr (wr ((jand (wr (a0 - (jand (jushr a0 1) 1431655765))) 858993459) + (jand (jushr (wr (a0 - (jand (jushr a0 1) 1431655765))) 2) 858993459))) 4))) 252645135) 8))) 16))) 63)], g) rfl ?_
  subst h
  exact er rfl
set_option maxRecDepth 100000 in
set_option maxHeartbeats 4000000 in
theorem ev_St_addItem (a1 a2 a3 : Int) (g : Gx) (g' : Gx) (h : St_addItem a1 a2 a3 g = g') : Ev 59 0 [some (.inr (.inr 7)), some (.inl a1), some (.inl a2), some (.inl a3)] [] g none g' := by
  rw [St_addItem] at h
  refine ev_runs 7 (0, [some (.inr (.inr 7)), some (.inl a1), some (.inl a2), some (.inl a3)], [], g) (12, [some (.inr (.inr 7)), some (.inl a1), some (.inl a2), some (.inl a3)], [.inl a1, .inr (.inr 20), .inl 31, .inl a1, .inr (.inr 20)], g) rfl ?_
  refine ec 13 15 [.inr (.inr 20), .inl a1] [.inl 31, .inl a1, .inr (.inr 20)] rfl (ev_Row_at rfl rfl _ _) ?_
  show Ev 59 15 [some (.inr (.inr 7)), some (.inl a1), some (.inl a2), some (.inl a3)] [.inl (rat g 21 5 a1), .inl 31, .inl a1, .inr (.inr 20)] g _ _
  refine ev_runs 2 (15, [some (.inr (.inr 7)), some (.inl a1), some (.inl a2), some (.inl a3)], [.inl (rat g 21 5 a1), .inl 31, .inl a1, .inr (.inr 20)], g) (17, [some (.inr (.inr 7)), some (.inl a1), some (.inl a2), some (.inl a3)], [.inl (wr ((rat g 21 5 a1) * a2)), .inl 31, .inl a1, .inr (.inr 20)], g) rfl ?_
  refine ec 55 20 [.inl 31, .inl (wr ((rat g 21 5 a1) * a2))] [.inl a1, .inr (.inr 20)] rfl (ev_St_upTo 31 (wr ((rat g 21 5 a1) * a2)) g _ rfl) ?_
  show Ev 59 20 [some (.inr (.inr 7)), some (.inl a1), some (.inl a2), some (.inl a3)] [.inl (St_upTo 31 (wr ((rat g 21 5 a1) * a2))), .inl a1, .inr (.inr 20)] g _ _
  refine ec 0 23 [.inr (.inr 20), .inl a1, .inl (St_upTo 31 (wr ((rat g 21 5 a1) * a2)))] [] rfl (ev_Row_set rfl rfl _ _ _) ?_
  show Ev 59 23 [some (.inr (.inr 7)), some (.inl a1), some (.inl a2), some (.inl a3)] [] (rset g 21 5 a1 (St_upTo 31 (wr ((rat g 21 5 a1) * a2)))) _ _
  refine ev_runs 7 (23, [some (.inr (.inr 7)), some (.inl a1), some (.inl a2), some (.inl a3)], [], (rset g 21 5 a1 (St_upTo 31 (wr ((rat g 21 5 a1) * a2))))) (35, [some (.inr (.inr 7)), some (.inl a1), some (.inl a2), some (.inl a3)], [.inl a1, .inr (.inr 22), .inl 25, .inl a1, .inr (.inr 22)], (rset g 21 5 a1 (St_upTo 31 (wr ((rat g 21 5 a1) * a2))))) rfl ?_
  refine ec 13 38 [.inr (.inr 22), .inl a1] [.inl 25, .inl a1, .inr (.inr 22)] rfl (ev_Row_at rfl rfl _ _) ?_
  show Ev 59 38 [some (.inr (.inr 7)), some (.inl a1), some (.inl a2), some (.inl a3)] [.inl (rat g 23 5 a1), .inl 25, .inl a1, .inr (.inr 22)] (rset g 21 5 a1 (St_upTo 31 (wr ((rat g 21 5 a1) * a2)))) _ _
  refine ev_runs 2 (38, [some (.inr (.inr 7)), some (.inl a1), some (.inl a2), some (.inl a3)], [.inl (rat g 23 5 a1), .inl 25, .inl a1, .inr (.inr 22)], (rset g 21 5 a1 (St_upTo 31 (wr ((rat g 21 5 a1) * a2))))) (40, [some (.inr (.inr 7)), some (.inl a1), some (.inl a2), some (.inl a3)], [.inl (wr ((rat g 23 5 a1) + a3)), .inl 25, .inl a1, .inr (.inr 22)], (rset g 21 5 a1 (St_upTo 31 (wr ((rat g 21 5 a1) * a2))))) rfl ?_
  refine ec 55 43 [.inl 25, .inl (wr ((rat g 23 5 a1) + a3))] [.inl a1, .inr (.inr 22)] rfl (ev_St_upTo 25 (wr ((rat g 23 5 a1) + a3)) (rset g 21 5 a1 (St_upTo 31 (wr ((rat g 21 5 a1) * a2)))) _ rfl) ?_
  show Ev 59 43 [some (.inr (.inr 7)), some (.inl a1), some (.inl a2), some (.inl a3)] [.inl (St_upTo 25 (wr ((rat g 23 5 a1) + a3))), .inl a1, .inr (.inr 22)] (rset g 21 5 a1 (St_upTo 31 (wr ((rat g 21 5 a1) * a2)))) _ _
  refine ec 0 46 [.inr (.inr 22), .inl a1, .inl (St_upTo 25 (wr ((rat g 23 5 a1) + a3)))] [] rfl (ev_Row_set rfl rfl _ _ _) ?_
  show Ev 59 46 [some (.inr (.inr 7)), some (.inl a1), some (.inl a2), some (.inl a3)] [] (rset (rset g 21 5 a1 (St_upTo 31 (wr ((rat g 21 5 a1) * a2)))) 23 5 a1 (St_upTo 25 (wr ((rat g 23 5 a1) + a3)))) _ _
  subst h
  exact er rfl
