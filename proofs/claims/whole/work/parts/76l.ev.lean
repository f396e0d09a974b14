/-! The small machine does what the functions say. Printed by wip/gen/gen_parts.py. -/
set_option maxRecDepth 100000 in
set_option maxHeartbeats 4000000 in
theorem ev_Op_count (a1 : Int) (g : Gx) (r : Int) (g' : Gx) (h : Op_count a1 g = some (r, g')) : Ev 254 0 [some (.inr (.inr 0)), some (.inl a1), none] [] g (some (.inl r)) g' := by
  rw [Op_count] at h
  refine ev_runs 2 (0, [some (.inr (.inr 0)), some (.inl a1), none], [], g) (2, [some (.inr (.inr 0)), some (.inl a1), none], [.inl 4, .inl a1], g) rfl ?_
  by_cases hc : a1 = 4
  · rw [if_pos hc] at h
    refine es (10, [some (.inr (.inr 0)), some (.inl a1), none], [], g) (congrArg some (if_pos hc)) ?_
    refine ev_runs 2 (10, [some (.inr (.inr 0)), some (.inl a1), none], [], g) (12, [some (.inr (.inr 0)), some (.inl a1), none], [.inl 0, .inr (.inr 0)], g) rfl ?_
    obtain ⟨q1, hq, h⟩ := Option.bind_eq_some_iff.mp h
    refine ec 75 15 [.inr (.inr 0), .inl 0] [] rfl (ev_Op_hindrance 0 g q1.1 q1.2 hq) ?_
    show Ev 254 15 [some (.inr (.inr 0)), some (.inl a1), none] [.inl q1.1] q1.2 _ _
    refine ev_runs 2 (15, [some (.inr (.inr 0)), some (.inl a1), none], [.inl q1.1], q1.2) (17, [some (.inr (.inr 0)), some (.inl a1), some (.inl q1.1)], [.inl q1.1], q1.2) rfl ?_
    by_cases hc : q1.1 = 0
    · rw [if_pos hc] at h
      refine es (22, [some (.inr (.inr 0)), some (.inl a1), some (.inl q1.1)], [], q1.2) (congrArg some (if_pos hc)) ?_
      refine ev_runs 2 (22, [some (.inr (.inr 0)), some (.inl a1), some (.inl q1.1)], [], q1.2) (24, [some (.inr (.inr 0)), some (.inl a1), some (.inl q1.1)], [.inl 4, .inl a1], q1.2) rfl ?_
      by_cases hc : ¬ a1 = 4
      · rw [if_pos hc] at h
        refine es (37, [some (.inr (.inr 0)), some (.inl a1), some (.inl q1.1)], [], q1.2) (congrArg some (if_pos hc)) ?_
        refine ev_runs 2 (37, [some (.inr (.inr 0)), some (.inl a1), some (.inl q1.1)], [], q1.2) (41, [some (.inr (.inr 0)), some (.inl a1), some (.inl q1.1)], [.inr (.inr 55)], q1.2) rfl ?_
        obtain ⟨q2, hq, h⟩ := Option.bind_eq_some_iff.mp h
        refine ec 124 44 [.inr (.inr 55)] [] rfl (ev_Kn_soundness q1.2 q2.1 q2.2 hq) ?_
        show Ev 254 44 [some (.inr (.inr 0)), some (.inl a1), some (.inl q1.1)] [.inl q2.1] q2.2 _ _
        cases h
        exact er rfl
      · rw [if_neg hc] at h
        refine es (27, [some (.inr (.inr 0)), some (.inl a1), some (.inl q1.1)], [], q1.2) (congrArg some (if_neg hc)) ?_
        refine ev_runs 2 (27, [some (.inr (.inr 0)), some (.inl a1), some (.inl q1.1)], [], q1.2) (31, [some (.inr (.inr 0)), some (.inl a1), some (.inl q1.1)], [.inr (.inr 33)], q1.2) rfl ?_
        refine ec 74 34 [.inr (.inr 33)] [] rfl (ev_Hi_size q1.2 _ rfl) ?_
        show Ev 254 34 [some (.inr (.inr 0)), some (.inl a1), some (.inl q1.1)] [.inl (Hi_size q1.2)] q1.2 _ _
        refine ev_runs 1 (34, [some (.inr (.inr 0)), some (.inl a1), some (.inl q1.1)], [.inl (Hi_size q1.2)], q1.2) (44, [some (.inr (.inr 0)), some (.inl a1), some (.inl q1.1)], [.inl (Hi_size q1.2)], q1.2) rfl ?_
        cases h
        exact er rfl
    · rw [if_neg hc] at h
      refine es (20, [some (.inr (.inr 0)), some (.inl a1), some (.inl q1.1)], [], q1.2) (congrArg some (if_neg hc)) ?_
      refine ev_runs 1 (20, [some (.inr (.inr 0)), some (.inl a1), some (.inl q1.1)], [], q1.2) (21, [some (.inr (.inr 0)), some (.inl a1), some (.inl q1.1)], [.inl q1.1], q1.2) rfl ?_
      cases h
      exact er rfl
  · rw [if_neg hc] at h
    refine es (5, [some (.inr (.inr 0)), some (.inl a1), none], [], g) (congrArg some (if_neg hc)) ?_
    refine ev_runs 2 (5, [some (.inr (.inr 0)), some (.inl a1), none], [], g) (7, [some (.inr (.inr 0)), some (.inl a1), none], [.inl 5, .inl a1], g) rfl ?_
    by_cases hc : ¬ a1 = 5
    · rw [if_pos hc] at h
      refine es (45, [some (.inr (.inr 0)), some (.inl a1), none], [], g) (congrArg some (if_pos hc)) ?_
      refine ev_runs 1 (45, [some (.inr (.inr 0)), some (.inl a1), none], [], g) (46, [some (.inr (.inr 0)), some (.inl a1), none], [.inl a1], g) rfl ?_
      by_cases hd : a1 < 0 ∨ 8 < a1
      · rw [if_pos hd] at h
        refine ev_sw (tgt := 130) rfl (if_pos hd) ?_
        show Ev 254 130 [some (.inr (.inr 0)), some (.inl a1), none] [] g _ _
        refine ev_runs 1 (130, [some (.inr (.inr 0)), some (.inl a1), none], [], g) (132, [some (.inr (.inr 0)), some (.inl a1), none], [.inl (-2)], g) rfl ?_
        cases h
        exact er rfl
      rw [if_neg hd] at h
      by_cases hx0 : a1 = 0
      · rw [if_pos hx0] at h
        refine ev_sw (tgt := 96) rfl (by rw [hx0]; rfl) ?_
        show Ev 254 96 [some (.inr (.inr 0)), some (.inl a1), none] [] g _ _
        refine ev_runs 2 (96, [some (.inr (.inr 0)), some (.inl a1), none], [], g) (100, [some (.inr (.inr 0)), some (.inl a1), none], [.inr (.inr 1)], g) rfl ?_
        refine ec 2 103 [.inr (.inr 1)] [] rfl (ev_Tx_length1 g _ rfl) ?_
        show Ev 254 103 [some (.inr (.inr 0)), some (.inl a1), none] [.inl (Tx_length1 g)] g _ _
        cases h
        exact er rfl
      rw [if_neg hx0] at h
      by_cases hx1 : a1 = 1
      · rw [if_pos hx1] at h
        refine ev_sw (tgt := 104) rfl (by rw [hx1]; rfl) ?_
        show Ev 254 104 [some (.inr (.inr 0)), some (.inl a1), none] [] g _ _
        refine ev_runs 2 (104, [some (.inr (.inr 0)), some (.inl a1), none], [], g) (108, [some (.inr (.inr 0)), some (.inl a1), none], [.inr (.inr 4)], g) rfl ?_
        refine ec 2 111 [.inr (.inr 4)] [] rfl (ev_Tx_length4 g _ rfl) ?_
        show Ev 254 111 [some (.inr (.inr 0)), some (.inl a1), none] [.inl (Tx_length4 g)] g _ _
        cases h
        exact er rfl
      rw [if_neg hx1] at h
      by_cases hx2 : a1 = 2
      · rw [if_pos hx2] at h
        refine ev_sw (tgt := 112) rfl (by rw [hx2]; rfl) ?_
        show Ev 254 112 [some (.inr (.inr 0)), some (.inl a1), none] [] g _ _
        refine ev_runs 2 (112, [some (.inr (.inr 0)), some (.inl a1), none], [], g) (116, [some (.inr (.inr 0)), some (.inl a1), none], [.inl (g 0 11)], g) rfl ?_
        cases h
        exact er rfl
      rw [if_neg hx2] at h
      by_cases hx3 : a1 = 3
      · rw [if_pos hx3] at h
        refine ev_sw (tgt := 117) rfl (by rw [hx3]; rfl) ?_
        show Ev 254 117 [some (.inr (.inr 0)), some (.inl a1), none] [] g _ _
        refine ev_runs 2 (117, [some (.inr (.inr 0)), some (.inl a1), none], [], g) (121, [some (.inr (.inr 0)), some (.inl a1), none], [.inr (.inr 78)], g) rfl ?_
        refine ec 214 124 [.inr (.inr 78)] [] rfl (ev_Bd_size g _ rfl) ?_
        show Ev 254 124 [some (.inr (.inr 0)), some (.inl a1), none] [.inl (Bd_size g)] g _ _
        cases h
        exact er rfl
      rw [if_neg hx3] at h
      by_cases hx4 : a1 = 4
      · rw [if_pos hx4] at h
        refine ev_sw (tgt := 130) rfl (by rw [hx4]; rfl) ?_
        show Ev 254 130 [some (.inr (.inr 0)), some (.inl a1), none] [] g _ _
        refine ev_runs 1 (130, [some (.inr (.inr 0)), some (.inl a1), none], [], g) (132, [some (.inr (.inr 0)), some (.inl a1), none], [.inl (-2)], g) rfl ?_
        cases h
        exact er rfl
      rw [if_neg hx4] at h
      by_cases hx5 : a1 = 5
      · rw [if_pos hx5] at h
        refine ev_sw (tgt := 130) rfl (by rw [hx5]; rfl) ?_
        show Ev 254 130 [some (.inr (.inr 0)), some (.inl a1), none] [] g _ _
        refine ev_runs 1 (130, [some (.inr (.inr 0)), some (.inl a1), none], [], g) (132, [some (.inr (.inr 0)), some (.inl a1), none], [.inl (-2)], g) rfl ?_
        cases h
        exact er rfl
      rw [if_neg hx5] at h
      by_cases hx6 : a1 = 6
      · rw [if_pos hx6] at h
        refine ev_sw (tgt := 130) rfl (by rw [hx6]; rfl) ?_
        show Ev 254 130 [some (.inr (.inr 0)), some (.inl a1), none] [] g _ _
        refine ev_runs 1 (130, [some (.inr (.inr 0)), some (.inl a1), none], [], g) (132, [some (.inr (.inr 0)), some (.inl a1), none], [.inl (-2)], g) rfl ?_
        cases h
        exact er rfl
      rw [if_neg hx6] at h
      by_cases hx7 : a1 = 7
      · rw [if_pos hx7] at h
        refine ev_sw (tgt := 130) rfl (by rw [hx7]; rfl) ?_
        show Ev 254 130 [some (.inr (.inr 0)), some (.inl a1), none] [] g _ _
        refine ev_runs 1 (130, [some (.inr (.inr 0)), some (.inl a1), none], [], g) (132, [some (.inr (.inr 0)), some (.inl a1), none], [.inl (-2)], g) rfl ?_
        cases h
        exact er rfl
      rw [if_neg hx7] at h
      have hx8 : a1 = 8 := by omega
      · skip
        refine ev_sw (tgt := 125) rfl (by rw [hx8]; rfl) ?_
        show Ev 254 125 [some (.inr (.inr 0)), some (.inl a1), none] [] g _ _
        refine ev_runs 2 (125, [some (.inr (.inr 0)), some (.inl a1), none], [], g) (129, [some (.inr (.inr 0)), some (.inl a1), none], [.inl (g 0 12)], g) rfl ?_
        cases h
        exact er rfl
    · rw [if_neg hc] at h
      refine es (10, [some (.inr (.inr 0)), some (.inl a1), none], [], g) (congrArg some (if_neg hc)) ?_
      refine ev_runs 2 (10, [some (.inr (.inr 0)), some (.inl a1), none], [], g) (12, [some (.inr (.inr 0)), some (.inl a1), none], [.inl 0, .inr (.inr 0)], g) rfl ?_
      obtain ⟨q3, hq, h⟩ := Option.bind_eq_some_iff.mp h
      refine ec 75 15 [.inr (.inr 0), .inl 0] [] rfl (ev_Op_hindrance 0 g q3.1 q3.2 hq) ?_
      show Ev 254 15 [some (.inr (.inr 0)), some (.inl a1), none] [.inl q3.1] q3.2 _ _
      refine ev_runs 2 (15, [some (.inr (.inr 0)), some (.inl a1), none], [.inl q3.1], q3.2) (17, [some (.inr (.inr 0)), some (.inl a1), some (.inl q3.1)], [.inl q3.1], q3.2) rfl ?_
      by_cases hc : q3.1 = 0
      · rw [if_pos hc] at h
        refine es (22, [some (.inr (.inr 0)), some (.inl a1), some (.inl q3.1)], [], q3.2) (congrArg some (if_pos hc)) ?_
        refine ev_runs 2 (22, [some (.inr (.inr 0)), some (.inl a1), some (.inl q3.1)], [], q3.2) (24, [some (.inr (.inr 0)), some (.inl a1), some (.inl q3.1)], [.inl 4, .inl a1], q3.2) rfl ?_
        by_cases hc : ¬ a1 = 4
        · rw [if_pos hc] at h
          refine es (37, [some (.inr (.inr 0)), some (.inl a1), some (.inl q3.1)], [], q3.2) (congrArg some (if_pos hc)) ?_
          refine ev_runs 2 (37, [some (.inr (.inr 0)), some (.inl a1), some (.inl q3.1)], [], q3.2) (41, [some (.inr (.inr 0)), some (.inl a1), some (.inl q3.1)], [.inr (.inr 55)], q3.2) rfl ?_
          obtain ⟨q4, hq, h⟩ := Option.bind_eq_some_iff.mp h
          refine ec 124 44 [.inr (.inr 55)] [] rfl (ev_Kn_soundness q3.2 q4.1 q4.2 hq) ?_
          show Ev 254 44 [some (.inr (.inr 0)), some (.inl a1), some (.inl q3.1)] [.inl q4.1] q4.2 _ _
          cases h
          exact er rfl
        · rw [if_neg hc] at h
          refine es (27, [some (.inr (.inr 0)), some (.inl a1), some (.inl q3.1)], [], q3.2) (congrArg some (if_neg hc)) ?_
          refine ev_runs 2 (27, [some (.inr (.inr 0)), some (.inl a1), some (.inl q3.1)], [], q3.2) (31, [some (.inr (.inr 0)), some (.inl a1), some (.inl q3.1)], [.inr (.inr 33)], q3.2) rfl ?_
          refine ec 74 34 [.inr (.inr 33)] [] rfl (ev_Hi_size q3.2 _ rfl) ?_
          show Ev 254 34 [some (.inr (.inr 0)), some (.inl a1), some (.inl q3.1)] [.inl (Hi_size q3.2)] q3.2 _ _
          refine ev_runs 1 (34, [some (.inr (.inr 0)), some (.inl a1), some (.inl q3.1)], [.inl (Hi_size q3.2)], q3.2) (44, [some (.inr (.inr 0)), some (.inl a1), some (.inl q3.1)], [.inl (Hi_size q3.2)], q3.2) rfl ?_
          cases h
          exact er rfl
      · rw [if_neg hc] at h
        refine es (20, [some (.inr (.inr 0)), some (.inl a1), some (.inl q3.1)], [], q3.2) (congrArg some (if_neg hc)) ?_
        refine ev_runs 1 (20, [some (.inr (.inr 0)), some (.inl a1), some (.inl q3.1)], [], q3.2) (21, [some (.inr (.inr 0)), some (.inl a1), some (.inl q3.1)], [.inl q3.1], q3.2) rfl ?_
        cases h
        exact er rfl
set_option maxRecDepth 100000 in
set_option maxHeartbeats 4000000 in
theorem ev_Md_count (a1 : Int) (g : Gx) (r : Int) (g' : Gx) (h : Md_count a1 g = some (r, g')) : Ev 255 0 [some (.inr (.inr 92)), some (.inl a1)] [] g (some (.inl r)) g' := by
  rw [Md_count] at h
  refine ev_runs 1 (0, [some (.inr (.inr 92)), some (.inl a1)], [], g) (1, [some (.inr (.inr 92)), some (.inl a1)], [.inl a1], g) rfl ?_
  by_cases hd : a1 < 0 ∨ 8 < a1
  · rw [if_pos hd] at h
    refine ev_sw (tgt := 84) rfl (if_pos hd) ?_
    show Ev 255 84 [some (.inr (.inr 92)), some (.inl a1)] [] g _ _
    refine ev_runs 1 (84, [some (.inr (.inr 92)), some (.inl a1)], [], g) (86, [some (.inr (.inr 92)), some (.inl a1)], [.inl (-2)], g) rfl ?_
    cases h
    exact er rfl
  rw [if_neg hd] at h
  by_cases hx0 : a1 = 0
  · rw [if_pos hx0] at h
    refine ev_sw (tgt := 52) rfl (by rw [hx0]; rfl) ?_
    show Ev 255 52 [some (.inr (.inr 92)), some (.inl a1)] [] g _ _
    refine ev_runs 3 (52, [some (.inr (.inr 92)), some (.inl a1)], [], g) (57, [some (.inr (.inr 92)), some (.inl a1)], [.inl a1, .inr (.inr 98)], g) rfl ?_
    by_cases hc : 0 ≤ a1 ∧ a1 < 2
    · rw [if_pos hc] at h
      refine es (58, [some (.inr (.inr 92)), some (.inl a1)], [.inl (g 98 a1.toNat)], g) (if_pos hc) ?_
      cases h
      exact er rfl
    · rw [if_neg hc] at h; cases h
  rw [if_neg hx0] at h
  by_cases hx1 : a1 = 1
  · rw [if_pos hx1] at h
    refine ev_sw (tgt := 52) rfl (by rw [hx1]; rfl) ?_
    show Ev 255 52 [some (.inr (.inr 92)), some (.inl a1)] [] g _ _
    refine ev_runs 3 (52, [some (.inr (.inr 92)), some (.inl a1)], [], g) (57, [some (.inr (.inr 92)), some (.inl a1)], [.inl a1, .inr (.inr 98)], g) rfl ?_
    by_cases hc : 0 ≤ a1 ∧ a1 < 2
    · rw [if_pos hc] at h
      refine es (58, [some (.inr (.inr 92)), some (.inl a1)], [.inl (g 98 a1.toNat)], g) (if_pos hc) ?_
      cases h
      exact er rfl
    · rw [if_neg hc] at h; cases h
  rw [if_neg hx1] at h
  by_cases hx2 : a1 = 2
  · rw [if_pos hx2] at h
    refine ev_sw (tgt := 59) rfl (by rw [hx2]; rfl) ?_
    show Ev 255 59 [some (.inr (.inr 92)), some (.inl a1)] [] g _ _
    refine ev_runs 2 (59, [some (.inr (.inr 92)), some (.inl a1)], [], g) (63, [some (.inr (.inr 92)), some (.inl a1)], [.inl (g 92 7)], g) rfl ?_
    cases h
    exact er rfl
  rw [if_neg hx2] at h
  by_cases hx3 : a1 = 3
  · rw [if_pos hx3] at h
    refine ev_sw (tgt := 64) rfl (by rw [hx3]; rfl) ?_
    show Ev 255 64 [some (.inr (.inr 92)), some (.inl a1)] [] g _ _
    refine ev_runs 2 (64, [some (.inr (.inr 92)), some (.inl a1)], [], g) (68, [some (.inr (.inr 92)), some (.inl a1)], [.inl (g 92 48)], g) rfl ?_
    cases h
    exact er rfl
  rw [if_neg hx3] at h
  by_cases hx4 : a1 = 4
  · rw [if_pos hx4] at h
    refine ev_sw (tgt := 69) rfl (by rw [hx4]; rfl) ?_
    show Ev 255 69 [some (.inr (.inr 92)), some (.inl a1)] [] g _ _
    refine ev_runs 1 (69, [some (.inr (.inr 92)), some (.inl a1)], [], g) (70, [some (.inr (.inr 92)), some (.inl a1)], [.inr (.inr 92)], g) rfl ?_
    obtain ⟨q1, hq, h⟩ := Option.bind_eq_some_iff.mp h
    refine ec 82 73 [.inr (.inr 92)] [] rfl (ev_Md_histories g q1.1 q1.2 hq) ?_
    show Ev 255 73 [some (.inr (.inr 92)), some (.inl a1)] [.inl q1.1] q1.2 _ _
    cases h
    exact er rfl
  rw [if_neg hx4] at h
  by_cases hx5 : a1 = 5
  · rw [if_pos hx5] at h
    refine ev_sw (tgt := 74) rfl (by rw [hx5]; rfl) ?_
    show Ev 255 74 [some (.inr (.inr 92)), some (.inl a1)] [] g _ _
    refine ev_runs 1 (74, [some (.inr (.inr 92)), some (.inl a1)], [], g) (75, [some (.inr (.inr 92)), some (.inl a1)], [.inr (.inr 92)], g) rfl ?_
    obtain ⟨q2, hq, h⟩ := Option.bind_eq_some_iff.mp h
    refine ec 127 78 [.inr (.inr 92)] [] rfl (ev_Md_sound g q2.1 q2.2 hq) ?_
    show Ev 255 78 [some (.inr (.inr 92)), some (.inl a1)] [.inl q2.1] q2.2 _ _
    cases h
    exact er rfl
  rw [if_neg hx5] at h
  by_cases hx6 : a1 = 6
  · rw [if_pos hx6] at h
    refine ev_sw (tgt := 84) rfl (by rw [hx6]; rfl) ?_
    show Ev 255 84 [some (.inr (.inr 92)), some (.inl a1)] [] g _ _
    refine ev_runs 1 (84, [some (.inr (.inr 92)), some (.inl a1)], [], g) (86, [some (.inr (.inr 92)), some (.inl a1)], [.inl (-2)], g) rfl ?_
    cases h
    exact er rfl
  rw [if_neg hx6] at h
  by_cases hx7 : a1 = 7
  · rw [if_pos hx7] at h
    refine ev_sw (tgt := 84) rfl (by rw [hx7]; rfl) ?_
    show Ev 255 84 [some (.inr (.inr 92)), some (.inl a1)] [] g _ _
    refine ev_runs 1 (84, [some (.inr (.inr 92)), some (.inl a1)], [], g) (86, [some (.inr (.inr 92)), some (.inl a1)], [.inl (-2)], g) rfl ?_
    cases h
    exact er rfl
  rw [if_neg hx7] at h
  have hx8 : a1 = 8 := by omega
  · skip
    refine ev_sw (tgt := 79) rfl (by rw [hx8]; rfl) ?_
    show Ev 255 79 [some (.inr (.inr 92)), some (.inl a1)] [] g _ _
    refine ev_runs 2 (79, [some (.inr (.inr 92)), some (.inl a1)], [], g) (83, [some (.inr (.inr 92)), some (.inl a1)], [.inl (g 92 4)], g) rfl ?_
    cases h
    exact er rfl
set_option maxRecDepth 100000 in
set_option maxHeartbeats 4000000 in
theorem ev_Op_withHistory_l20 (c3 : Int) (K20_59 : Int → Gx → Option (Int × Gx)) (hK20_59 : ∀ (x4 : Int) (g : Gx) (r : Int) (g' : Gx), K20_59 x4 g = some (r, g') → Ev 256 59 [some (.inr (.inr 0)), none, none, some (.inl c3), some (.inr (.inl x4)), none, none] [] g (some (.inr (.inl r))) g') : ∀ (n20 : Nat) (v4 v6 : Int) (g : Gx) (r : Int) (g' : Gx), Op_withHistory_l20 c3 K20_59 n20 v4 v6 g = some (r, g') → Ev 256 20 [some (.inr (.inr 0)), none, none, some (.inl c3), some (.inr (.inl v4)), none, some (.inl v6)] [] g (some (.inr (.inl r))) g' := by
  intro n20
  induction n20 with
  | zero => intro v4 v6 g r g' h; cases h
  | succ n20 ih20 =>
    intro v4 v6 g r g' h
    rw [Op_withHistory_l20] at h
    refine ev_runs 4 (20, [some (.inr (.inr 0)), none, none, some (.inl c3), some (.inr (.inl v4)), none, some (.inl v6)], [], g) (27, [some (.inr (.inr 0)), none, none, some (.inl c3), some (.inr (.inl v4)), none, some (.inl v6)], [.inl c3, .inr (.inr 33), .inl v6], g) rfl ?_
    refine ec 84 30 [.inr (.inr 33), .inl c3] [.inl v6] rfl (ev_Hi_length c3 g _ rfl) ?_
    show Ev 256 30 [some (.inr (.inr 0)), none, none, some (.inl c3), some (.inr (.inl v4)), none, some (.inl v6)] [.inl (Hi_length c3 g), .inl v6] g _ _
    by_cases hc : (Hi_length c3 g) ≤ v6
    · rw [if_pos hc] at h
      refine es (59, [some (.inr (.inr 0)), none, none, some (.inl c3), some (.inr (.inl v4)), none, some (.inl v6)], [], g) (congrArg some (if_pos hc)) ?_
      exact ev_le (L := [some (.inr (.inr 0)), none, none, some (.inl c3), some (.inr (.inl v4)), none, none]) (by simp [Lle]) (hK20_59 v4 g r g' h)
    · rw [if_neg hc] at h
      refine es (33, [some (.inr (.inr 0)), none, none, some (.inl c3), some (.inr (.inl v4)), none, some (.inl v6)], [], g) (congrArg some (if_neg hc)) ?_
      refine ev_runs 7 (33, [some (.inr (.inr 0)), none, none, some (.inl c3), some (.inr (.inl v4)), none, some (.inl v6)], [], g) (46, [some (.inr (.inr 0)), none, none, some (.inl c3), some (.inr (.inl v4)), none, some (.inl v6)], [.inl v6, .inl c3, .inr (.inr 33), .inr (.inl (wl (31 * v4)))], g) rfl ?_
      refine ec 85 49 [.inr (.inr 33), .inl c3, .inl v6] [.inr (.inl (wl (31 * v4)))] rfl (ev_Hi_word c3 v6 g _ rfl) ?_
      show Ev 256 49 [some (.inr (.inr 0)), none, none, some (.inl c3), some (.inr (.inl v4)), none, some (.inl v6)] [.inl (Hi_word c3 v6 g), .inr (.inl (wl (31 * v4)))] g _ _
      refine ev_runs 5 (49, [some (.inr (.inr 0)), none, none, some (.inl c3), some (.inr (.inl v4)), none, some (.inl v6)], [.inl (Hi_word c3 v6 g), .inr (.inl (wl (31 * v4)))], g) (20, [some (.inr (.inr 0)), none, none, some (.inl c3), some (.inr (.inl (wl ((wl (31 * v4)) + (Hi_word c3 v6 g))))), none, some (.inl (wr (v6 + 1)))], [], g) rfl ?_
      exact ev_le (L := [some (.inr (.inr 0)), none, none, some (.inl c3), some (.inr (.inl (wl ((wl (31 * v4)) + (Hi_word c3 v6 g))))), none, some (.inl (wr (v6 + 1)))]) (by simp [Lle]) (ih20 (wl ((wl (31 * v4)) + (Hi_word c3 v6 g))) (wr (v6 + 1)) g r g' h)
set_option maxRecDepth 100000 in
set_option maxHeartbeats 4000000 in
theorem ev_Op_withHistory (a1 a3 : Int) (g : Gx) (r : Int) (g' : Gx) (h : Op_withHistory a1 a3 g = some (r, g')) : Ev 256 0 [some (.inr (.inr 0)), some (.inr (.inl a1)), none, some (.inl a3), none, none, none] [] g (some (.inr (.inl r))) g' := by
  rw [Op_withHistory] at h
  refine ev_runs 6 (0, [some (.inr (.inr 0)), some (.inr (.inl a1)), none, some (.inl a3), none, none, none], [], g) (10, [some (.inr (.inr 0)), some (.inr (.inl a1)), none, some (.inl a3), none, none, none], [.inl a3, .inr (.inr 33), .inr (.inl (wl (31 * a1)))], g) rfl ?_
  refine ec 84 13 [.inr (.inr 33), .inl a3] [.inr (.inl (wl (31 * a1)))] rfl (ev_Hi_length a3 g _ rfl) ?_
  show Ev 256 13 [some (.inr (.inr 0)), some (.inr (.inl a1)), none, some (.inl a3), none, none, none] [.inl (Hi_length a3 g), .inr (.inl (wl (31 * a1)))] g _ _
  refine ev_runs 5 (13, [some (.inr (.inr 0)), some (.inr (.inl a1)), none, some (.inl a3), none, none, none], [.inl (Hi_length a3 g), .inr (.inl (wl (31 * a1)))], g) (20, [some (.inr (.inr 0)), some (.inr (.inl a1)), none, some (.inl a3), some (.inr (.inl (wl ((wl (31 * a1)) + (Hi_length a3 g))))), none, some (.inl 0)], [], g) rfl ?_
  refine ev_le (L := [some (.inr (.inr 0)), none, none, some (.inl a3), some (.inr (.inl (wl ((wl (31 * a1)) + (Hi_length a3 g))))), none, some (.inl 0)]) (by simp [Lle]) ?_
  refine ev_Op_withHistory_l20 a3 _ ?_ fu (wl ((wl (31 * a1)) + (Hi_length a3 g))) 0 g r g' h
  · intro x1 g2 r g' h
    refine ev_runs 6 (59, [some (.inr (.inr 0)), none, none, some (.inl a3), some (.inr (.inl x1)), none, none], [], g2) (70, [some (.inr (.inr 0)), none, none, some (.inl a3), some (.inr (.inl x1)), none, none], [.inl a3, .inr (.inr 60), .inr (.inl (wl (31 * x1)))], g2) rfl ?_
    obtain ⟨q3, hq, h⟩ := Option.bind_eq_some_iff.mp h
    refine ec 163 73 [.inr (.inr 60), .inl a3] [.inr (.inl (wl (31 * x1)))] rfl (ev_Rn_chain a3 g2 q3.1 q3.2 hq) ?_
    show Ev 256 73 [some (.inr (.inr 0)), none, none, some (.inl a3), some (.inr (.inl x1)), none, none] [.inl q3.1, .inr (.inl (wl (31 * x1)))] q3.2 _ _
    refine ev_runs 2 (73, [some (.inr (.inr 0)), none, none, some (.inl a3), some (.inr (.inl x1)), none, none], [.inl q3.1, .inr (.inl (wl (31 * x1)))], q3.2) (75, [some (.inr (.inr 0)), none, none, some (.inl a3), some (.inr (.inl x1)), none, none], [.inr (.inl (wl ((wl (31 * x1)) + q3.1)))], q3.2) rfl ?_
    cases h
    exact er rfl
set_option maxRecDepth 100000 in
set_option maxHeartbeats 4000000 in
theorem ev_Op_digest_l196 (c1 : Int) (c2 : Int) (K196_233 : Int → Gx → Option (Int × Gx)) (hK196_233 : ∀ (x3 : Int) (g : Gx) (r : Int) (g' : Gx), K196_233 x3 g = some (r, g') → Ev 257 233 [some (.inr (.inr 0)), some (.inl c1), some (.inl c2), some (.inr (.inl x3)), none, none] [] g (some (.inr (.inl r))) g') : ∀ (n196 : Nat) (v3 v5 : Int) (g : Gx) (r : Int) (g' : Gx), Op_digest_l196 c1 c2 K196_233 n196 v3 v5 g = some (r, g') → Ev 257 196 [some (.inr (.inr 0)), some (.inl c1), some (.inl c2), some (.inr (.inl v3)), none, some (.inl v5)] [] g (some (.inr (.inl r))) g' := by
  intro n196
  induction n196 with
  | zero => intro v3 v5 g r g' h; cases h
  | succ n196 ih196 =>
    intro v3 v5 g r g' h
    rw [Op_digest_l196] at h
    refine ev_runs 2 (196, [some (.inr (.inr 0)), some (.inl c1), some (.inl c2), some (.inr (.inl v3)), none, some (.inl v5)], [], g) (199, [some (.inr (.inr 0)), some (.inl c1), some (.inl c2), some (.inr (.inl v3)), none, some (.inl v5)], [.inl 4, .inl v5], g) rfl ?_
    by_cases hc : 4 ≤ v5
    · rw [if_pos hc] at h
      refine es (233, [some (.inr (.inr 0)), some (.inl c1), some (.inl c2), some (.inr (.inl v3)), none, some (.inl v5)], [], g) (congrArg some (if_pos hc)) ?_
      exact ev_le (L := [some (.inr (.inr 0)), some (.inl c1), some (.inl c2), some (.inr (.inl v3)), none, none]) (by simp [Lle]) (hK196_233 v3 g r g' h)
    · rw [if_neg hc] at h
      refine es (202, [some (.inr (.inr 0)), some (.inl c1), some (.inl c2), some (.inr (.inl v3)), none, some (.inl v5)], [], g) (congrArg some (if_neg hc)) ?_
      refine ev_runs 4 (202, [some (.inr (.inr 0)), some (.inl c1), some (.inl c2), some (.inr (.inl v3)), none, some (.inl v5)], [], g) (208, [some (.inr (.inr 0)), some (.inl c1), some (.inl c2), some (.inr (.inl v3)), none, some (.inl v5)], [.inl c2, .inr (.inl (wl (31 * v3)))], g) rfl ?_
      by_cases hc : c2 = 0
      · rw [if_pos hc] at h
        refine es (223, [some (.inr (.inr 0)), some (.inl c1), some (.inl c2), some (.inr (.inl v3)), none, some (.inl v5)], [.inr (.inl (wl (31 * v3)))], g) (congrArg some (if_pos hc)) ?_
        refine ev_runs 6 (223, [some (.inr (.inr 0)), some (.inl c1), some (.inl c2), some (.inr (.inl v3)), none, some (.inl v5)], [.inr (.inl (wl (31 * v3)))], g) (196, [some (.inr (.inr 0)), some (.inl c1), some (.inl c2), some (.inr (.inl (wl ((wl (31 * v3)) + c1)))), none, some (.inl (wr (v5 + 1)))], [], g) rfl ?_
        exact ev_le (L := [some (.inr (.inr 0)), some (.inl c1), some (.inl c2), some (.inr (.inl (wl ((wl (31 * v3)) + c1)))), none, some (.inl (wr (v5 + 1)))]) (by simp [Lle]) (ih196 (wl ((wl (31 * v3)) + c1)) (wr (v5 + 1)) g r g' h)
      · rw [if_neg hc] at h
        refine es (211, [some (.inr (.inr 0)), some (.inl c1), some (.inl c2), some (.inr (.inl v3)), none, some (.inl v5)], [.inr (.inl (wl (31 * v3)))], g) (congrArg some (if_neg hc)) ?_
        refine ev_runs 3 (211, [some (.inr (.inr 0)), some (.inl c1), some (.inl c2), some (.inr (.inl v3)), none, some (.inl v5)], [.inr (.inl (wl (31 * v3)))], g) (217, [some (.inr (.inr 0)), some (.inl c1), some (.inl c2), some (.inr (.inl v3)), none, some (.inl v5)], [.inl v5, .inr (.inr 55), .inr (.inl (wl (31 * v3)))], g) rfl ?_
        obtain ⟨q6, hq, h⟩ := Option.bind_eq_some_iff.mp h
        refine ec 128 220 [.inr (.inr 55), .inl v5] [.inr (.inl (wl (31 * v3)))] rfl (ev_Kn_momentPart v5 g q6.1 q6.2 hq) ?_
        show Ev 257 220 [some (.inr (.inr 0)), some (.inl c1), some (.inl c2), some (.inr (.inl v3)), none, some (.inl v5)] [.inl q6.1, .inr (.inl (wl (31 * v3)))] q6.2 _ _
        refine ev_runs 6 (220, [some (.inr (.inr 0)), some (.inl c1), some (.inl c2), some (.inr (.inl v3)), none, some (.inl v5)], [.inl q6.1, .inr (.inl (wl (31 * v3)))], q6.2) (196, [some (.inr (.inr 0)), some (.inl c1), some (.inl c2), some (.inr (.inl (wl ((wl (31 * v3)) + q6.1)))), none, some (.inl (wr (v5 + 1)))], [], q6.2) rfl ?_
        exact ev_le (L := [some (.inr (.inr 0)), some (.inl c1), some (.inl c2), some (.inr (.inl (wl ((wl (31 * v3)) + q6.1)))), none, some (.inl (wr (v5 + 1)))]) (by simp [Lle]) (ih196 (wl ((wl (31 * v3)) + q6.1)) (wr (v5 + 1)) q6.2 r g' h)
set_option maxRecDepth 100000 in
set_option maxHeartbeats 4000000 in
theorem ev_Op_digest_l160 (c1 : Int) (c2 : Int) (K160_186 : Int → Gx → Option (Int × Gx)) (hK160_186 : ∀ (x3 : Int) (g : Gx) (r : Int) (g' : Gx), K160_186 x3 g = some (r, g') → Ev 257 186 [some (.inr (.inr 0)), some (.inl c1), some (.inl c2), some (.inr (.inl x3)), none, none] [] g (some (.inr (.inl r))) g') : ∀ (n160 : Nat) (v3 v5 : Int) (g : Gx) (r : Int) (g' : Gx), Op_digest_l160 c1 c2 K160_186 n160 v3 v5 g = some (r, g') → Ev 257 160 [some (.inr (.inr 0)), some (.inl c1), some (.inl c2), some (.inr (.inl v3)), none, some (.inl v5)] [] g (some (.inr (.inl r))) g' := by
  intro n160
  induction n160 with
  | zero => intro v3 v5 g r g' h; cases h
  | succ n160 ih160 =>
    intro v3 v5 g r g' h
    rw [Op_digest_l160] at h
    refine ev_runs 3 (160, [some (.inr (.inr 0)), some (.inl c1), some (.inl c2), some (.inr (.inl v3)), none, some (.inl v5)], [], g) (166, [some (.inr (.inr 0)), some (.inl c1), some (.inl c2), some (.inr (.inl v3)), none, some (.inl v5)], [.inr (.inr 33), .inl v5], g) rfl ?_
    refine ec 74 169 [.inr (.inr 33)] [.inl v5] rfl (ev_Hi_size g _ rfl) ?_
    show Ev 257 169 [some (.inr (.inr 0)), some (.inl c1), some (.inl c2), some (.inr (.inl v3)), none, some (.inl v5)] [.inl (Hi_size g), .inl v5] g _ _
    by_cases hc : (Hi_size g) ≤ v5
    · rw [if_pos hc] at h
      refine es (186, [some (.inr (.inr 0)), some (.inl c1), some (.inl c2), some (.inr (.inl v3)), none, some (.inl v5)], [], g) (congrArg some (if_pos hc)) ?_
      exact ev_le (L := [some (.inr (.inr 0)), some (.inl c1), some (.inl c2), some (.inr (.inl v3)), none, none]) (by simp [Lle]) (hK160_186 v3 g r g' h)
    · rw [if_neg hc] at h
      refine es (172, [some (.inr (.inr 0)), some (.inl c1), some (.inl c2), some (.inr (.inl v3)), none, some (.inl v5)], [], g) (congrArg some (if_neg hc)) ?_
      refine ev_runs 3 (172, [some (.inr (.inr 0)), some (.inl c1), some (.inl c2), some (.inr (.inl v3)), none, some (.inl v5)], [], g) (176, [some (.inr (.inr 0)), some (.inl c1), some (.inl c2), some (.inr (.inl v3)), none, some (.inl v5)], [.inl v5, .inr (.inl v3), .inr (.inr 0)], g) rfl ?_
      obtain ⟨q10, hq, h⟩ := Option.bind_eq_some_iff.mp h
      refine ec 256 179 [.inr (.inr 0), .inr (.inl v3), .inl v5] [] rfl (ev_Op_withHistory v3 v5 g q10.1 q10.2 hq) ?_
      show Ev 257 179 [some (.inr (.inr 0)), some (.inl c1), some (.inl c2), some (.inr (.inl v3)), none, some (.inl v5)] [.inr (.inl q10.1)] q10.2 _ _
      refine ev_runs 3 (179, [some (.inr (.inr 0)), some (.inl c1), some (.inl c2), some (.inr (.inl v3)), none, some (.inl v5)], [.inr (.inl q10.1)], q10.2) (160, [some (.inr (.inr 0)), some (.inl c1), some (.inl c2), some (.inr (.inl q10.1)), none, some (.inl (wr (v5 + 1)))], [], q10.2) rfl ?_
      exact ev_le (L := [some (.inr (.inr 0)), some (.inl c1), some (.inl c2), some (.inr (.inl q10.1)), none, some (.inl (wr (v5 + 1)))]) (by simp [Lle]) (ih160 q10.1 (wr (v5 + 1)) q10.2 r g' h)
set_option maxRecDepth 100000 in
set_option maxHeartbeats 4000000 in
theorem ev_Op_digest (g : Gx) (r : Int) (g' : Gx) (h : Op_digest g = some (r, g')) : Ev 257 0 [some (.inr (.inr 0)), none, none, none, none, none] [] g (some (.inr (.inl r))) g' := by
  rw [Op_digest] at h
  refine ev_runs 2 (0, [some (.inr (.inr 0)), none, none, none, none, none], [], g) (2, [some (.inr (.inr 0)), none, none, none, none, none], [.inl 0, .inr (.inr 0)], g) rfl ?_
  obtain ⟨q1, hq, h⟩ := Option.bind_eq_some_iff.mp h
  refine ec 75 5 [.inr (.inr 0), .inl 0] [] rfl (ev_Op_hindrance 0 g q1.1 q1.2 hq) ?_
  show Ev 257 5 [some (.inr (.inr 0)), none, none, none, none, none] [.inl q1.1] q1.2 _ _
  refine ev_runs 2 (5, [some (.inr (.inr 0)), none, none, none, none, none], [.inl q1.1], q1.2) (7, [some (.inr (.inr 0)), some (.inl q1.1), none, none, none, none], [.inl q1.1], q1.2) rfl ?_
  obtain ⟨y2, hy2, h⟩ := lett_inv h
  have hjy2 : Ev 257 15 [some (.inr (.inr 0)), some (.inl q1.1), none, none, none, none] [.inl y2] q1.2 (some (.inr (.inl r))) g' := by
    refine ev_runs 8 (15, [some (.inr (.inr 0)), some (.inl q1.1), none, none, none, none], [.inl y2], q1.2) (29, [some (.inr (.inr 0)), some (.inl q1.1), some (.inl y2), some (.inr (.inl 17)), none, none], [.inr (.inr 1), .inr (.inl (wl (31 * 17)))], q1.2) rfl ?_
    refine ec 2 32 [.inr (.inr 1)] [.inr (.inl (wl (31 * 17)))] rfl (ev_Tx_length1 q1.2 _ rfl) ?_
    show Ev 257 32 [some (.inr (.inr 0)), some (.inl q1.1), some (.inl y2), some (.inr (.inl 17)), none, none] [.inl (Tx_length1 q1.2), .inr (.inl (wl (31 * 17)))] q1.2 _ _
    refine ev_runs 8 (32, [some (.inr (.inr 0)), some (.inl q1.1), some (.inl y2), some (.inr (.inl 17)), none, none], [.inl (Tx_length1 q1.2), .inr (.inl (wl (31 * 17)))], q1.2) (44, [some (.inr (.inr 0)), some (.inl q1.1), some (.inl y2), some (.inr (.inl (wl ((wl (31 * 17)) + (Tx_length1 q1.2))))), none, none], [.inr (.inr 4), .inr (.inl (wl (31 * (wl ((wl (31 * 17)) + (Tx_length1 q1.2))))))], q1.2) rfl ?_
    refine ec 2 47 [.inr (.inr 4)] [.inr (.inl (wl (31 * (wl ((wl (31 * 17)) + (Tx_length1 q1.2))))))] rfl (ev_Tx_length4 q1.2 _ rfl) ?_
    show Ev 257 47 [some (.inr (.inr 0)), some (.inl q1.1), some (.inl y2), some (.inr (.inl (wl ((wl (31 * 17)) + (Tx_length1 q1.2))))), none, none] [.inl (Tx_length4 q1.2), .inr (.inl (wl (31 * (wl ((wl (31 * 17)) + (Tx_length1 q1.2))))))] q1.2 _ _
    refine ev_runs 16 (47, [some (.inr (.inr 0)), some (.inl q1.1), some (.inl y2), some (.inr (.inl (wl ((wl (31 * 17)) + (Tx_length1 q1.2))))), none, none], [.inl (Tx_length4 q1.2), .inr (.inl (wl (31 * (wl ((wl (31 * 17)) + (Tx_length1 q1.2))))))], q1.2) (71, [some (.inr (.inr 0)), some (.inl q1.1), some (.inl y2), some (.inr (.inl (wl ((wl (31 * (wl ((wl (31 * (wl ((wl (31 * 17)) + (Tx_length1 q1.2))))) + (Tx_length4 q1.2))))) + (q1.2 0 11))))), none, none], [.inr (.inr 78), .inr (.inl (wl (31 * (wl ((wl (31 * (wl ((wl (31 * (wl ((wl (31 * 17)) + (Tx_length1 q1.2))))) + (Tx_length4 q1.2))))) + (q1.2 0 11))))))], q1.2) rfl ?_
    refine ec 214 74 [.inr (.inr 78)] [.inr (.inl (wl (31 * (wl ((wl (31 * (wl ((wl (31 * (wl ((wl (31 * 17)) + (Tx_length1 q1.2))))) + (Tx_length4 q1.2))))) + (q1.2 0 11))))))] rfl (ev_Bd_size q1.2 _ rfl) ?_
    show Ev 257 74 [some (.inr (.inr 0)), some (.inl q1.1), some (.inl y2), some (.inr (.inl (wl ((wl (31 * (wl ((wl (31 * (wl ((wl (31 * 17)) + (Tx_length1 q1.2))))) + (Tx_length4 q1.2))))) + (q1.2 0 11))))), none, none] [.inl (Bd_size q1.2), .inr (.inl (wl (31 * (wl ((wl (31 * (wl ((wl (31 * (wl ((wl (31 * 17)) + (Tx_length1 q1.2))))) + (Tx_length4 q1.2))))) + (q1.2 0 11))))))] q1.2 _ _
    refine ev_runs 7 (74, [some (.inr (.inr 0)), some (.inl q1.1), some (.inl y2), some (.inr (.inl (wl ((wl (31 * (wl ((wl (31 * (wl ((wl (31 * 17)) + (Tx_length1 q1.2))))) + (Tx_length4 q1.2))))) + (q1.2 0 11))))), none, none], [.inl (Bd_size q1.2), .inr (.inl (wl (31 * (wl ((wl (31 * (wl ((wl (31 * (wl ((wl (31 * 17)) + (Tx_length1 q1.2))))) + (Tx_length4 q1.2))))) + (q1.2 0 11))))))], q1.2) (83, [some (.inr (.inr 0)), some (.inl q1.1), some (.inl y2), some (.inr (.inl (wl ((wl (31 * (wl ((wl (31 * (wl ((wl (31 * (wl ((wl (31 * 17)) + (Tx_length1 q1.2))))) + (Tx_length4 q1.2))))) + (q1.2 0 11))))) + (Bd_size q1.2))))), none, none], [.inl y2, .inr (.inl (wl (31 * (wl ((wl (31 * (wl ((wl (31 * (wl ((wl (31 * (wl ((wl (31 * 17)) + (Tx_length1 q1.2))))) + (Tx_length4 q1.2))))) + (q1.2 0 11))))) + (Bd_size q1.2))))))], q1.2) rfl ?_
    obtain ⟨y3, hy3, h⟩ := lett_inv h
    have hjy3 : Ev 257 97 [some (.inr (.inr 0)), some (.inl q1.1), some (.inl y2), none, none, none] [.inl y3, .inr (.inl (wl (31 * (wl ((wl (31 * (wl ((wl (31 * (wl ((wl (31 * (wl ((wl (31 * 17)) + (Tx_length1 q1.2))))) + (Tx_length4 q1.2))))) + (q1.2 0 11))))) + (Bd_size q1.2))))))] q1.2 (some (.inr (.inl r))) g' := by
      refine ev_runs 7 (97, [some (.inr (.inr 0)), some (.inl q1.1), some (.inl y2), none, none, none], [.inl y3, .inr (.inl (wl (31 * (wl ((wl (31 * (wl ((wl (31 * (wl ((wl (31 * (wl ((wl (31 * 17)) + (Tx_length1 q1.2))))) + (Tx_length4 q1.2))))) + (q1.2 0 11))))) + (Bd_size q1.2))))))], q1.2) (106, [some (.inr (.inr 0)), some (.inl q1.1), some (.inl y2), some (.inr (.inl (wl ((wl (31 * (wl ((wl (31 * (wl ((wl (31 * (wl ((wl (31 * (wl ((wl (31 * 17)) + (Tx_length1 q1.2))))) + (Tx_length4 q1.2))))) + (q1.2 0 11))))) + (Bd_size q1.2))))) + y3)))), none, none], [.inl y2, .inr (.inl (wl (31 * (wl ((wl (31 * (wl ((wl (31 * (wl ((wl (31 * (wl ((wl (31 * (wl ((wl (31 * 17)) + (Tx_length1 q1.2))))) + (Tx_length4 q1.2))))) + (q1.2 0 11))))) + (Bd_size q1.2))))) + y3)))))], q1.2) rfl ?_
      by_cases hc : y2 = 0
      · rw [if_pos hc] at h
        refine es (119, [some (.inr (.inr 0)), some (.inl q1.1), some (.inl y2), some (.inr (.inl (wl ((wl (31 * (wl ((wl (31 * (wl ((wl (31 * (wl ((wl (31 * (wl ((wl (31 * 17)) + (Tx_length1 q1.2))))) + (Tx_length4 q1.2))))) + (q1.2 0 11))))) + (Bd_size q1.2))))) + y3)))), none, none], [.inr (.inl (wl (31 * (wl ((wl (31 * (wl ((wl (31 * (wl ((wl (31 * (wl ((wl (31 * (wl ((wl (31 * 17)) + (Tx_length1 q1.2))))) + (Tx_length4 q1.2))))) + (q1.2 0 11))))) + (Bd_size q1.2))))) + y3)))))], q1.2) (congrArg some (if_pos hc)) ?_
        refine ev_runs 9 (119, [some (.inr (.inr 0)), some (.inl q1.1), some (.inl y2), some (.inr (.inl (wl ((wl (31 * (wl ((wl (31 * (wl ((wl (31 * (wl ((wl (31 * (wl ((wl (31 * 17)) + (Tx_length1 q1.2))))) + (Tx_length4 q1.2))))) + (q1.2 0 11))))) + (Bd_size q1.2))))) + y3)))), none, none], [.inr (.inl (wl (31 * (wl ((wl (31 * (wl ((wl (31 * (wl ((wl (31 * (wl ((wl (31 * (wl ((wl (31 * 17)) + (Tx_length1 q1.2))))) + (Tx_length4 q1.2))))) + (q1.2 0 11))))) + (Bd_size q1.2))))) + y3)))))], q1.2) (132, [some (.inr (.inr 0)), some (.inl q1.1), some (.inl y2), some (.inr (.inl (wl ((wl (31 * (wl ((wl (31 * (wl ((wl (31 * (wl ((wl (31 * (wl ((wl (31 * (wl ((wl (31 * 17)) + (Tx_length1 q1.2))))) + (Tx_length4 q1.2))))) + (q1.2 0 11))))) + (Bd_size q1.2))))) + y3)))) + q1.1)))), none, none], [.inr (.inr 28), .inr (.inl (wl (31 * (wl ((wl (31 * (wl ((wl (31 * (wl ((wl (31 * (wl ((wl (31 * (wl ((wl (31 * (wl ((wl (31 * 17)) + (Tx_length1 q1.2))))) + (Tx_length4 q1.2))))) + (q1.2 0 11))))) + (Bd_size q1.2))))) + y3)))) + q1.1)))))], q1.2) rfl ?_
        obtain ⟨q4, hq, h⟩ := Option.bind_eq_some_iff.mp h
        refine ec 32 135 [.inr (.inr 28)] [.inr (.inl (wl (31 * (wl ((wl (31 * (wl ((wl (31 * (wl ((wl (31 * (wl ((wl (31 * (wl ((wl (31 * (wl ((wl (31 * 17)) + (Tx_length1 q1.2))))) + (Tx_length4 q1.2))))) + (q1.2 0 11))))) + (Bd_size q1.2))))) + y3)))) + q1.1)))))] rfl (ev_Pr_firstFault q1.2 q4.1 q4.2 hq) ?_
        show Ev 257 135 [some (.inr (.inr 0)), some (.inl q1.1), some (.inl y2), some (.inr (.inl (wl ((wl (31 * (wl ((wl (31 * (wl ((wl (31 * (wl ((wl (31 * (wl ((wl (31 * (wl ((wl (31 * 17)) + (Tx_length1 q1.2))))) + (Tx_length4 q1.2))))) + (q1.2 0 11))))) + (Bd_size q1.2))))) + y3)))) + q1.1)))), none, none] [.inl q4.1, .inr (.inl (wl (31 * (wl ((wl (31 * (wl ((wl (31 * (wl ((wl (31 * (wl ((wl (31 * (wl ((wl (31 * (wl ((wl (31 * 17)) + (Tx_length1 q1.2))))) + (Tx_length4 q1.2))))) + (q1.2 0 11))))) + (Bd_size q1.2))))) + y3)))) + q1.1)))))] q4.2 _ _
        refine ev_runs 8 (135, [some (.inr (.inr 0)), some (.inl q1.1), some (.inl y2), some (.inr (.inl (wl ((wl (31 * (wl ((wl (31 * (wl ((wl (31 * (wl ((wl (31 * (wl ((wl (31 * (wl ((wl (31 * 17)) + (Tx_length1 q1.2))))) + (Tx_length4 q1.2))))) + (q1.2 0 11))))) + (Bd_size q1.2))))) + y3)))) + q1.1)))), none, none], [.inl q4.1, .inr (.inl (wl (31 * (wl ((wl (31 * (wl ((wl (31 * (wl ((wl (31 * (wl ((wl (31 * (wl ((wl (31 * (wl ((wl (31 * 17)) + (Tx_length1 q1.2))))) + (Tx_length4 q1.2))))) + (q1.2 0 11))))) + (Bd_size q1.2))))) + y3)))) + q1.1)))))], q4.2) (147, [some (.inr (.inr 0)), some (.inl q1.1), some (.inl y2), some (.inr (.inl (wl ((wl (31 * (wl ((wl (31 * (wl ((wl (31 * (wl ((wl (31 * (wl ((wl (31 * (wl ((wl (31 * (wl ((wl (31 * 17)) + (Tx_length1 q1.2))))) + (Tx_length4 q1.2))))) + (q1.2 0 11))))) + (Bd_size q1.2))))) + y3)))) + q1.1)))) + q4.1)))), none, none], [.inr (.inr 69), .inr (.inl (wl (31 * (wl ((wl (31 * (wl ((wl (31 * (wl ((wl (31 * (wl ((wl (31 * (wl ((wl (31 * (wl ((wl (31 * (wl ((wl (31 * 17)) + (Tx_length1 q1.2))))) + (Tx_length4 q1.2))))) + (q1.2 0 11))))) + (Bd_size q1.2))))) + y3)))) + q1.1)))) + q4.1)))))], q4.2) rfl ?_
        obtain ⟨q5, hq, h⟩ := Option.bind_eq_some_iff.mp h
        refine ec 34 150 [.inr (.inr 69)] [.inr (.inl (wl (31 * (wl ((wl (31 * (wl ((wl (31 * (wl ((wl (31 * (wl ((wl (31 * (wl ((wl (31 * (wl ((wl (31 * (wl ((wl (31 * 17)) + (Tx_length1 q1.2))))) + (Tx_length4 q1.2))))) + (q1.2 0 11))))) + (Bd_size q1.2))))) + y3)))) + q1.1)))) + q4.1)))))] rfl (ev_Pg_firstFault q4.2 q5.1 q5.2 hq) ?_
        show Ev 257 150 [some (.inr (.inr 0)), some (.inl q1.1), some (.inl y2), some (.inr (.inl (wl ((wl (31 * (wl ((wl (31 * (wl ((wl (31 * (wl ((wl (31 * (wl ((wl (31 * (wl ((wl (31 * (wl ((wl (31 * 17)) + (Tx_length1 q1.2))))) + (Tx_length4 q1.2))))) + (q1.2 0 11))))) + (Bd_size q1.2))))) + y3)))) + q1.1)))) + q4.1)))), none, none] [.inl q5.1, .inr (.inl (wl (31 * (wl ((wl (31 * (wl ((wl (31 * (wl ((wl (31 * (wl ((wl (31 * (wl ((wl (31 * (wl ((wl (31 * (wl ((wl (31 * 17)) + (Tx_length1 q1.2))))) + (Tx_length4 q1.2))))) + (q1.2 0 11))))) + (Bd_size q1.2))))) + y3)))) + q1.1)))) + q4.1)))))] q5.2 _ _
        refine ev_runs 4 (150, [some (.inr (.inr 0)), some (.inl q1.1), some (.inl y2), some (.inr (.inl (wl ((wl (31 * (wl ((wl (31 * (wl ((wl (31 * (wl ((wl (31 * (wl ((wl (31 * (wl ((wl (31 * (wl ((wl (31 * 17)) + (Tx_length1 q1.2))))) + (Tx_length4 q1.2))))) + (q1.2 0 11))))) + (Bd_size q1.2))))) + y3)))) + q1.1)))) + q4.1)))), none, none], [.inl q5.1, .inr (.inl (wl (31 * (wl ((wl (31 * (wl ((wl (31 * (wl ((wl (31 * (wl ((wl (31 * (wl ((wl (31 * (wl ((wl (31 * (wl ((wl (31 * 17)) + (Tx_length1 q1.2))))) + (Tx_length4 q1.2))))) + (q1.2 0 11))))) + (Bd_size q1.2))))) + y3)))) + q1.1)))) + q4.1)))))], q5.2) (154, [some (.inr (.inr 0)), some (.inl q1.1), some (.inl y2), some (.inr (.inl (wl ((wl (31 * (wl ((wl (31 * (wl ((wl (31 * (wl ((wl (31 * (wl ((wl (31 * (wl ((wl (31 * (wl ((wl (31 * (wl ((wl (31 * 17)) + (Tx_length1 q1.2))))) + (Tx_length4 q1.2))))) + (q1.2 0 11))))) + (Bd_size q1.2))))) + y3)))) + q1.1)))) + q4.1)))) + q5.1)))), none, none], [.inl y2], q5.2) rfl ?_
        by_cases hc : y2 = 0
        · rw [if_pos hc] at h
          refine es (193, [some (.inr (.inr 0)), some (.inl q1.1), some (.inl y2), some (.inr (.inl (wl ((wl (31 * (wl ((wl (31 * (wl ((wl (31 * (wl ((wl (31 * (wl ((wl (31 * (wl ((wl (31 * (wl ((wl (31 * (wl ((wl (31 * 17)) + (Tx_length1 q1.2))))) + (Tx_length4 q1.2))))) + (q1.2 0 11))))) + (Bd_size q1.2))))) + y3)))) + q1.1)))) + q4.1)))) + q5.1)))), none, none], [], q5.2) (congrArg some (if_pos hc)) ?_
          refine ev_runs 2 (193, [some (.inr (.inr 0)), some (.inl q1.1), some (.inl y2), some (.inr (.inl (wl ((wl (31 * (wl ((wl (31 * (wl ((wl (31 * (wl ((wl (31 * (wl ((wl (31 * (wl ((wl (31 * (wl ((wl (31 * (wl ((wl (31 * 17)) + (Tx_length1 q1.2))))) + (Tx_length4 q1.2))))) + (q1.2 0 11))))) + (Bd_size q1.2))))) + y3)))) + q1.1)))) + q4.1)))) + q5.1)))), none, none], [], q5.2) (196, [some (.inr (.inr 0)), some (.inl q1.1), some (.inl y2), some (.inr (.inl (wl ((wl (31 * (wl ((wl (31 * (wl ((wl (31 * (wl ((wl (31 * (wl ((wl (31 * (wl ((wl (31 * (wl ((wl (31 * (wl ((wl (31 * 17)) + (Tx_length1 q1.2))))) + (Tx_length4 q1.2))))) + (q1.2 0 11))))) + (Bd_size q1.2))))) + y3)))) + q1.1)))) + q4.1)))) + q5.1)))), none, some (.inl 0)], [], q5.2) rfl ?_
          refine ev_le (L := [some (.inr (.inr 0)), some (.inl q1.1), some (.inl y2), some (.inr (.inl (wl ((wl (31 * (wl ((wl (31 * (wl ((wl (31 * (wl ((wl (31 * (wl ((wl (31 * (wl ((wl (31 * (wl ((wl (31 * (wl ((wl (31 * 17)) + (Tx_length1 q1.2))))) + (Tx_length4 q1.2))))) + (q1.2 0 11))))) + (Bd_size q1.2))))) + y3)))) + q1.1)))) + q4.1)))) + q5.1)))), none, some (.inl 0)]) (by simp [Lle]) ?_
          refine ev_Op_digest_l196 q1.1 y2 _ ?_ fu (wl ((wl (31 * (wl ((wl (31 * (wl ((wl (31 * (wl ((wl (31 * (wl ((wl (31 * (wl ((wl (31 * (wl ((wl (31 * (wl ((wl (31 * 17)) + (Tx_length1 q1.2))))) + (Tx_length4 q1.2))))) + (q1.2 0 11))))) + (Bd_size q1.2))))) + y3)))) + q1.1)))) + q4.1)))) + q5.1)) 0 q5.2 r g' h
          · intro x7 g8 r g' h
            refine ev_runs 4 (233, [some (.inr (.inr 0)), some (.inl q1.1), some (.inl y2), some (.inr (.inl x7)), none, none], [], g8) (239, [some (.inr (.inr 0)), some (.inl q1.1), some (.inl y2), some (.inr (.inl x7)), none, none], [.inl y2, .inr (.inl (wl (31 * x7)))], g8) rfl ?_
            by_cases hc : y2 = 0
            · rw [if_pos hc] at h
              refine es (252, [some (.inr (.inr 0)), some (.inl q1.1), some (.inl y2), some (.inr (.inl x7)), none, none], [.inr (.inl (wl (31 * x7)))], g8) (congrArg some (if_pos hc)) ?_
              refine ev_runs 3 (252, [some (.inr (.inr 0)), some (.inl q1.1), some (.inl y2), some (.inr (.inl x7)), none, none], [.inr (.inl (wl (31 * x7)))], g8) (255, [some (.inr (.inr 0)), some (.inl q1.1), some (.inl y2), some (.inr (.inl x7)), none, none], [.inr (.inl (wl ((wl (31 * x7)) + q1.1)))], g8) rfl ?_
              cases h
              exact er rfl
            · rw [if_neg hc] at h
              refine es (242, [some (.inr (.inr 0)), some (.inl q1.1), some (.inl y2), some (.inr (.inl x7)), none, none], [.inr (.inl (wl (31 * x7)))], g8) (congrArg some (if_neg hc)) ?_
              refine ev_runs 2 (242, [some (.inr (.inr 0)), some (.inl q1.1), some (.inl y2), some (.inr (.inl x7)), none, none], [.inr (.inl (wl (31 * x7)))], g8) (246, [some (.inr (.inr 0)), some (.inl q1.1), some (.inl y2), some (.inr (.inl x7)), none, none], [.inr (.inr 78), .inr (.inl (wl (31 * x7)))], g8) rfl ?_
              obtain ⟨q9, hq, h⟩ := Option.bind_eq_some_iff.mp h
              refine ec 223 249 [.inr (.inr 78)] [.inr (.inl (wl (31 * x7)))] rfl (ev_Bd_firstOut g8 q9.1 q9.2 hq) ?_
              show Ev 257 249 [some (.inr (.inr 0)), some (.inl q1.1), some (.inl y2), some (.inr (.inl x7)), none, none] [.inl q9.1, .inr (.inl (wl (31 * x7)))] q9.2 _ _
              refine ev_runs 3 (249, [some (.inr (.inr 0)), some (.inl q1.1), some (.inl y2), some (.inr (.inl x7)), none, none], [.inl q9.1, .inr (.inl (wl (31 * x7)))], q9.2) (255, [some (.inr (.inr 0)), some (.inl q1.1), some (.inl y2), some (.inr (.inl x7)), none, none], [.inr (.inl (wl ((wl (31 * x7)) + q9.1)))], q9.2) rfl ?_
              cases h
              exact er rfl
        · rw [if_neg hc] at h
          refine es (157, [some (.inr (.inr 0)), some (.inl q1.1), some (.inl y2), some (.inr (.inl (wl ((wl (31 * (wl ((wl (31 * (wl ((wl (31 * (wl ((wl (31 * (wl ((wl (31 * (wl ((wl (31 * (wl ((wl (31 * (wl ((wl (31 * 17)) + (Tx_length1 q1.2))))) + (Tx_length4 q1.2))))) + (q1.2 0 11))))) + (Bd_size q1.2))))) + y3)))) + q1.1)))) + q4.1)))) + q5.1)))), none, none], [], q5.2) (congrArg some (if_neg hc)) ?_
          refine ev_runs 2 (157, [some (.inr (.inr 0)), some (.inl q1.1), some (.inl y2), some (.inr (.inl (wl ((wl (31 * (wl ((wl (31 * (wl ((wl (31 * (wl ((wl (31 * (wl ((wl (31 * (wl ((wl (31 * (wl ((wl (31 * (wl ((wl (31 * 17)) + (Tx_length1 q1.2))))) + (Tx_length4 q1.2))))) + (q1.2 0 11))))) + (Bd_size q1.2))))) + y3)))) + q1.1)))) + q4.1)))) + q5.1)))), none, none], [], q5.2) (160, [some (.inr (.inr 0)), some (.inl q1.1), some (.inl y2), some (.inr (.inl (wl ((wl (31 * (wl ((wl (31 * (wl ((wl (31 * (wl ((wl (31 * (wl ((wl (31 * (wl ((wl (31 * (wl ((wl (31 * (wl ((wl (31 * 17)) + (Tx_length1 q1.2))))) + (Tx_length4 q1.2))))) + (q1.2 0 11))))) + (Bd_size q1.2))))) + y3)))) + q1.1)))) + q4.1)))) + q5.1)))), none, some (.inl 0)], [], q5.2) rfl ?_
          refine ev_le (L := [some (.inr (.inr 0)), some (.inl q1.1), some (.inl y2), some (.inr (.inl (wl ((wl (31 * (wl ((wl (31 * (wl ((wl (31 * (wl ((wl (31 * (wl ((wl (31 * (wl ((wl (31 * (wl ((wl (31 * (wl ((wl (31 * 17)) + (Tx_length1 q1.2))))) + (Tx_length4 q1.2))))) + (q1.2 0 11))))) + (Bd_size q1.2))))) + y3)))) + q1.1)))) + q4.1)))) + q5.1)))), none, some (.inl 0)]) (by simp [Lle]) ?_
          refine ev_Op_digest_l160 q1.1 y2 _ ?_ fu (wl ((wl (31 * (wl ((wl (31 * (wl ((wl (31 * (wl ((wl (31 * (wl ((wl (31 * (wl ((wl (31 * (wl ((wl (31 * (wl ((wl (31 * 17)) + (Tx_length1 q1.2))))) + (Tx_length4 q1.2))))) + (q1.2 0 11))))) + (Bd_size q1.2))))) + y3)))) + q1.1)))) + q4.1)))) + q5.1)) 0 q5.2 r g' h
          · intro x11 g12 r g' h
            refine ev_runs 2 (186, [some (.inr (.inr 0)), some (.inl q1.1), some (.inl y2), some (.inr (.inl x11)), none, none], [], g12) (190, [some (.inr (.inr 0)), some (.inl q1.1), some (.inl y2), some (.inr (.inl x11)), none, none], [.inr (.inr 78)], g12) rfl ?_
            obtain ⟨g13, hq, h⟩ := Option.bind_eq_some_iff.mp h
            refine ec 216 193 [.inr (.inr 78)] [] rfl (ev_Bd_compare g12 g13 hq) ?_
            show Ev 257 193 [some (.inr (.inr 0)), some (.inl q1.1), some (.inl y2), some (.inr (.inl x11)), none, none] [] g13 _ _
            refine ev_runs 2 (193, [some (.inr (.inr 0)), some (.inl q1.1), some (.inl y2), some (.inr (.inl x11)), none, none], [], g13) (196, [some (.inr (.inr 0)), some (.inl q1.1), some (.inl y2), some (.inr (.inl x11)), none, some (.inl 0)], [], g13) rfl ?_
            refine ev_le (L := [some (.inr (.inr 0)), some (.inl q1.1), some (.inl y2), some (.inr (.inl x11)), none, some (.inl 0)]) (by simp [Lle]) ?_
            refine ev_Op_digest_l196 q1.1 y2 _ ?_ fu x11 0 g13 r g' h
            · intro x14 g15 r g' h
              refine ev_runs 4 (233, [some (.inr (.inr 0)), some (.inl q1.1), some (.inl y2), some (.inr (.inl x14)), none, none], [], g15) (239, [some (.inr (.inr 0)), some (.inl q1.1), some (.inl y2), some (.inr (.inl x14)), none, none], [.inl y2, .inr (.inl (wl (31 * x14)))], g15) rfl ?_
              by_cases hc : y2 = 0
              · rw [if_pos hc] at h
                refine es (252, [some (.inr (.inr 0)), some (.inl q1.1), some (.inl y2), some (.inr (.inl x14)), none, none], [.inr (.inl (wl (31 * x14)))], g15) (congrArg some (if_pos hc)) ?_
                refine ev_runs 3 (252, [some (.inr (.inr 0)), some (.inl q1.1), some (.inl y2), some (.inr (.inl x14)), none, none], [.inr (.inl (wl (31 * x14)))], g15) (255, [some (.inr (.inr 0)), some (.inl q1.1), some (.inl y2), some (.inr (.inl x14)), none, none], [.inr (.inl (wl ((wl (31 * x14)) + q1.1)))], g15) rfl ?_
                cases h
                exact er rfl
              · rw [if_neg hc] at h
                refine es (242, [some (.inr (.inr 0)), some (.inl q1.1), some (.inl y2), some (.inr (.inl x14)), none, none], [.inr (.inl (wl (31 * x14)))], g15) (congrArg some (if_neg hc)) ?_
                refine ev_runs 2 (242, [some (.inr (.inr 0)), some (.inl q1.1), some (.inl y2), some (.inr (.inl x14)), none, none], [.inr (.inl (wl (31 * x14)))], g15) (246, [some (.inr (.inr 0)), some (.inl q1.1), some (.inl y2), some (.inr (.inl x14)), none, none], [.inr (.inr 78), .inr (.inl (wl (31 * x14)))], g15) rfl ?_
                obtain ⟨q16, hq, h⟩ := Option.bind_eq_some_iff.mp h
                refine ec 223 249 [.inr (.inr 78)] [.inr (.inl (wl (31 * x14)))] rfl (ev_Bd_firstOut g15 q16.1 q16.2 hq) ?_
                show Ev 257 249 [some (.inr (.inr 0)), some (.inl q1.1), some (.inl y2), some (.inr (.inl x14)), none, none] [.inl q16.1, .inr (.inl (wl (31 * x14)))] q16.2 _ _
                refine ev_runs 3 (249, [some (.inr (.inr 0)), some (.inl q1.1), some (.inl y2), some (.inr (.inl x14)), none, none], [.inl q16.1, .inr (.inl (wl (31 * x14)))], q16.2) (255, [some (.inr (.inr 0)), some (.inl q1.1), some (.inl y2), some (.inr (.inl x14)), none, none], [.inr (.inl (wl ((wl (31 * x14)) + q16.1)))], q16.2) rfl ?_
                cases h
                exact er rfl
      · rw [if_neg hc] at h
        refine es (109, [some (.inr (.inr 0)), some (.inl q1.1), some (.inl y2), some (.inr (.inl (wl ((wl (31 * (wl ((wl (31 * (wl ((wl (31 * (wl ((wl (31 * (wl ((wl (31 * 17)) + (Tx_length1 q1.2))))) + (Tx_length4 q1.2))))) + (q1.2 0 11))))) + (Bd_size q1.2))))) + y3)))), none, none], [.inr (.inl (wl (31 * (wl ((wl (31 * (wl ((wl (31 * (wl ((wl (31 * (wl ((wl (31 * (wl ((wl (31 * 17)) + (Tx_length1 q1.2))))) + (Tx_length4 q1.2))))) + (q1.2 0 11))))) + (Bd_size q1.2))))) + y3)))))], q1.2) (congrArg some (if_neg hc)) ?_
        refine ev_runs 2 (109, [some (.inr (.inr 0)), some (.inl q1.1), some (.inl y2), some (.inr (.inl (wl ((wl (31 * (wl ((wl (31 * (wl ((wl (31 * (wl ((wl (31 * (wl ((wl (31 * 17)) + (Tx_length1 q1.2))))) + (Tx_length4 q1.2))))) + (q1.2 0 11))))) + (Bd_size q1.2))))) + y3)))), none, none], [.inr (.inl (wl (31 * (wl ((wl (31 * (wl ((wl (31 * (wl ((wl (31 * (wl ((wl (31 * (wl ((wl (31 * 17)) + (Tx_length1 q1.2))))) + (Tx_length4 q1.2))))) + (q1.2 0 11))))) + (Bd_size q1.2))))) + y3)))))], q1.2) (113, [some (.inr (.inr 0)), some (.inl q1.1), some (.inl y2), some (.inr (.inl (wl ((wl (31 * (wl ((wl (31 * (wl ((wl (31 * (wl ((wl (31 * (wl ((wl (31 * 17)) + (Tx_length1 q1.2))))) + (Tx_length4 q1.2))))) + (q1.2 0 11))))) + (Bd_size q1.2))))) + y3)))), none, none], [.inr (.inr 55), .inr (.inl (wl (31 * (wl ((wl (31 * (wl ((wl (31 * (wl ((wl (31 * (wl ((wl (31 * (wl ((wl (31 * 17)) + (Tx_length1 q1.2))))) + (Tx_length4 q1.2))))) + (q1.2 0 11))))) + (Bd_size q1.2))))) + y3)))))], q1.2) rfl ?_
        obtain ⟨q17, hq, h⟩ := Option.bind_eq_some_iff.mp h
        refine ec 124 116 [.inr (.inr 55)] [.inr (.inl (wl (31 * (wl ((wl (31 * (wl ((wl (31 * (wl ((wl (31 * (wl ((wl (31 * (wl ((wl (31 * 17)) + (Tx_length1 q1.2))))) + (Tx_length4 q1.2))))) + (q1.2 0 11))))) + (Bd_size q1.2))))) + y3)))))] rfl (ev_Kn_soundness q1.2 q17.1 q17.2 hq) ?_
        show Ev 257 116 [some (.inr (.inr 0)), some (.inl q1.1), some (.inl y2), some (.inr (.inl (wl ((wl (31 * (wl ((wl (31 * (wl ((wl (31 * (wl ((wl (31 * (wl ((wl (31 * 17)) + (Tx_length1 q1.2))))) + (Tx_length4 q1.2))))) + (q1.2 0 11))))) + (Bd_size q1.2))))) + y3)))), none, none] [.inl q17.1, .inr (.inl (wl (31 * (wl ((wl (31 * (wl ((wl (31 * (wl ((wl (31 * (wl ((wl (31 * (wl ((wl (31 * 17)) + (Tx_length1 q1.2))))) + (Tx_length4 q1.2))))) + (q1.2 0 11))))) + (Bd_size q1.2))))) + y3)))))] q17.2 _ _
        refine ev_runs 9 (116, [some (.inr (.inr 0)), some (.inl q1.1), some (.inl y2), some (.inr (.inl (wl ((wl (31 * (wl ((wl (31 * (wl ((wl (31 * (wl ((wl (31 * (wl ((wl (31 * 17)) + (Tx_length1 q1.2))))) + (Tx_length4 q1.2))))) + (q1.2 0 11))))) + (Bd_size q1.2))))) + y3)))), none, none], [.inl q17.1, .inr (.inl (wl (31 * (wl ((wl (31 * (wl ((wl (31 * (wl ((wl (31 * (wl ((wl (31 * (wl ((wl (31 * 17)) + (Tx_length1 q1.2))))) + (Tx_length4 q1.2))))) + (q1.2 0 11))))) + (Bd_size q1.2))))) + y3)))))], q17.2) (132, [some (.inr (.inr 0)), some (.inl q1.1), some (.inl y2), some (.inr (.inl (wl ((wl (31 * (wl ((wl (31 * (wl ((wl (31 * (wl ((wl (31 * (wl ((wl (31 * (wl ((wl (31 * 17)) + (Tx_length1 q1.2))))) + (Tx_length4 q1.2))))) + (q1.2 0 11))))) + (Bd_size q1.2))))) + y3)))) + q17.1)))), none, none], [.inr (.inr 28), .inr (.inl (wl (31 * (wl ((wl (31 * (wl ((wl (31 * (wl ((wl (31 * (wl ((wl (31 * (wl ((wl (31 * (wl ((wl (31 * 17)) + (Tx_length1 q1.2))))) + (Tx_length4 q1.2))))) + (q1.2 0 11))))) + (Bd_size q1.2))))) + y3)))) + q17.1)))))], q17.2) rfl ?_
        obtain ⟨q18, hq, h⟩ := Option.bind_eq_some_iff.mp h
        refine ec 32 135 [.inr (.inr 28)] [.inr (.inl (wl (31 * (wl ((wl (31 * (wl ((wl (31 * (wl ((wl (31 * (wl ((wl (31 * (wl ((wl (31 * (wl ((wl (31 * 17)) + (Tx_length1 q1.2))))) + (Tx_length4 q1.2))))) + (q1.2 0 11))))) + (Bd_size q1.2))))) + y3)))) + q17.1)))))] rfl (ev_Pr_firstFault q17.2 q18.1 q18.2 hq) ?_
        show Ev 257 135 [some (.inr (.inr 0)), some (.inl q1.1), some (.inl y2), some (.inr (.inl (wl ((wl (31 * (wl ((wl (31 * (wl ((wl (31 * (wl ((wl (31 * (wl ((wl (31 * (wl ((wl (31 * 17)) + (Tx_length1 q1.2))))) + (Tx_length4 q1.2))))) + (q1.2 0 11))))) + (Bd_size q1.2))))) + y3)))) + q17.1)))), none, none] [.inl q18.1, .inr (.inl (wl (31 * (wl ((wl (31 * (wl ((wl (31 * (wl ((wl (31 * (wl ((wl (31 * (wl ((wl (31 * (wl ((wl (31 * 17)) + (Tx_length1 q1.2))))) + (Tx_length4 q1.2))))) + (q1.2 0 11))))) + (Bd_size q1.2))))) + y3)))) + q17.1)))))] q18.2 _ _
        refine ev_runs 8 (135, [some (.inr (.inr 0)), some (.inl q1.1), some (.inl y2), some (.inr (.inl (wl ((wl (31 * (wl ((wl (31 * (wl ((wl (31 * (wl ((wl (31 * (wl ((wl (31 * (wl ((wl (31 * 17)) + (Tx_length1 q1.2))))) + (Tx_length4 q1.2))))) + (q1.2 0 11))))) + (Bd_size q1.2))))) + y3)))) + q17.1)))), none, none], [.inl q18.1, .inr (.inl (wl (31 * (wl ((wl (31 * (wl ((wl (31 * (wl ((wl (31 * (wl ((wl (31 * (wl ((wl (31 * (wl ((wl (31 * 17)) + (Tx_length1 q1.2))))) + (Tx_length4 q1.2))))) + (q1.2 0 11))))) + (Bd_size q1.2))))) + y3)))) + q17.1)))))], q18.2) (147, [some (.inr (.inr 0)), some (.inl q1.1), some (.inl y2), some (.inr (.inl (wl ((wl (31 * (wl ((wl (31 * (wl ((wl (31 * (wl ((wl (31 * (wl ((wl (31 * (wl ((wl (31 * (wl ((wl (31 * 17)) + (Tx_length1 q1.2))))) + (Tx_length4 q1.2))))) + (q1.2 0 11))))) + (Bd_size q1.2))))) + y3)))) + q17.1)))) + q18.1)))), none, none], [.inr (.inr 69), .inr (.inl (wl (31 * (wl ((wl (31 * (wl ((wl (31 * (wl ((wl (31 * (wl ((wl (31 * (wl ((wl (31 * (wl ((wl (31 * (wl ((wl (31 * 17)) + (Tx_length1 q1.2))))) + (Tx_length4 q1.2))))) + (q1.2 0 11))))) + (Bd_size q1.2))))) + y3)))) + q17.1)))) + q18.1)))))], q18.2) rfl ?_
        obtain ⟨q19, hq, h⟩ := Option.bind_eq_some_iff.mp h
        refine ec 34 150 [.inr (.inr 69)] [.inr (.inl (wl (31 * (wl ((wl (31 * (wl ((wl (31 * (wl ((wl (31 * (wl ((wl (31 * (wl ((wl (31 * (wl ((wl (31 * (wl ((wl (31 * 17)) + (Tx_length1 q1.2))))) + (Tx_length4 q1.2))))) + (q1.2 0 11))))) + (Bd_size q1.2))))) + y3)))) + q17.1)))) + q18.1)))))] rfl (ev_Pg_firstFault q18.2 q19.1 q19.2 hq) ?_
        show Ev 257 150 [some (.inr (.inr 0)), some (.inl q1.1), some (.inl y2), some (.inr (.inl (wl ((wl (31 * (wl ((wl (31 * (wl ((wl (31 * (wl ((wl (31 * (wl ((wl (31 * (wl ((wl (31 * (wl ((wl (31 * 17)) + (Tx_length1 q1.2))))) + (Tx_length4 q1.2))))) + (q1.2 0 11))))) + (Bd_size q1.2))))) + y3)))) + q17.1)))) + q18.1)))), none, none] [.inl q19.1, .inr (.inl (wl (31 * (wl ((wl (31 * (wl ((wl (31 * (wl ((wl (31 * (wl ((wl (31 * (wl ((wl (31 * (wl ((wl (31 * (wl ((wl (31 * 17)) + (Tx_length1 q1.2))))) + (Tx_length4 q1.2))))) + (q1.2 0 11))))) + (Bd_size q1.2))))) + y3)))) + q17.1)))) + q18.1)))))] q19.2 _ _
        refine ev_runs 4 (150, [some (.inr (.inr 0)), some (.inl q1.1), some (.inl y2), some (.inr (.inl (wl ((wl (31 * (wl ((wl (31 * (wl ((wl (31 * (wl ((wl (31 * (wl ((wl (31 * (wl ((wl (31 * (wl ((wl (31 * 17)) + (Tx_length1 q1.2))))) + (Tx_length4 q1.2))))) + (q1.2 0 11))))) + (Bd_size q1.2))))) + y3)))) + q17.1)))) + q18.1)))), none, none], [.inl q19.1, .inr (.inl (wl (31 * (wl ((wl (31 * (wl ((wl (31 * (wl ((wl (31 * (wl ((wl (31 * (wl ((wl (31 * (wl ((wl (31 * (wl ((wl (31 * 17)) + (Tx_length1 q1.2))))) + (Tx_length4 q1.2))))) + (q1.2 0 11))))) + (Bd_size q1.2))))) + y3)))) + q17.1)))) + q18.1)))))], q19.2) (154, [some (.inr (.inr 0)), some (.inl q1.1), some (.inl y2), some (.inr (.inl (wl ((wl (31 * (wl ((wl (31 * (wl ((wl (31 * (wl ((wl (31 * (wl ((wl (31 * (wl ((wl (31 * (wl ((wl (31 * (wl ((wl (31 * 17)) + (Tx_length1 q1.2))))) + (Tx_length4 q1.2))))) + (q1.2 0 11))))) + (Bd_size q1.2))))) + y3)))) + q17.1)))) + q18.1)))) + q19.1)))), none, none], [.inl y2], q19.2) rfl ?_
        by_cases hc : y2 = 0
        · rw [if_pos hc] at h
          refine es (193, [some (.inr (.inr 0)), some (.inl q1.1), some (.inl y2), some (.inr (.inl (wl ((wl (31 * (wl ((wl (31 * (wl ((wl (31 * (wl ((wl (31 * (wl ((wl (31 * (wl ((wl (31 * (wl ((wl (31 * (wl ((wl (31 * 17)) + (Tx_length1 q1.2))))) + (Tx_length4 q1.2))))) + (q1.2 0 11))))) + (Bd_size q1.2))))) + y3)))) + q17.1)))) + q18.1)))) + q19.1)))), none, none], [], q19.2) (congrArg some (if_pos hc)) ?_
          refine ev_runs 2 (193, [some (.inr (.inr 0)), some (.inl q1.1), some (.inl y2), some (.inr (.inl (wl ((wl (31 * (wl ((wl (31 * (wl ((wl (31 * (wl ((wl (31 * (wl ((wl (31 * (wl ((wl (31 * (wl ((wl (31 * (wl ((wl (31 * 17)) + (Tx_length1 q1.2))))) + (Tx_length4 q1.2))))) + (q1.2 0 11))))) + (Bd_size q1.2))))) + y3)))) + q17.1)))) + q18.1)))) + q19.1)))), none, none], [], q19.2) (196, [some (.inr (.inr 0)), some (.inl q1.1), some (.inl y2), some (.inr (.inl (wl ((wl (31 * (wl ((wl (31 * (wl ((wl (31 * (wl ((wl (31 * (wl ((wl (31 * (wl ((wl (31 * (wl ((wl (31 * (wl ((wl (31 * 17)) + (Tx_length1 q1.2))))) + (Tx_length4 q1.2))))) + (q1.2 0 11))))) + (Bd_size q1.2))))) + y3)))) + q17.1)))) + q18.1)))) + q19.1)))), none, some (.inl 0)], [], q19.2) rfl ?_
          refine ev_le (L := [some (.inr (.inr 0)), some (.inl q1.1), some (.inl y2), some (.inr (.inl (wl ((wl (31 * (wl ((wl (31 * (wl ((wl (31 * (wl ((wl (31 * (wl ((wl (31 * (wl ((wl (31 * (wl ((wl (31 * (wl ((wl (31 * 17)) + (Tx_length1 q1.2))))) + (Tx_length4 q1.2))))) + (q1.2 0 11))))) + (Bd_size q1.2))))) + y3)))) + q17.1)))) + q18.1)))) + q19.1)))), none, some (.inl 0)]) (by simp [Lle]) ?_
          refine ev_Op_digest_l196 q1.1 y2 _ ?_ fu (wl ((wl (31 * (wl ((wl (31 * (wl ((wl (31 * (wl ((wl (31 * (wl ((wl (31 * (wl ((wl (31 * (wl ((wl (31 * (wl ((wl (31 * 17)) + (Tx_length1 q1.2))))) + (Tx_length4 q1.2))))) + (q1.2 0 11))))) + (Bd_size q1.2))))) + y3)))) + q17.1)))) + q18.1)))) + q19.1)) 0 q19.2 r g' h
          · intro x20 g21 r g' h
            refine ev_runs 4 (233, [some (.inr (.inr 0)), some (.inl q1.1), some (.inl y2), some (.inr (.inl x20)), none, none], [], g21) (239, [some (.inr (.inr 0)), some (.inl q1.1), some (.inl y2), some (.inr (.inl x20)), none, none], [.inl y2, .inr (.inl (wl (31 * x20)))], g21) rfl ?_
            by_cases hc : y2 = 0
            · rw [if_pos hc] at h
              refine es (252, [some (.inr (.inr 0)), some (.inl q1.1), some (.inl y2), some (.inr (.inl x20)), none, none], [.inr (.inl (wl (31 * x20)))], g21) (congrArg some (if_pos hc)) ?_
              refine ev_runs 3 (252, [some (.inr (.inr 0)), some (.inl q1.1), some (.inl y2), some (.inr (.inl x20)), none, none], [.inr (.inl (wl (31 * x20)))], g21) (255, [some (.inr (.inr 0)), some (.inl q1.1), some (.inl y2), some (.inr (.inl x20)), none, none], [.inr (.inl (wl ((wl (31 * x20)) + q1.1)))], g21) rfl ?_
              cases h
              exact er rfl
            · rw [if_neg hc] at h
              refine es (242, [some (.inr (.inr 0)), some (.inl q1.1), some (.inl y2), some (.inr (.inl x20)), none, none], [.inr (.inl (wl (31 * x20)))], g21) (congrArg some (if_neg hc)) ?_
              refine ev_runs 2 (242, [some (.inr (.inr 0)), some (.inl q1.1), some (.inl y2), some (.inr (.inl x20)), none, none], [.inr (.inl (wl (31 * x20)))], g21) (246, [some (.inr (.inr 0)), some (.inl q1.1), some (.inl y2), some (.inr (.inl x20)), none, none], [.inr (.inr 78), .inr (.inl (wl (31 * x20)))], g21) rfl ?_
              obtain ⟨q22, hq, h⟩ := Option.bind_eq_some_iff.mp h
              refine ec 223 249 [.inr (.inr 78)] [.inr (.inl (wl (31 * x20)))] rfl (ev_Bd_firstOut g21 q22.1 q22.2 hq) ?_
              show Ev 257 249 [some (.inr (.inr 0)), some (.inl q1.1), some (.inl y2), some (.inr (.inl x20)), none, none] [.inl q22.1, .inr (.inl (wl (31 * x20)))] q22.2 _ _
              refine ev_runs 3 (249, [some (.inr (.inr 0)), some (.inl q1.1), some (.inl y2), some (.inr (.inl x20)), none, none], [.inl q22.1, .inr (.inl (wl (31 * x20)))], q22.2) (255, [some (.inr (.inr 0)), some (.inl q1.1), some (.inl y2), some (.inr (.inl x20)), none, none], [.inr (.inl (wl ((wl (31 * x20)) + q22.1)))], q22.2) rfl ?_
              cases h
              exact er rfl
        · rw [if_neg hc] at h
          refine es (157, [some (.inr (.inr 0)), some (.inl q1.1), some (.inl y2), some (.inr (.inl (wl ((wl (31 * (wl ((wl (31 * (wl ((wl (31 * (wl ((wl (31 * (wl ((wl (31 * (wl ((wl (31 * (wl ((wl (31 * (wl ((wl (31 * 17)) + (Tx_length1 q1.2))))) + (Tx_length4 q1.2))))) + (q1.2 0 11))))) + (Bd_size q1.2))))) + y3)))) + q17.1)))) + q18.1)))) + q19.1)))), none, none], [], q19.2) (congrArg some (if_neg hc)) ?_
          refine ev_runs 2 (157, [some (.inr (.inr 0)), some (.inl q1.1), some (.inl y2), some (.inr (.inl (wl ((wl (31 * (wl ((wl (31 * (wl ((wl (31 * (wl ((wl (31 * (wl ((wl (31 * (wl ((wl (31 * (wl ((wl (31 * (wl ((wl (31 * 17)) + (Tx_length1 q1.2))))) + (Tx_length4 q1.2))))) + (q1.2 0 11))))) + (Bd_size q1.2))))) + y3)))) + q17.1)))) + q18.1)))) + q19.1)))), none, none], [], q19.2) (160, [some (.inr (.inr 0)), some (.inl q1.1), some (.inl y2), some (.inr (.inl (wl ((wl (31 * (wl ((wl (31 * (wl ((wl (31 * (wl ((wl (31 * (wl ((wl (31 * (wl ((wl (31 * (wl ((wl (31 * (wl ((wl (31 * 17)) + (Tx_length1 q1.2))))) + (Tx_length4 q1.2))))) + (q1.2 0 11))))) + (Bd_size q1.2))))) + y3)))) + q17.1)))) + q18.1)))) + q19.1)))), none, some (.inl 0)], [], q19.2) rfl ?_
          refine ev_le (L := [some (.inr (.inr 0)), some (.inl q1.1), some (.inl y2), some (.inr (.inl (wl ((wl (31 * (wl ((wl (31 * (wl ((wl (31 * (wl ((wl (31 * (wl ((wl (31 * (wl ((wl (31 * (wl ((wl (31 * (wl ((wl (31 * 17)) + (Tx_length1 q1.2))))) + (Tx_length4 q1.2))))) + (q1.2 0 11))))) + (Bd_size q1.2))))) + y3)))) + q17.1)))) + q18.1)))) + q19.1)))), none, some (.inl 0)]) (by simp [Lle]) ?_
          refine ev_Op_digest_l160 q1.1 y2 _ ?_ fu (wl ((wl (31 * (wl ((wl (31 * (wl ((wl (31 * (wl ((wl (31 * (wl ((wl (31 * (wl ((wl (31 * (wl ((wl (31 * (wl ((wl (31 * 17)) + (Tx_length1 q1.2))))) + (Tx_length4 q1.2))))) + (q1.2 0 11))))) + (Bd_size q1.2))))) + y3)))) + q17.1)))) + q18.1)))) + q19.1)) 0 q19.2 r g' h
          · intro x23 g24 r g' h
            refine ev_runs 2 (186, [some (.inr (.inr 0)), some (.inl q1.1), some (.inl y2), some (.inr (.inl x23)), none, none], [], g24) (190, [some (.inr (.inr 0)), some (.inl q1.1), some (.inl y2), some (.inr (.inl x23)), none, none], [.inr (.inr 78)], g24) rfl ?_
            obtain ⟨g25, hq, h⟩ := Option.bind_eq_some_iff.mp h
            refine ec 216 193 [.inr (.inr 78)] [] rfl (ev_Bd_compare g24 g25 hq) ?_
            show Ev 257 193 [some (.inr (.inr 0)), some (.inl q1.1), some (.inl y2), some (.inr (.inl x23)), none, none] [] g25 _ _
            refine ev_runs 2 (193, [some (.inr (.inr 0)), some (.inl q1.1), some (.inl y2), some (.inr (.inl x23)), none, none], [], g25) (196, [some (.inr (.inr 0)), some (.inl q1.1), some (.inl y2), some (.inr (.inl x23)), none, some (.inl 0)], [], g25) rfl ?_
            refine ev_le (L := [some (.inr (.inr 0)), some (.inl q1.1), some (.inl y2), some (.inr (.inl x23)), none, some (.inl 0)]) (by simp [Lle]) ?_
            refine ev_Op_digest_l196 q1.1 y2 _ ?_ fu x23 0 g25 r g' h
            · intro x26 g27 r g' h
              refine ev_runs 4 (233, [some (.inr (.inr 0)), some (.inl q1.1), some (.inl y2), some (.inr (.inl x26)), none, none], [], g27) (239, [some (.inr (.inr 0)), some (.inl q1.1), some (.inl y2), some (.inr (.inl x26)), none, none], [.inl y2, .inr (.inl (wl (31 * x26)))], g27) rfl ?_
              by_cases hc : y2 = 0
              · rw [if_pos hc] at h
                refine es (252, [some (.inr (.inr 0)), some (.inl q1.1), some (.inl y2), some (.inr (.inl x26)), none, none], [.inr (.inl (wl (31 * x26)))], g27) (congrArg some (if_pos hc)) ?_
                refine ev_runs 3 (252, [some (.inr (.inr 0)), some (.inl q1.1), some (.inl y2), some (.inr (.inl x26)), none, none], [.inr (.inl (wl (31 * x26)))], g27) (255, [some (.inr (.inr 0)), some (.inl q1.1), some (.inl y2), some (.inr (.inl x26)), none, none], [.inr (.inl (wl ((wl (31 * x26)) + q1.1)))], g27) rfl ?_
                cases h
                exact er rfl
              · rw [if_neg hc] at h
                refine es (242, [some (.inr (.inr 0)), some (.inl q1.1), some (.inl y2), some (.inr (.inl x26)), none, none], [.inr (.inl (wl (31 * x26)))], g27) (congrArg some (if_neg hc)) ?_
                refine ev_runs 2 (242, [some (.inr (.inr 0)), some (.inl q1.1), some (.inl y2), some (.inr (.inl x26)), none, none], [.inr (.inl (wl (31 * x26)))], g27) (246, [some (.inr (.inr 0)), some (.inl q1.1), some (.inl y2), some (.inr (.inl x26)), none, none], [.inr (.inr 78), .inr (.inl (wl (31 * x26)))], g27) rfl ?_
                obtain ⟨q28, hq, h⟩ := Option.bind_eq_some_iff.mp h
                refine ec 223 249 [.inr (.inr 78)] [.inr (.inl (wl (31 * x26)))] rfl (ev_Bd_firstOut g27 q28.1 q28.2 hq) ?_
                show Ev 257 249 [some (.inr (.inr 0)), some (.inl q1.1), some (.inl y2), some (.inr (.inl x26)), none, none] [.inl q28.1, .inr (.inl (wl (31 * x26)))] q28.2 _ _
                refine ev_runs 3 (249, [some (.inr (.inr 0)), some (.inl q1.1), some (.inl y2), some (.inr (.inl x26)), none, none], [.inl q28.1, .inr (.inl (wl (31 * x26)))], q28.2) (255, [some (.inr (.inr 0)), some (.inl q1.1), some (.inl y2), some (.inr (.inl x26)), none, none], [.inr (.inl (wl ((wl (31 * x26)) + q28.1)))], q28.2) rfl ?_
                cases h
                exact er rfl
    by_cases hc : y2 = 0
    · rw [if_pos hc] at hy3
      refine es (96, [some (.inr (.inr 0)), some (.inl q1.1), some (.inl y2), some (.inr (.inl (wl ((wl (31 * (wl ((wl (31 * (wl ((wl (31 * (wl ((wl (31 * 17)) + (Tx_length1 q1.2))))) + (Tx_length4 q1.2))))) + (q1.2 0 11))))) + (Bd_size q1.2))))), none, none], [.inr (.inl (wl (31 * (wl ((wl (31 * (wl ((wl (31 * (wl ((wl (31 * (wl ((wl (31 * 17)) + (Tx_length1 q1.2))))) + (Tx_length4 q1.2))))) + (q1.2 0 11))))) + (Bd_size q1.2))))))], q1.2) (congrArg some (if_pos hc)) ?_
      refine ev_runs 1 (96, [some (.inr (.inr 0)), some (.inl q1.1), some (.inl y2), some (.inr (.inl (wl ((wl (31 * (wl ((wl (31 * (wl ((wl (31 * (wl ((wl (31 * 17)) + (Tx_length1 q1.2))))) + (Tx_length4 q1.2))))) + (q1.2 0 11))))) + (Bd_size q1.2))))), none, none], [.inr (.inl (wl (31 * (wl ((wl (31 * (wl ((wl (31 * (wl ((wl (31 * (wl ((wl (31 * 17)) + (Tx_length1 q1.2))))) + (Tx_length4 q1.2))))) + (q1.2 0 11))))) + (Bd_size q1.2))))))], q1.2) (97, [some (.inr (.inr 0)), some (.inl q1.1), some (.inl y2), some (.inr (.inl (wl ((wl (31 * (wl ((wl (31 * (wl ((wl (31 * (wl ((wl (31 * 17)) + (Tx_length1 q1.2))))) + (Tx_length4 q1.2))))) + (q1.2 0 11))))) + (Bd_size q1.2))))), none, none], [.inl q1.1, .inr (.inl (wl (31 * (wl ((wl (31 * (wl ((wl (31 * (wl ((wl (31 * (wl ((wl (31 * 17)) + (Tx_length1 q1.2))))) + (Tx_length4 q1.2))))) + (q1.2 0 11))))) + (Bd_size q1.2))))))], q1.2) rfl ?_
      rw [hy3] at hjy3
      exact ev_le (L := [some (.inr (.inr 0)), some (.inl q1.1), some (.inl y2), none, none, none]) (by simp [Lle]) hjy3
    · rw [if_neg hc] at hy3
      refine es (86, [some (.inr (.inr 0)), some (.inl q1.1), some (.inl y2), some (.inr (.inl (wl ((wl (31 * (wl ((wl (31 * (wl ((wl (31 * (wl ((wl (31 * 17)) + (Tx_length1 q1.2))))) + (Tx_length4 q1.2))))) + (q1.2 0 11))))) + (Bd_size q1.2))))), none, none], [.inr (.inl (wl (31 * (wl ((wl (31 * (wl ((wl (31 * (wl ((wl (31 * (wl ((wl (31 * 17)) + (Tx_length1 q1.2))))) + (Tx_length4 q1.2))))) + (q1.2 0 11))))) + (Bd_size q1.2))))))], q1.2) (congrArg some (if_neg hc)) ?_
      refine ev_runs 2 (86, [some (.inr (.inr 0)), some (.inl q1.1), some (.inl y2), some (.inr (.inl (wl ((wl (31 * (wl ((wl (31 * (wl ((wl (31 * (wl ((wl (31 * 17)) + (Tx_length1 q1.2))))) + (Tx_length4 q1.2))))) + (q1.2 0 11))))) + (Bd_size q1.2))))), none, none], [.inr (.inl (wl (31 * (wl ((wl (31 * (wl ((wl (31 * (wl ((wl (31 * (wl ((wl (31 * 17)) + (Tx_length1 q1.2))))) + (Tx_length4 q1.2))))) + (q1.2 0 11))))) + (Bd_size q1.2))))))], q1.2) (90, [some (.inr (.inr 0)), some (.inl q1.1), some (.inl y2), some (.inr (.inl (wl ((wl (31 * (wl ((wl (31 * (wl ((wl (31 * (wl ((wl (31 * 17)) + (Tx_length1 q1.2))))) + (Tx_length4 q1.2))))) + (q1.2 0 11))))) + (Bd_size q1.2))))), none, none], [.inr (.inr 33), .inr (.inl (wl (31 * (wl ((wl (31 * (wl ((wl (31 * (wl ((wl (31 * (wl ((wl (31 * 17)) + (Tx_length1 q1.2))))) + (Tx_length4 q1.2))))) + (q1.2 0 11))))) + (Bd_size q1.2))))))], q1.2) rfl ?_
      refine ec 74 93 [.inr (.inr 33)] [.inr (.inl (wl (31 * (wl ((wl (31 * (wl ((wl (31 * (wl ((wl (31 * (wl ((wl (31 * 17)) + (Tx_length1 q1.2))))) + (Tx_length4 q1.2))))) + (q1.2 0 11))))) + (Bd_size q1.2))))))] rfl (ev_Hi_size q1.2 _ rfl) ?_
      show Ev 257 93 [some (.inr (.inr 0)), some (.inl q1.1), some (.inl y2), some (.inr (.inl (wl ((wl (31 * (wl ((wl (31 * (wl ((wl (31 * (wl ((wl (31 * 17)) + (Tx_length1 q1.2))))) + (Tx_length4 q1.2))))) + (q1.2 0 11))))) + (Bd_size q1.2))))), none, none] [.inl (Hi_size q1.2), .inr (.inl (wl (31 * (wl ((wl (31 * (wl ((wl (31 * (wl ((wl (31 * (wl ((wl (31 * 17)) + (Tx_length1 q1.2))))) + (Tx_length4 q1.2))))) + (q1.2 0 11))))) + (Bd_size q1.2))))))] q1.2 _ _
      refine ev_runs 1 (93, [some (.inr (.inr 0)), some (.inl q1.1), some (.inl y2), some (.inr (.inl (wl ((wl (31 * (wl ((wl (31 * (wl ((wl (31 * (wl ((wl (31 * 17)) + (Tx_length1 q1.2))))) + (Tx_length4 q1.2))))) + (q1.2 0 11))))) + (Bd_size q1.2))))), none, none], [.inl (Hi_size q1.2), .inr (.inl (wl (31 * (wl ((wl (31 * (wl ((wl (31 * (wl ((wl (31 * (wl ((wl (31 * 17)) + (Tx_length1 q1.2))))) + (Tx_length4 q1.2))))) + (q1.2 0 11))))) + (Bd_size q1.2))))))], q1.2) (97, [some (.inr (.inr 0)), some (.inl q1.1), some (.inl y2), some (.inr (.inl (wl ((wl (31 * (wl ((wl (31 * (wl ((wl (31 * (wl ((wl (31 * 17)) + (Tx_length1 q1.2))))) + (Tx_length4 q1.2))))) + (q1.2 0 11))))) + (Bd_size q1.2))))), none, none], [.inl (Hi_size q1.2), .inr (.inl (wl (31 * (wl ((wl (31 * (wl ((wl (31 * (wl ((wl (31 * (wl ((wl (31 * 17)) + (Tx_length1 q1.2))))) + (Tx_length4 q1.2))))) + (q1.2 0 11))))) + (Bd_size q1.2))))))], q1.2) rfl ?_
      rw [hy3] at hjy3
      exact ev_le (L := [some (.inr (.inr 0)), some (.inl q1.1), some (.inl y2), none, none, none]) (by simp [Lle]) hjy3
  by_cases hc : ¬ q1.1 = 0
  · rw [if_pos hc] at hy2
    refine es (14, [some (.inr (.inr 0)), some (.inl q1.1), none, none, none, none], [], q1.2) (congrArg some (if_pos hc)) ?_
    refine ev_runs 1 (14, [some (.inr (.inr 0)), some (.inl q1.1), none, none, none, none], [], q1.2) (15, [some (.inr (.inr 0)), some (.inl q1.1), none, none, none, none], [.inl 0], q1.2) rfl ?_
    rw [hy2] at hjy2
    exact ev_le (L := [some (.inr (.inr 0)), some (.inl q1.1), none, none, none, none]) (by simp [Lle]) hjy2
  · rw [if_neg hc] at hy2
    refine es (10, [some (.inr (.inr 0)), some (.inl q1.1), none, none, none, none], [], q1.2) (congrArg some (if_neg hc)) ?_
    refine ev_runs 2 (10, [some (.inr (.inr 0)), some (.inl q1.1), none, none, none, none], [], q1.2) (15, [some (.inr (.inr 0)), some (.inl q1.1), none, none, none, none], [.inl 1], q1.2) rfl ?_
    rw [hy2] at hjy2
    exact ev_le (L := [some (.inr (.inr 0)), some (.inl q1.1), none, none, none, none]) (by simp [Lle]) hjy2
set_option maxRecDepth 100000 in
set_option maxHeartbeats 4000000 in
theorem ev_Md_digest_l6 (K6_31 : Int → Gx → Option (Int × Gx)) (hK6_31 : ∀ (x1 : Int) (g : Gx) (r : Int) (g' : Gx), K6_31 x1 g = some (r, g') → Ev 258 31 [some (.inr (.inr 92)), some (.inr (.inl x1)), none, none, none, none] [] g (some (.inr (.inl r))) g') : ∀ (n6 : Nat) (v1 v3 : Int) (g : Gx) (r : Int) (g' : Gx), Md_digest_l6 K6_31 n6 v1 v3 g = some (r, g') → Ev 258 6 [some (.inr (.inr 92)), some (.inr (.inl v1)), none, some (.inl v3), none, none] [] g (some (.inr (.inl r))) g' := by
  intro n6
  induction n6 with
  | zero => intro v1 v3 g r g' h; cases h
  | succ n6 ih6 =>
    intro v1 v3 g r g' h
    rw [Md_digest_l6] at h
    refine ev_runs 2 (6, [some (.inr (.inr 92)), some (.inr (.inl v1)), none, some (.inl v3), none, none], [], g) (9, [some (.inr (.inr 92)), some (.inr (.inl v1)), none, some (.inl v3), none, none], [.inl 6, .inl v3], g) rfl ?_
    by_cases hc : 6 ≤ v3
    · rw [if_pos hc] at h
      refine es (31, [some (.inr (.inr 92)), some (.inr (.inl v1)), none, some (.inl v3), none, none], [], g) (congrArg some (if_pos hc)) ?_
      exact ev_le (L := [some (.inr (.inr 92)), some (.inr (.inl v1)), none, none, none, none]) (by simp [Lle]) (hK6_31 v1 g r g' h)
    · rw [if_neg hc] at h
      refine es (12, [some (.inr (.inr 92)), some (.inr (.inl v1)), none, some (.inl v3), none, none], [], g) (congrArg some (if_neg hc)) ?_
      refine ev_runs 5 (12, [some (.inr (.inr 92)), some (.inr (.inl v1)), none, some (.inl v3), none, none], [], g) (19, [some (.inr (.inr 92)), some (.inr (.inl v1)), none, some (.inl v3), none, none], [.inl v3, .inr (.inr 92), .inr (.inl (wl (31 * v1)))], g) rfl ?_
      obtain ⟨q1, hq, h⟩ := Option.bind_eq_some_iff.mp h
      refine ec 255 22 [.inr (.inr 92), .inl v3] [.inr (.inl (wl (31 * v1)))] rfl (ev_Md_count v3 g q1.1 q1.2 hq) ?_
      show Ev 258 22 [some (.inr (.inr 92)), some (.inr (.inl v1)), none, some (.inl v3), none, none] [.inl q1.1, .inr (.inl (wl (31 * v1)))] q1.2 _ _
      refine ev_runs 5 (22, [some (.inr (.inr 92)), some (.inr (.inl v1)), none, some (.inl v3), none, none], [.inl q1.1, .inr (.inl (wl (31 * v1)))], q1.2) (6, [some (.inr (.inr 92)), some (.inr (.inl (wl ((wl (31 * v1)) + q1.1)))), none, some (.inl (wr (v3 + 1))), none, none], [], q1.2) rfl ?_
      exact ev_le (L := [some (.inr (.inr 92)), some (.inr (.inl (wl ((wl (31 * v1)) + q1.1)))), none, some (.inl (wr (v3 + 1))), none, none]) (by simp [Lle]) (ih6 (wl ((wl (31 * v1)) + q1.1)) (wr (v3 + 1)) q1.2 r g' h)
set_option maxRecDepth 100000 in
set_option maxHeartbeats 4000000 in
theorem ev_Md_digest_l94 (c3 : Int) (c4 : Int) (K94_128 : Int → Gx → Option (Int × Gx)) (hK94_128 : ∀ (x1 : Int) (g : Gx) (r : Int) (g' : Gx), K94_128 x1 g = some (r, g') → Ev 258 128 [some (.inr (.inr 92)), some (.inr (.inl x1)), none, some (.inl c3), some (.inl c4), none] [] g (some (.inr (.inl r))) g') : ∀ (n94 : Nat) (v1 v5 : Int) (g : Gx) (r : Int) (g' : Gx), Md_digest_l94 c3 c4 K94_128 n94 v1 v5 g = some (r, g') → Ev 258 94 [some (.inr (.inr 92)), some (.inr (.inl v1)), none, some (.inl c3), some (.inl c4), some (.inl v5)] [] g (some (.inr (.inl r))) g' := by
  intro n94
  induction n94 with
  | zero => intro v1 v5 g r g' h; cases h
  | succ n94 ih94 =>
    intro v1 v5 g r g' h
    rw [Md_digest_l94] at h
    refine ev_runs 4 (94, [some (.inr (.inr 92)), some (.inr (.inl v1)), none, some (.inl c3), some (.inl c4), some (.inl v5)], [], g) (102, [some (.inr (.inr 92)), some (.inr (.inl v1)), none, some (.inl c3), some (.inl c4), some (.inl v5)], [.inl c4, .inr (.inr 110), .inl v5], g) rfl ?_
    by_cases hc : 0 ≤ c4 ∧ c4 < 30
    · rw [if_pos hc] at h
      refine es (103, [some (.inr (.inr 92)), some (.inr (.inl v1)), none, some (.inl c3), some (.inl c4), some (.inl v5)], [.inl (g 110 c4.toNat), .inl v5], g) (if_pos hc) ?_
      by_cases hc : (g 110 c4.toNat) ≤ v5
      · rw [if_pos hc] at h
        refine es (128, [some (.inr (.inr 92)), some (.inr (.inl v1)), none, some (.inl c3), some (.inl c4), some (.inl v5)], [], g) (congrArg some (if_pos hc)) ?_
        exact ev_le (L := [some (.inr (.inr 92)), some (.inr (.inl v1)), none, some (.inl c3), some (.inl c4), none]) (by simp [Lle]) (hK94_128 v1 g r g' h)
      · rw [if_neg hc] at h
        refine es (106, [some (.inr (.inr 92)), some (.inr (.inl v1)), none, some (.inl c3), some (.inl c4), some (.inl v5)], [], g) (congrArg some (if_neg hc)) ?_
        refine ev_runs 6 (106, [some (.inr (.inr 92)), some (.inr (.inl v1)), none, some (.inl c3), some (.inl c4), some (.inl v5)], [], g) (116, [some (.inr (.inr 92)), some (.inr (.inl v1)), none, some (.inl c3), some (.inl c4), some (.inl v5)], [.inl v5, .inl c4, .inr (.inr 92), .inr (.inl (wl (31 * v1)))], g) rfl ?_
        obtain ⟨q7, hq, h⟩ := Option.bind_eq_some_iff.mp h
        refine ec 89 119 [.inr (.inr 92), .inl c4, .inl v5] [.inr (.inl (wl (31 * v1)))] rfl (ev_Md_code c4 v5 g q7.1 q7.2 hq) ?_
        show Ev 258 119 [some (.inr (.inr 92)), some (.inr (.inl v1)), none, some (.inl c3), some (.inl c4), some (.inl v5)] [.inl q7.1, .inr (.inl (wl (31 * v1)))] q7.2 _ _
        refine ev_runs 5 (119, [some (.inr (.inr 92)), some (.inr (.inl v1)), none, some (.inl c3), some (.inl c4), some (.inl v5)], [.inl q7.1, .inr (.inl (wl (31 * v1)))], q7.2) (94, [some (.inr (.inr 92)), some (.inr (.inl (wl ((wl (31 * v1)) + q7.1)))), none, some (.inl c3), some (.inl c4), some (.inl (wr (v5 + 1)))], [], q7.2) rfl ?_
        exact ev_le (L := [some (.inr (.inr 92)), some (.inr (.inl (wl ((wl (31 * v1)) + q7.1)))), none, some (.inl c3), some (.inl c4), some (.inl (wr (v5 + 1)))]) (by simp [Lle]) (ih94 (wl ((wl (31 * v1)) + q7.1)) (wr (v5 + 1)) q7.2 r g' h)
    · rw [if_neg hc] at h; cases h
set_option maxRecDepth 100000 in
set_option maxHeartbeats 4000000 in
theorem ev_Md_digest_l63 (c3 : Int) (K63_148 : Int → Gx → Option (Int × Gx)) (hK63_148 : ∀ (x1 : Int) (g : Gx) (r : Int) (g' : Gx), K63_148 x1 g = some (r, g') → Ev 258 148 [some (.inr (.inr 92)), some (.inr (.inl x1)), none, none, none, none] [] g (some (.inr (.inl r))) g') : ∀ (n63 : Nat) (v1 v4 : Int) (g : Gx) (r : Int) (g' : Gx), Md_digest_l63 c3 K63_148 n63 v1 v4 g = some (r, g') → Ev 258 63 [some (.inr (.inr 92)), some (.inr (.inl v1)), none, some (.inl c3), some (.inl v4), none] [] g (some (.inr (.inl r))) g' := by
  intro n63
  induction n63 with
  | zero => intro v1 v4 g r g' h; cases h
  | succ n63 ih63 =>
    intro v1 v4 g r g' h
    rw [Md_digest_l63] at h
    refine ev_runs 3 (63, [some (.inr (.inr 92)), some (.inr (.inl v1)), none, some (.inl c3), some (.inl v4), none], [], g) (69, [some (.inr (.inr 92)), some (.inr (.inl v1)), none, some (.inl c3), some (.inl v4), none], [.inl (g 92 26), .inl v4], g) rfl ?_
    by_cases hc : (g 92 26) ≤ v4
    · rw [if_pos hc] at h
      refine es (148, [some (.inr (.inr 92)), some (.inr (.inl v1)), none, some (.inl c3), some (.inl v4), none], [], g) (congrArg some (if_pos hc)) ?_
      exact ev_le (L := [some (.inr (.inr 92)), some (.inr (.inl v1)), none, none, none, none]) (by simp [Lle]) (hK63_148 v1 g r g' h)
    · rw [if_neg hc] at h
      refine es (72, [some (.inr (.inr 92)), some (.inr (.inl v1)), none, some (.inl c3), some (.inl v4), none], [], g) (congrArg some (if_neg hc)) ?_
      refine ev_runs 1 (72, [some (.inr (.inr 92)), some (.inr (.inl v1)), none, some (.inl c3), some (.inl v4), none], [], g) (73, [some (.inr (.inr 92)), some (.inr (.inl v1)), none, some (.inl c3), some (.inl v4), none], [.inl c3], g) rfl ?_
      by_cases hc : ¬ c3 = 0
      · rw [if_pos hc] at h
        refine es (148, [some (.inr (.inr 92)), some (.inr (.inl v1)), none, some (.inl c3), some (.inl v4), none], [], g) (congrArg some (if_pos hc)) ?_
        exact ev_le (L := [some (.inr (.inr 92)), some (.inr (.inl v1)), none, none, none, none]) (by simp [Lle]) (hK63_148 v1 g r g' h)
      · rw [if_neg hc] at h
        refine es (76, [some (.inr (.inr 92)), some (.inr (.inl v1)), none, some (.inl c3), some (.inl v4), none], [], g) (congrArg some (if_neg hc)) ?_
        refine ev_runs 6 (76, [some (.inr (.inr 92)), some (.inr (.inl v1)), none, some (.inl c3), some (.inl v4), none], [], g) (87, [some (.inr (.inr 92)), some (.inr (.inl v1)), none, some (.inl c3), some (.inl v4), none], [.inl v4, .inr (.inr 110), .inr (.inl (wl (31 * v1)))], g) rfl ?_
        by_cases hc : 0 ≤ v4 ∧ v4 < 30
        · rw [if_pos hc] at h
          refine es (88, [some (.inr (.inr 92)), some (.inr (.inl v1)), none, some (.inl c3), some (.inl v4), none], [.inl (g 110 v4.toNat), .inr (.inl (wl (31 * v1)))], g) (if_pos hc) ?_
          refine ev_runs 5 (88, [some (.inr (.inr 92)), some (.inr (.inl v1)), none, some (.inl c3), some (.inl v4), none], [.inl (g 110 v4.toNat), .inr (.inl (wl (31 * v1)))], g) (94, [some (.inr (.inr 92)), some (.inr (.inl (wl ((wl (31 * v1)) + (g 110 v4.toNat))))), none, some (.inl c3), some (.inl v4), some (.inl 0)], [], g) rfl ?_
          refine ev_le (L := [some (.inr (.inr 92)), some (.inr (.inl (wl ((wl (31 * v1)) + (g 110 v4.toNat))))), none, some (.inl c3), some (.inl v4), some (.inl 0)]) (by simp [Lle]) ?_
          refine ev_Md_digest_l94 c3 v4 _ ?_ fu (wl ((wl (31 * v1)) + (g 110 v4.toNat))) 0 g r g' h
          · intro x8 g9 r g' h
            refine ev_runs 5 (128, [some (.inr (.inr 92)), some (.inr (.inl x8)), none, some (.inl c3), some (.inl v4), none], [], g9) (136, [some (.inr (.inr 92)), some (.inr (.inl x8)), none, some (.inl c3), some (.inl v4), none], [.inl v4, .inr (.inr 92), .inr (.inl (wl (31 * x8)))], g9) rfl ?_
            obtain ⟨q10, hq, h⟩ := Option.bind_eq_some_iff.mp h
            refine ec 167 139 [.inr (.inr 92), .inl v4] [.inr (.inl (wl (31 * x8)))] rfl (ev_Md_chainOf v4 g9 q10.1 q10.2 hq) ?_
            show Ev 258 139 [some (.inr (.inr 92)), some (.inr (.inl x8)), none, some (.inl c3), some (.inl v4), none] [.inl q10.1, .inr (.inl (wl (31 * x8)))] q10.2 _ _
            refine ev_runs 5 (139, [some (.inr (.inr 92)), some (.inr (.inl x8)), none, some (.inl c3), some (.inl v4), none], [.inl q10.1, .inr (.inl (wl (31 * x8)))], q10.2) (63, [some (.inr (.inr 92)), some (.inr (.inl (wl ((wl (31 * x8)) + q10.1)))), none, some (.inl c3), some (.inl (wr (v4 + 1))), none], [], q10.2) rfl ?_
            exact ev_le (L := [some (.inr (.inr 92)), some (.inr (.inl (wl ((wl (31 * x8)) + q10.1)))), none, some (.inl c3), some (.inl (wr (v4 + 1))), none]) (by simp [Lle]) (ih63 (wl ((wl (31 * x8)) + q10.1)) (wr (v4 + 1)) q10.2 r g' h)
        · rw [if_neg hc] at h; cases h
set_option maxRecDepth 100000 in
set_option maxHeartbeats 4000000 in
theorem ev_Md_digest_l151 (K151_177 : Int → Gx → Option (Int × Gx)) (hK151_177 : ∀ (x1 : Int) (g : Gx) (r : Int) (g' : Gx), K151_177 x1 g = some (r, g') → Ev 258 177 [some (.inr (.inr 92)), some (.inr (.inl x1)), none, none, none, none] [] g (some (.inr (.inl r))) g') : ∀ (n151 : Nat) (v1 v4 : Int) (g : Gx) (r : Int) (g' : Gx), Md_digest_l151 K151_177 n151 v1 v4 g = some (r, g') → Ev 258 151 [some (.inr (.inr 92)), some (.inr (.inl v1)), none, none, some (.inl v4), none] [] g (some (.inr (.inl r))) g' := by
  intro n151
  induction n151 with
  | zero => intro v1 v4 g r g' h; cases h
  | succ n151 ih151 =>
    intro v1 v4 g r g' h
    rw [Md_digest_l151] at h
    refine ev_runs 2 (151, [some (.inr (.inr 92)), some (.inr (.inl v1)), none, none, some (.inl v4), none], [], g) (154, [some (.inr (.inr 92)), some (.inr (.inl v1)), none, none, some (.inl v4), none], [.inl 4, .inl v4], g) rfl ?_
    by_cases hc : 4 ≤ v4
    · rw [if_pos hc] at h
      refine es (177, [some (.inr (.inr 92)), some (.inr (.inl v1)), none, none, some (.inl v4), none], [], g) (congrArg some (if_pos hc)) ?_
      exact ev_le (L := [some (.inr (.inr 92)), some (.inr (.inl v1)), none, none, none, none]) (by simp [Lle]) (hK151_177 v1 g r g' h)
    · rw [if_neg hc] at h
      refine es (157, [some (.inr (.inr 92)), some (.inr (.inl v1)), none, none, some (.inl v4), none], [], g) (congrArg some (if_neg hc)) ?_
      refine ev_runs 5 (157, [some (.inr (.inr 92)), some (.inr (.inl v1)), none, none, some (.inl v4), none], [], g) (165, [some (.inr (.inr 92)), some (.inr (.inl v1)), none, none, some (.inl v4), none], [.inl v4, .inr (.inr 92), .inr (.inl (wl (31 * v1)))], g) rfl ?_
      obtain ⟨q13, hq, h⟩ := Option.bind_eq_some_iff.mp h
      refine ec 130 168 [.inr (.inr 92), .inl v4] [.inr (.inl (wl (31 * v1)))] rfl (ev_Md_momentOf v4 g q13.1 q13.2 hq) ?_
      show Ev 258 168 [some (.inr (.inr 92)), some (.inr (.inl v1)), none, none, some (.inl v4), none] [.inl q13.1, .inr (.inl (wl (31 * v1)))] q13.2 _ _
      refine ev_runs 5 (168, [some (.inr (.inr 92)), some (.inr (.inl v1)), none, none, some (.inl v4), none], [.inl q13.1, .inr (.inl (wl (31 * v1)))], q13.2) (151, [some (.inr (.inr 92)), some (.inr (.inl (wl ((wl (31 * v1)) + q13.1)))), none, none, some (.inl (wr (v4 + 1))), none], [], q13.2) rfl ?_
      exact ev_le (L := [some (.inr (.inr 92)), some (.inr (.inl (wl ((wl (31 * v1)) + q13.1)))), none, none, some (.inl (wr (v4 + 1))), none]) (by simp [Lle]) (ih151 (wl ((wl (31 * v1)) + q13.1)) (wr (v4 + 1)) q13.2 r g' h)
set_option maxRecDepth 100000 in
set_option maxHeartbeats 4000000 in
theorem ev_Md_digest (g : Gx) (r : Int) (g' : Gx) (h : Md_digest g = some (r, g')) : Ev 258 0 [some (.inr (.inr 92)), none, none, none, none, none] [] g (some (.inr (.inl r))) g' := by
  rw [Md_digest] at h
  refine ev_runs 4 (0, [some (.inr (.inr 92)), none, none, none, none, none], [], g) (6, [some (.inr (.inr 92)), some (.inr (.inl 17)), none, some (.inl 0), none, none], [], g) rfl ?_
  refine ev_le (L := [some (.inr (.inr 92)), some (.inr (.inl 17)), none, some (.inl 0), none, none]) (by simp [Lle]) ?_
  refine ev_Md_digest_l6 _ ?_ fu 17 0 g r g' h
  · intro x2 g3 r g' h
    refine ev_runs 4 (31, [some (.inr (.inr 92)), some (.inr (.inl x2)), none, none, none, none], [], g3) (37, [some (.inr (.inr 92)), some (.inr (.inl x2)), none, none, none, none], [.inr (.inr 92), .inr (.inl (wl (31 * x2)))], g3) rfl ?_
    obtain ⟨q4, hq, h⟩ := Option.bind_eq_some_iff.mp h
    refine ec 43 40 [.inr (.inr 92)] [.inr (.inl (wl (31 * x2)))] rfl (ev_Md_reads g3 q4.1 q4.2 hq) ?_
    show Ev 258 40 [some (.inr (.inr 92)), some (.inr (.inl x2)), none, none, none, none] [.inl q4.1, .inr (.inl (wl (31 * x2)))] q4.2 _ _
    refine ev_runs 7 (40, [some (.inr (.inr 92)), some (.inr (.inl x2)), none, none, none, none], [.inl q4.1, .inr (.inl (wl (31 * x2)))], q4.2) (49, [some (.inr (.inr 92)), some (.inr (.inl (wl ((wl (31 * x2)) + q4.1)))), none, none, none, none], [.inr (.inr 92), .inr (.inl (wl (31 * (wl ((wl (31 * x2)) + q4.1)))))], q4.2) rfl ?_
    obtain ⟨q5, hq, h⟩ := Option.bind_eq_some_iff.mp h
    refine ec 44 52 [.inr (.inr 92)] [.inr (.inl (wl (31 * (wl ((wl (31 * x2)) + q4.1)))))] rfl (ev_Md_readsProgram q4.2 q5.1 q5.2 hq) ?_
    show Ev 258 52 [some (.inr (.inr 92)), some (.inr (.inl (wl ((wl (31 * x2)) + q4.1)))), none, none, none, none] [.inl q5.1, .inr (.inl (wl (31 * (wl ((wl (31 * x2)) + q4.1)))))] q5.2 _ _
    refine ev_runs 4 (52, [some (.inr (.inr 92)), some (.inr (.inl (wl ((wl (31 * x2)) + q4.1)))), none, none, none, none], [.inl q5.1, .inr (.inl (wl (31 * (wl ((wl (31 * x2)) + q4.1)))))], q5.2) (56, [some (.inr (.inr 92)), some (.inr (.inl (wl ((wl (31 * (wl ((wl (31 * x2)) + q4.1)))) + q5.1)))), none, none, none, none], [.inr (.inr 92)], q5.2) rfl ?_
    obtain ⟨q6, hq, h⟩ := Option.bind_eq_some_iff.mp h
    refine ec 81 59 [.inr (.inr 92)] [] rfl (ev_Md_without q5.2 q6.1 q6.2 hq) ?_
    show Ev 258 59 [some (.inr (.inr 92)), some (.inr (.inl (wl ((wl (31 * (wl ((wl (31 * x2)) + q4.1)))) + q5.1)))), none, none, none, none] [.inl q6.1] q6.2 _ _
    refine ev_runs 3 (59, [some (.inr (.inr 92)), some (.inr (.inl (wl ((wl (31 * (wl ((wl (31 * x2)) + q4.1)))) + q5.1)))), none, none, none, none], [.inl q6.1], q6.2) (63, [some (.inr (.inr 92)), some (.inr (.inl (wl ((wl (31 * (wl ((wl (31 * x2)) + q4.1)))) + q5.1)))), none, some (.inl q6.1), some (.inl 0), none], [], q6.2) rfl ?_
    refine ev_le (L := [some (.inr (.inr 92)), some (.inr (.inl (wl ((wl (31 * (wl ((wl (31 * x2)) + q4.1)))) + q5.1)))), none, some (.inl q6.1), some (.inl 0), none]) (by simp [Lle]) ?_
    refine ev_Md_digest_l63 q6.1 _ ?_ fu (wl ((wl (31 * (wl ((wl (31 * x2)) + q4.1)))) + q5.1)) 0 q6.2 r g' h
    · intro x11 g12 r g' h
      refine ev_runs 2 (148, [some (.inr (.inr 92)), some (.inr (.inl x11)), none, none, none, none], [], g12) (151, [some (.inr (.inr 92)), some (.inr (.inl x11)), none, none, some (.inl 0), none], [], g12) rfl ?_
      refine ev_le (L := [some (.inr (.inr 92)), some (.inr (.inl x11)), none, none, some (.inl 0), none]) (by simp [Lle]) ?_
      refine ev_Md_digest_l151 _ ?_ fu x11 0 g12 r g' h
      · intro x14 g15 r g' h
        refine ev_runs 5 (177, [some (.inr (.inr 92)), some (.inr (.inl x14)), none, none, none, none], [], g15) (184, [some (.inr (.inr 92)), some (.inr (.inl x14)), none, none, none, none], [.inl 0, .inr (.inr 92), .inr (.inl (wl (31 * x14)))], g15) rfl ?_
        obtain ⟨q16, hq, h⟩ := Option.bind_eq_some_iff.mp h
        refine ec 227 187 [.inr (.inr 92), .inl 0] [.inr (.inl (wl (31 * x14)))] rfl (ev_Md_out 0 g15 q16.1 q16.2 hq) ?_
        show Ev 258 187 [some (.inr (.inr 92)), some (.inr (.inl x14)), none, none, none, none] [.inl q16.1, .inr (.inl (wl (31 * x14)))] q16.2 _ _
        refine ev_runs 2 (187, [some (.inr (.inr 92)), some (.inr (.inl x14)), none, none, none, none], [.inl q16.1, .inr (.inl (wl (31 * x14)))], q16.2) (189, [some (.inr (.inr 92)), some (.inr (.inl x14)), none, none, none, none], [.inr (.inl (wl ((wl (31 * x14)) + q16.1)))], q16.2) rfl ?_
        cases h
        exact er rfl
