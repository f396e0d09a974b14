/-! The small machine does what the functions say. Printed by wip/gen/gen_parts.py. -/
set_option maxRecDepth 100000 in
set_option maxHeartbeats 4000000 in
theorem ev_Sh_move_l3 (c1 : Int) (c2 : Int) (c3 : Int) (c4 : Int) (c5 : Int) (K3_62 : Gx → Option Gx) (hK3_62 : ∀ (g : Gx) (g' : Gx), K3_62 g = some g' → Ev 245 62 [none, none, none, none, none, none, none, none] [] g none g') : ∀ (n3 : Nat) (v6 : Int) (g : Gx) (g' : Gx), Sh_move_l3 c1 c2 c3 c4 c5 K3_62 n3 v6 g = some g' → Ev 245 3 [some (.inr (.inr 85)), some (.inl c1), some (.inl c2), some (.inl c3), some (.inl c4), some (.inl c5), some (.inl v6), none] [] g none g' := by
  intro n3
  induction n3 with
  | zero => intro v6 g g' h; cases h
  | succ n3 ih3 =>
    intro v6 g g' h
    rw [Sh_move_l3] at h
    refine ev_runs 2 (3, [some (.inr (.inr 85)), some (.inl c1), some (.inl c2), some (.inl c3), some (.inl c4), some (.inl c5), some (.inl v6), none], [], g) (7, [some (.inr (.inr 85)), some (.inl c1), some (.inl c2), some (.inl c3), some (.inl c4), some (.inl c5), some (.inl v6), none], [.inl c5, .inl v6], g) rfl ?_
    by_cases hc : c5 ≤ v6
    · rw [if_pos hc] at h
      refine es (62, [some (.inr (.inr 85)), some (.inl c1), some (.inl c2), some (.inl c3), some (.inl c4), some (.inl c5), some (.inl v6), none], [], g) (congrArg some (if_pos hc)) ?_
      exact ev_le (L := [none, none, none, none, none, none, none, none]) (by simp [Lle]) (hK3_62 g g' h)
    · rw [if_neg hc] at h
      refine es (10, [some (.inr (.inr 85)), some (.inl c1), some (.inl c2), some (.inl c3), some (.inl c4), some (.inl c5), some (.inl v6), none], [], g) (congrArg some (if_neg hc)) ?_
      refine ev_runs 2 (10, [some (.inr (.inr 85)), some (.inl c1), some (.inl c2), some (.inl c3), some (.inl c4), some (.inl c5), some (.inl v6), none], [], g) (13, [some (.inr (.inr 85)), some (.inl c1), some (.inl c2), some (.inl c3), some (.inl c4), some (.inl c5), some (.inl v6), none], [.inl c2, .inl c4], g) rfl ?_
      obtain ⟨y1, hy1, h⟩ := lett_inv h
      have hjy1 : Ev 245 28 [some (.inr (.inr 85)), some (.inl c1), some (.inl c2), some (.inl c3), some (.inl c4), some (.inl c5), some (.inl v6), none] [.inl y1] g none g' := by
        refine ev_runs 15 (28, [some (.inr (.inr 85)), some (.inl c1), some (.inl c2), some (.inl c3), some (.inl c4), some (.inl c5), some (.inl v6), none], [.inl y1], g) (50, [some (.inr (.inr 85)), some (.inl c1), some (.inl c2), some (.inl c3), some (.inl c4), some (.inl c5), some (.inl v6), some (.inl y1)], [.inl (wr (c2 + y1)), .inl c1, .inr (.inr 85), .inl (wr ((wr ((wr (c3 * 60)) + c4)) + y1)), .inr (.inr 86)], g) rfl ?_
        refine ec 200 53 [.inr (.inr 85), .inl c1, .inl (wr (c2 + y1))] [.inl (wr ((wr ((wr (c3 * 60)) + c4)) + y1)), .inr (.inr 86)] rfl (ev_Sh_item c1 (wr (c2 + y1)) g _ rfl) ?_
        show Ev 245 53 [some (.inr (.inr 85)), some (.inl c1), some (.inl c2), some (.inl c3), some (.inl c4), some (.inl c5), some (.inl v6), some (.inl y1)] [.inl (Sh_item c1 (wr (c2 + y1)) g), .inl (wr ((wr ((wr (c3 * 60)) + c4)) + y1)), .inr (.inr 86)] g _ _
        refine ec 0 56 [.inr (.inr 86), .inl (wr ((wr ((wr (c3 * 60)) + c4)) + y1)), .inl (Sh_item c1 (wr (c2 + y1)) g)] [] rfl (ev_Row_set rfl rfl _ _ _) ?_
        show Ev 245 56 [some (.inr (.inr 85)), some (.inl c1), some (.inl c2), some (.inl c3), some (.inl c4), some (.inl c5), some (.inl v6), some (.inl y1)] [] (rset g 87 240 (wr ((wr ((wr (c3 * 60)) + c4)) + y1)) (Sh_item c1 (wr (c2 + y1)) g)) _ _
        refine ev_runs 2 (56, [some (.inr (.inr 85)), some (.inl c1), some (.inl c2), some (.inl c3), some (.inl c4), some (.inl c5), some (.inl v6), some (.inl y1)], [], (rset g 87 240 (wr ((wr ((wr (c3 * 60)) + c4)) + y1)) (Sh_item c1 (wr (c2 + y1)) g))) (3, [some (.inr (.inr 85)), some (.inl c1), some (.inl c2), some (.inl c3), some (.inl c4), some (.inl c5), some (.inl (wr (v6 + 1))), some (.inl y1)], [], (rset g 87 240 (wr ((wr ((wr (c3 * 60)) + c4)) + y1)) (Sh_item c1 (wr (c2 + y1)) g))) rfl ?_
        exact ev_le (L := [some (.inr (.inr 85)), some (.inl c1), some (.inl c2), some (.inl c3), some (.inl c4), some (.inl c5), some (.inl (wr (v6 + 1))), none]) (by simp [Lle]) (ih3 (wr (v6 + 1)) (rset g 87 240 (wr ((wr ((wr (c3 * 60)) + c4)) + y1)) (Sh_item c1 (wr (c2 + y1)) g)) g' h)
      by_cases hc : c4 ≤ c2
      · rw [if_pos hc] at hy1
        refine es (26, [some (.inr (.inr 85)), some (.inl c1), some (.inl c2), some (.inl c3), some (.inl c4), some (.inl c5), some (.inl v6), none], [], g) (congrArg some (if_pos hc)) ?_
        refine ev_runs 1 (26, [some (.inr (.inr 85)), some (.inl c1), some (.inl c2), some (.inl c3), some (.inl c4), some (.inl c5), some (.inl v6), none], [], g) (28, [some (.inr (.inr 85)), some (.inl c1), some (.inl c2), some (.inl c3), some (.inl c4), some (.inl c5), some (.inl v6), none], [.inl v6], g) rfl ?_
        rw [hy1] at hjy1
        exact ev_le (L := [some (.inr (.inr 85)), some (.inl c1), some (.inl c2), some (.inl c3), some (.inl c4), some (.inl c5), some (.inl v6), none]) (by simp [Lle]) hjy1
      · rw [if_neg hc] at hy1
        refine es (16, [some (.inr (.inr 85)), some (.inl c1), some (.inl c2), some (.inl c3), some (.inl c4), some (.inl c5), some (.inl v6), none], [], g) (congrArg some (if_neg hc)) ?_
        refine ev_runs 6 (16, [some (.inr (.inr 85)), some (.inl c1), some (.inl c2), some (.inl c3), some (.inl c4), some (.inl c5), some (.inl v6), none], [], g) (28, [some (.inr (.inr 85)), some (.inl c1), some (.inl c2), some (.inl c3), some (.inl c4), some (.inl c5), some (.inl v6), none], [.inl (wr ((wr (c5 - 1)) - v6))], g) rfl ?_
        rw [hy1] at hjy1
        exact ev_le (L := [some (.inr (.inr 85)), some (.inl c1), some (.inl c2), some (.inl c3), some (.inl c4), some (.inl c5), some (.inl v6), none]) (by simp [Lle]) hjy1
set_option maxRecDepth 100000 in
set_option maxHeartbeats 4000000 in
theorem ev_Sh_move (a1 a2 a3 a4 a5 : Int) (g : Gx) (g' : Gx) (h : Sh_move a1 a2 a3 a4 a5 g = some g') : Ev 245 0 [some (.inr (.inr 85)), some (.inl a1), some (.inl a2), some (.inl a3), some (.inl a4), some (.inl a5), none, none] [] g none g' := by
  rw [Sh_move] at h
  refine ev_runs 2 (0, [some (.inr (.inr 85)), some (.inl a1), some (.inl a2), some (.inl a3), some (.inl a4), some (.inl a5), none, none], [], g) (3, [some (.inr (.inr 85)), some (.inl a1), some (.inl a2), some (.inl a3), some (.inl a4), some (.inl a5), some (.inl 0), none], [], g) rfl ?_
  refine ev_le (L := [some (.inr (.inr 85)), some (.inl a1), some (.inl a2), some (.inl a3), some (.inl a4), some (.inl a5), some (.inl 0), none]) (by simp [Lle]) ?_
  refine ev_Sh_move_l3 a1 a2 a3 a4 a5 _ ?_ fu 0 g g' h
  · intro g2 g' h
    cases h
    exact er rfl
set_option maxRecDepth 100000 in
set_option maxHeartbeats 4000000 in
theorem ev_Op_copy (a1 a2 a3 a4 a5 : Int) (g : Gx) (r : Int) (g' : Gx) (h : Op_copy a1 a2 a3 a4 a5 g = some (r, g')) : Ev 246 0 [some (.inr (.inr 0)), some (.inl a1), some (.inl a2), some (.inl a3), some (.inl a4), some (.inl a5)] [] g (some (.inl r)) g' := by
  rw [Op_copy] at h
  refine ev_runs 1 (0, [some (.inr (.inr 0)), some (.inl a1), some (.inl a2), some (.inl a3), some (.inl a4), some (.inl a5)], [], g) (1, [some (.inr (.inr 0)), some (.inl a1), some (.inl a2), some (.inl a3), some (.inl a4), some (.inl a5)], [.inl a1], g) rfl ?_
  refine ec 196 4 [.inl a1] [] rfl (ev_Op_isSheet a1 g _ rfl) ?_
  show Ev 246 4 [some (.inr (.inr 0)), some (.inl a1), some (.inl a2), some (.inl a3), some (.inl a4), some (.inl a5)] [.inl (Op_isSheet a1)] g _ _
  by_cases hc : (Op_isSheet a1) = 0
  · rw [if_pos hc] at h
    refine es (14, [some (.inr (.inr 0)), some (.inl a1), some (.inl a2), some (.inl a3), some (.inl a4), some (.inl a5)], [], g) (congrArg some (if_pos hc)) ?_
    refine ev_runs 1 (14, [some (.inr (.inr 0)), some (.inl a1), some (.inl a2), some (.inl a3), some (.inl a4), some (.inl a5)], [], g) (16, [some (.inr (.inr 0)), some (.inl a1), some (.inl a2), some (.inl a3), some (.inl a4), some (.inl a5)], [.inl (-2)], g) rfl ?_
    cases h
    exact er rfl
  · rw [if_neg hc] at h
    refine es (7, [some (.inr (.inr 0)), some (.inl a1), some (.inl a2), some (.inl a3), some (.inl a4), some (.inl a5)], [], g) (congrArg some (if_neg hc)) ?_
    refine ev_runs 1 (7, [some (.inr (.inr 0)), some (.inl a1), some (.inl a2), some (.inl a3), some (.inl a4), some (.inl a5)], [], g) (8, [some (.inr (.inr 0)), some (.inl a1), some (.inl a2), some (.inl a3), some (.inl a4), some (.inl a5)], [.inl a3], g) rfl ?_
    refine ec 196 11 [.inl a3] [] rfl (ev_Op_isSheet a3 g _ rfl) ?_
    show Ev 246 11 [some (.inr (.inr 0)), some (.inl a1), some (.inl a2), some (.inl a3), some (.inl a4), some (.inl a5)] [.inl (Op_isSheet a3)] g _ _
    by_cases hc : ¬ (Op_isSheet a3) = 0
    · rw [if_pos hc] at h
      refine es (17, [some (.inr (.inr 0)), some (.inl a1), some (.inl a2), some (.inl a3), some (.inl a4), some (.inl a5)], [], g) (congrArg some (if_pos hc)) ?_
      refine ev_runs 3 (17, [some (.inr (.inr 0)), some (.inl a1), some (.inl a2), some (.inl a3), some (.inl a4), some (.inl a5)], [], g) (22, [some (.inr (.inr 0)), some (.inl a1), some (.inl a2), some (.inl a3), some (.inl a4), some (.inl a5)], [.inl a1, .inr (.inr 85)], g) rfl ?_
      refine ec 197 25 [.inr (.inr 85), .inl a1] [] rfl (ev_Sh_isLost a1 g _ rfl) ?_
      show Ev 246 25 [some (.inr (.inr 0)), some (.inl a1), some (.inl a2), some (.inl a3), some (.inl a4), some (.inl a5)] [.inl (Sh_isLost a1 g)] g _ _
      by_cases hc : ¬ (Sh_isLost a1 g) = 0
      · rw [if_pos hc] at h
        refine es (39, [some (.inr (.inr 0)), some (.inl a1), some (.inl a2), some (.inl a3), some (.inl a4), some (.inl a5)], [], g) (congrArg some (if_pos hc)) ?_
        refine ev_runs 2 (39, [some (.inr (.inr 0)), some (.inl a1), some (.inl a2), some (.inl a3), some (.inl a4), some (.inl a5)], [], g) (41, [some (.inr (.inr 0)), some (.inl a1), some (.inl a2), some (.inl a3), some (.inl a4), some (.inl a5)], [.inl 1, .inr (.inr 0)], g) rfl ?_
        obtain ⟨q1, hq, h⟩ := lett_inv h
        refine ec 198 44 [.inr (.inr 0), .inl 1] [] rfl (ev_Op_found 1 g q1.1 q1.2 hq.symm) ?_
        show Ev 246 44 [some (.inr (.inr 0)), some (.inl a1), some (.inl a2), some (.inl a3), some (.inl a4), some (.inl a5)] [.inl q1.1] q1.2 _ _
        cases h
        exact er rfl
      · rw [if_neg hc] at h
        refine es (28, [some (.inr (.inr 0)), some (.inl a1), some (.inl a2), some (.inl a3), some (.inl a4), some (.inl a5)], [], g) (congrArg some (if_neg hc)) ?_
        refine ev_runs 3 (28, [some (.inr (.inr 0)), some (.inl a1), some (.inl a2), some (.inl a3), some (.inl a4), some (.inl a5)], [], g) (33, [some (.inr (.inr 0)), some (.inl a1), some (.inl a2), some (.inl a3), some (.inl a4), some (.inl a5)], [.inl a3, .inr (.inr 85)], g) rfl ?_
        refine ec 197 36 [.inr (.inr 85), .inl a3] [] rfl (ev_Sh_isLost a3 g _ rfl) ?_
        show Ev 246 36 [some (.inr (.inr 0)), some (.inl a1), some (.inl a2), some (.inl a3), some (.inl a4), some (.inl a5)] [.inl (Sh_isLost a3 g)] g _ _
        by_cases hc : (Sh_isLost a3 g) = 0
        · rw [if_pos hc] at h
          refine es (45, [some (.inr (.inr 0)), some (.inl a1), some (.inl a2), some (.inl a3), some (.inl a4), some (.inl a5)], [], g) (congrArg some (if_pos hc)) ?_
          refine ev_runs 3 (45, [some (.inr (.inr 0)), some (.inl a1), some (.inl a2), some (.inl a3), some (.inl a4), some (.inl a5)], [], g) (50, [some (.inr (.inr 0)), some (.inl a1), some (.inl a2), some (.inl a3), some (.inl a4), some (.inl a5)], [.inl a1, .inr (.inr 85)], g) rfl ?_
          refine ec 244 53 [.inr (.inr 85), .inl a1] [] rfl (ev_Sh_form a1 g _ rfl) ?_
          show Ev 246 53 [some (.inr (.inr 0)), some (.inl a1), some (.inl a2), some (.inl a3), some (.inl a4), some (.inl a5)] [.inl (Sh_form a1 g)] g _ _
          refine ev_runs 3 (53, [some (.inr (.inr 0)), some (.inl a1), some (.inl a2), some (.inl a3), some (.inl a4), some (.inl a5)], [.inl (Sh_form a1 g)], g) (58, [some (.inr (.inr 0)), some (.inl a1), some (.inl a2), some (.inl a3), some (.inl a4), some (.inl a5)], [.inl a3, .inr (.inr 85), .inl (Sh_form a1 g)], g) rfl ?_
          refine ec 244 61 [.inr (.inr 85), .inl a3] [.inl (Sh_form a1 g)] rfl (ev_Sh_form a3 g _ rfl) ?_
          show Ev 246 61 [some (.inr (.inr 0)), some (.inl a1), some (.inl a2), some (.inl a3), some (.inl a4), some (.inl a5)] [.inl (Sh_form a3 g), .inl (Sh_form a1 g)] g _ _
          by_cases hc : (Sh_form a1 g) = (Sh_form a3 g)
          · rw [if_pos hc] at h
            refine es (70, [some (.inr (.inr 0)), some (.inl a1), some (.inl a2), some (.inl a3), some (.inl a4), some (.inl a5)], [], g) (congrArg some (if_pos hc)) ?_
            refine ev_runs 5 (70, [some (.inr (.inr 0)), some (.inl a1), some (.inl a2), some (.inl a3), some (.inl a4), some (.inl a5)], [], g) (78, [some (.inr (.inr 0)), some (.inl a1), some (.inl a2), some (.inl a3), some (.inl a4), some (.inl a5)], [.inl a5, .inl a2, .inl a1, .inr (.inr 85)], g) rfl ?_
            refine ec 235 81 [.inr (.inr 85), .inl a1, .inl a2, .inl a5] [] rfl (ev_Sh_hasItems a1 a2 a5 g _ rfl) ?_
            show Ev 246 81 [some (.inr (.inr 0)), some (.inl a1), some (.inl a2), some (.inl a3), some (.inl a4), some (.inl a5)] [.inl (Sh_hasItems a1 a2 a5 g)] g _ _
            by_cases hc : (Sh_hasItems a1 a2 a5 g) = 0
            · rw [if_pos hc] at h
              refine es (99, [some (.inr (.inr 0)), some (.inl a1), some (.inl a2), some (.inl a3), some (.inl a4), some (.inl a5)], [], g) (congrArg some (if_pos hc)) ?_
              refine ev_runs 2 (99, [some (.inr (.inr 0)), some (.inl a1), some (.inl a2), some (.inl a3), some (.inl a4), some (.inl a5)], [], g) (101, [some (.inr (.inr 0)), some (.inl a1), some (.inl a2), some (.inl a3), some (.inl a4), some (.inl a5)], [.inl 2, .inr (.inr 0)], g) rfl ?_
              obtain ⟨q2, hq, h⟩ := lett_inv h
              refine ec 198 104 [.inr (.inr 0), .inl 2] [] rfl (ev_Op_found 2 g q2.1 q2.2 hq.symm) ?_
              show Ev 246 104 [some (.inr (.inr 0)), some (.inl a1), some (.inl a2), some (.inl a3), some (.inl a4), some (.inl a5)] [.inl q2.1] q2.2 _ _
              cases h
              exact er rfl
            · rw [if_neg hc] at h
              refine es (84, [some (.inr (.inr 0)), some (.inl a1), some (.inl a2), some (.inl a3), some (.inl a4), some (.inl a5)], [], g) (congrArg some (if_neg hc)) ?_
              refine ev_runs 5 (84, [some (.inr (.inr 0)), some (.inl a1), some (.inl a2), some (.inl a3), some (.inl a4), some (.inl a5)], [], g) (93, [some (.inr (.inr 0)), some (.inl a1), some (.inl a2), some (.inl a3), some (.inl a4), some (.inl a5)], [.inl a5, .inl a4, .inl a3, .inr (.inr 85)], g) rfl ?_
              refine ec 235 96 [.inr (.inr 85), .inl a3, .inl a4, .inl a5] [] rfl (ev_Sh_hasItems a3 a4 a5 g _ rfl) ?_
              show Ev 246 96 [some (.inr (.inr 0)), some (.inl a1), some (.inl a2), some (.inl a3), some (.inl a4), some (.inl a5)] [.inl (Sh_hasItems a3 a4 a5 g)] g _ _
              by_cases hc : ¬ (Sh_hasItems a3 a4 a5 g) = 0
              · rw [if_pos hc] at h
                refine es (105, [some (.inr (.inr 0)), some (.inl a1), some (.inl a2), some (.inl a3), some (.inl a4), some (.inl a5)], [], g) (congrArg some (if_pos hc)) ?_
                refine ev_runs 7 (105, [some (.inr (.inr 0)), some (.inl a1), some (.inl a2), some (.inl a3), some (.inl a4), some (.inl a5)], [], g) (116, [some (.inr (.inr 0)), some (.inl a1), some (.inl a2), some (.inl a3), some (.inl a4), some (.inl a5)], [.inl a5, .inl a4, .inl a3, .inl a2, .inl a1, .inr (.inr 85)], g) rfl ?_
                obtain ⟨g3, hq, h⟩ := Option.bind_eq_some_iff.mp h
                refine ec 245 119 [.inr (.inr 85), .inl a1, .inl a2, .inl a3, .inl a4, .inl a5] [] rfl (ev_Sh_move a1 a2 a3 a4 a5 g g3 hq) ?_
                show Ev 246 119 [some (.inr (.inr 0)), some (.inl a1), some (.inl a2), some (.inl a3), some (.inl a4), some (.inl a5)] [] g3 _ _
                refine ev_runs 1 (119, [some (.inr (.inr 0)), some (.inl a1), some (.inl a2), some (.inl a3), some (.inl a4), some (.inl a5)], [], g3) (120, [some (.inr (.inr 0)), some (.inl a1), some (.inl a2), some (.inl a3), some (.inl a4), some (.inl a5)], [.inl 1], g3) rfl ?_
                cases h
                exact er rfl
              · rw [if_neg hc] at h
                refine es (99, [some (.inr (.inr 0)), some (.inl a1), some (.inl a2), some (.inl a3), some (.inl a4), some (.inl a5)], [], g) (congrArg some (if_neg hc)) ?_
                refine ev_runs 2 (99, [some (.inr (.inr 0)), some (.inl a1), some (.inl a2), some (.inl a3), some (.inl a4), some (.inl a5)], [], g) (101, [some (.inr (.inr 0)), some (.inl a1), some (.inl a2), some (.inl a3), some (.inl a4), some (.inl a5)], [.inl 2, .inr (.inr 0)], g) rfl ?_
                obtain ⟨q4, hq, h⟩ := lett_inv h
                refine ec 198 104 [.inr (.inr 0), .inl 2] [] rfl (ev_Op_found 2 g q4.1 q4.2 hq.symm) ?_
                show Ev 246 104 [some (.inr (.inr 0)), some (.inl a1), some (.inl a2), some (.inl a3), some (.inl a4), some (.inl a5)] [.inl q4.1] q4.2 _ _
                cases h
                exact er rfl
          · rw [if_neg hc] at h
            refine es (64, [some (.inr (.inr 0)), some (.inl a1), some (.inl a2), some (.inl a3), some (.inl a4), some (.inl a5)], [], g) (congrArg some (if_neg hc)) ?_
            refine ev_runs 2 (64, [some (.inr (.inr 0)), some (.inl a1), some (.inl a2), some (.inl a3), some (.inl a4), some (.inl a5)], [], g) (66, [some (.inr (.inr 0)), some (.inl a1), some (.inl a2), some (.inl a3), some (.inl a4), some (.inl a5)], [.inl 4, .inr (.inr 0)], g) rfl ?_
            obtain ⟨q5, hq, h⟩ := lett_inv h
            refine ec 198 69 [.inr (.inr 0), .inl 4] [] rfl (ev_Op_found 4 g q5.1 q5.2 hq.symm) ?_
            show Ev 246 69 [some (.inr (.inr 0)), some (.inl a1), some (.inl a2), some (.inl a3), some (.inl a4), some (.inl a5)] [.inl q5.1] q5.2 _ _
            cases h
            exact er rfl
        · rw [if_neg hc] at h
          refine es (39, [some (.inr (.inr 0)), some (.inl a1), some (.inl a2), some (.inl a3), some (.inl a4), some (.inl a5)], [], g) (congrArg some (if_neg hc)) ?_
          refine ev_runs 2 (39, [some (.inr (.inr 0)), some (.inl a1), some (.inl a2), some (.inl a3), some (.inl a4), some (.inl a5)], [], g) (41, [some (.inr (.inr 0)), some (.inl a1), some (.inl a2), some (.inl a3), some (.inl a4), some (.inl a5)], [.inl 1, .inr (.inr 0)], g) rfl ?_
          obtain ⟨q6, hq, h⟩ := lett_inv h
          refine ec 198 44 [.inr (.inr 0), .inl 1] [] rfl (ev_Op_found 1 g q6.1 q6.2 hq.symm) ?_
          show Ev 246 44 [some (.inr (.inr 0)), some (.inl a1), some (.inl a2), some (.inl a3), some (.inl a4), some (.inl a5)] [.inl q6.1] q6.2 _ _
          cases h
          exact er rfl
    · rw [if_neg hc] at h
      refine es (14, [some (.inr (.inr 0)), some (.inl a1), some (.inl a2), some (.inl a3), some (.inl a4), some (.inl a5)], [], g) (congrArg some (if_neg hc)) ?_
      refine ev_runs 1 (14, [some (.inr (.inr 0)), some (.inl a1), some (.inl a2), some (.inl a3), some (.inl a4), some (.inl a5)], [], g) (16, [some (.inr (.inr 0)), some (.inl a1), some (.inl a2), some (.inl a3), some (.inl a4), some (.inl a5)], [.inl (-2)], g) rfl ?_
      cases h
      exact er rfl
set_option maxRecDepth 100000 in
set_option maxHeartbeats 4000000 in
theorem ev_Md_copy_l120 (c1 : Int) (c2 : Int) (c3 : Int) (c4 : Int) (c5 : Int) (K120_154 : Gx → Option (Int × Gx)) (hK120_154 : ∀ (g : Gx) (r : Int) (g' : Gx), K120_154 g = some (r, g') → Ev 247 154 [some (.inr (.inr 92)), none, none, some (.inl c3), some (.inl c4), some (.inl c5), none] [] g (some (.inl r)) g') : ∀ (n120 : Nat) (v6 : Int) (g : Gx) (r : Int) (g' : Gx), Md_copy_l120 c1 c2 c3 c4 c5 K120_154 n120 v6 g = some (r, g') → Ev 247 120 [some (.inr (.inr 92)), some (.inl c1), some (.inl c2), some (.inl c3), some (.inl c4), some (.inl c5), some (.inl v6)] [] g (some (.inl r)) g' := by
  intro n120
  induction n120 with
  | zero => intro v6 g r g' h; cases h
  | succ n120 ih120 =>
    intro v6 g r g' h
    rw [Md_copy_l120] at h
    refine ev_runs 2 (120, [some (.inr (.inr 92)), some (.inl c1), some (.inl c2), some (.inl c3), some (.inl c4), some (.inl c5), some (.inl v6)], [], g) (124, [some (.inr (.inr 92)), some (.inl c1), some (.inl c2), some (.inl c3), some (.inl c4), some (.inl c5), some (.inl v6)], [.inl c5, .inl v6], g) rfl ?_
    by_cases hc : c5 ≤ v6
    · rw [if_pos hc] at h
      refine es (154, [some (.inr (.inr 92)), some (.inl c1), some (.inl c2), some (.inl c3), some (.inl c4), some (.inl c5), some (.inl v6)], [], g) (congrArg some (if_pos hc)) ?_
      exact ev_le (L := [some (.inr (.inr 92)), none, none, some (.inl c3), some (.inl c4), some (.inl c5), none]) (by simp [Lle]) (hK120_154 g r g' h)
    · rw [if_neg hc] at h
      refine es (127, [some (.inr (.inr 92)), some (.inl c1), some (.inl c2), some (.inl c3), some (.inl c4), some (.inl c5), some (.inl v6)], [], g) (congrArg some (if_neg hc)) ?_
      refine ev_runs 12 (127, [some (.inr (.inr 92)), some (.inl c1), some (.inl c2), some (.inl c3), some (.inl c4), some (.inl c5), some (.inl v6)], [], g) (146, [some (.inr (.inr 92)), some (.inl c1), some (.inl c2), some (.inl c3), some (.inl c4), some (.inl c5), some (.inl v6)], [.inl (wr ((wr ((wr (60 * c1)) + c2)) + v6)), .inr (.inr 95), .inl v6, .inr (.inr 96)], g) rfl ?_
      by_cases hc : 0 ≤ (wr ((wr ((wr (60 * c1)) + c2)) + v6)) ∧ (wr ((wr ((wr (60 * c1)) + c2)) + v6)) < 240
      · rw [if_pos hc] at h
        refine es (147, [some (.inr (.inr 92)), some (.inl c1), some (.inl c2), some (.inl c3), some (.inl c4), some (.inl c5), some (.inl v6)], [.inl (g 95 (wr ((wr ((wr (60 * c1)) + c2)) + v6)).toNat), .inl v6, .inr (.inr 96)], g) (if_pos hc) ?_
        by_cases hc : 0 ≤ v6 ∧ v6 < 60
        · rw [if_pos hc] at h
          refine es (148, [some (.inr (.inr 92)), some (.inl c1), some (.inl c2), some (.inl c3), some (.inl c4), some (.inl c5), some (.inl v6)], [], (gset g 96 v6.toNat (g 95 (wr ((wr ((wr (60 * c1)) + c2)) + v6)).toNat))) (if_pos hc) ?_
          refine ev_runs 2 (148, [some (.inr (.inr 92)), some (.inl c1), some (.inl c2), some (.inl c3), some (.inl c4), some (.inl c5), some (.inl v6)], [], (gset g 96 v6.toNat (g 95 (wr ((wr ((wr (60 * c1)) + c2)) + v6)).toNat))) (120, [some (.inr (.inr 92)), some (.inl c1), some (.inl c2), some (.inl c3), some (.inl c4), some (.inl c5), some (.inl (wr (v6 + 1)))], [], (gset g 96 v6.toNat (g 95 (wr ((wr ((wr (60 * c1)) + c2)) + v6)).toNat))) rfl ?_
          exact ev_le (L := [some (.inr (.inr 92)), some (.inl c1), some (.inl c2), some (.inl c3), some (.inl c4), some (.inl c5), some (.inl (wr (v6 + 1)))]) (by simp [Lle]) (ih120 (wr (v6 + 1)) (gset g 96 v6.toNat (g 95 (wr ((wr ((wr (60 * c1)) + c2)) + v6)).toNat)) r g' h)
        · rw [if_neg hc] at h; cases h
      · rw [if_neg hc] at h; cases h
set_option maxRecDepth 100000 in
set_option maxHeartbeats 4000000 in
theorem ev_Md_copy_l157 (c3 : Int) (c4 : Int) (c5 : Int) (K157_192 : Gx → Option (Int × Gx)) (hK157_192 : ∀ (g : Gx) (r : Int) (g' : Gx), K157_192 g = some (r, g') → Ev 247 192 [none, none, none, none, none, none, none] [] g (some (.inl r)) g') : ∀ (n157 : Nat) (v6 : Int) (g : Gx) (r : Int) (g' : Gx), Md_copy_l157 c3 c4 c5 K157_192 n157 v6 g = some (r, g') → Ev 247 157 [some (.inr (.inr 92)), none, none, some (.inl c3), some (.inl c4), some (.inl c5), some (.inl v6)] [] g (some (.inl r)) g' := by
  intro n157
  induction n157 with
  | zero => intro v6 g r g' h; cases h
  | succ n157 ih157 =>
    intro v6 g r g' h
    rw [Md_copy_l157] at h
    refine ev_runs 2 (157, [some (.inr (.inr 92)), none, none, some (.inl c3), some (.inl c4), some (.inl c5), some (.inl v6)], [], g) (161, [some (.inr (.inr 92)), none, none, some (.inl c3), some (.inl c4), some (.inl c5), some (.inl v6)], [.inl c5, .inl v6], g) rfl ?_
    by_cases hc : c5 ≤ v6
    · rw [if_pos hc] at h
      refine es (192, [some (.inr (.inr 92)), none, none, some (.inl c3), some (.inl c4), some (.inl c5), some (.inl v6)], [], g) (congrArg some (if_pos hc)) ?_
      exact ev_le (L := [none, none, none, none, none, none, none]) (by simp [Lle]) (hK157_192 g r g' h)
    · rw [if_neg hc] at h
      refine es (164, [some (.inr (.inr 92)), none, none, some (.inl c3), some (.inl c4), some (.inl c5), some (.inl v6)], [], g) (congrArg some (if_neg hc)) ?_
      refine ev_runs 12 (164, [some (.inr (.inr 92)), none, none, some (.inl c3), some (.inl c4), some (.inl c5), some (.inl v6)], [], g) (184, [some (.inr (.inr 92)), none, none, some (.inl c3), some (.inl c4), some (.inl c5), some (.inl v6)], [.inl v6, .inr (.inr 96), .inl (wr ((wr ((wr (60 * c3)) + c4)) + v6)), .inr (.inr 95)], g) rfl ?_
      by_cases hc : 0 ≤ v6 ∧ v6 < 60
      · rw [if_pos hc] at h
        refine es (185, [some (.inr (.inr 92)), none, none, some (.inl c3), some (.inl c4), some (.inl c5), some (.inl v6)], [.inl (g 96 v6.toNat), .inl (wr ((wr ((wr (60 * c3)) + c4)) + v6)), .inr (.inr 95)], g) (if_pos hc) ?_
        by_cases hc : 0 ≤ (wr ((wr ((wr (60 * c3)) + c4)) + v6)) ∧ (wr ((wr ((wr (60 * c3)) + c4)) + v6)) < 240
        · rw [if_pos hc] at h
          refine es (186, [some (.inr (.inr 92)), none, none, some (.inl c3), some (.inl c4), some (.inl c5), some (.inl v6)], [], (gset g 95 ((wr ((wr ((wr (60 * c3)) + c4)) + v6)).toNat) (g 96 v6.toNat))) (if_pos hc) ?_
          refine ev_runs 2 (186, [some (.inr (.inr 92)), none, none, some (.inl c3), some (.inl c4), some (.inl c5), some (.inl v6)], [], (gset g 95 ((wr ((wr ((wr (60 * c3)) + c4)) + v6)).toNat) (g 96 v6.toNat))) (157, [some (.inr (.inr 92)), none, none, some (.inl c3), some (.inl c4), some (.inl c5), some (.inl (wr (v6 + 1)))], [], (gset g 95 ((wr ((wr ((wr (60 * c3)) + c4)) + v6)).toNat) (g 96 v6.toNat))) rfl ?_
          exact ev_le (L := [some (.inr (.inr 92)), none, none, some (.inl c3), some (.inl c4), some (.inl c5), some (.inl (wr (v6 + 1)))]) (by simp [Lle]) (ih157 (wr (v6 + 1)) (gset g 95 ((wr ((wr ((wr (60 * c3)) + c4)) + v6)).toNat) (g 96 v6.toNat)) r g' h)
        · rw [if_neg hc] at h; cases h
      · rw [if_neg hc] at h; cases h
set_option maxRecDepth 100000 in
set_option maxHeartbeats 4000000 in
theorem ev_Md_copy (a1 a2 a3 a4 a5 : Int) (g : Gx) (r : Int) (g' : Gx) (h : Md_copy a1 a2 a3 a4 a5 g = some (r, g')) : Ev 247 0 [some (.inr (.inr 92)), some (.inl a1), some (.inl a2), some (.inl a3), some (.inl a4), some (.inl a5), none] [] g (some (.inl r)) g' := by
  rw [Md_copy] at h
  refine ev_runs 1 (0, [some (.inr (.inr 92)), some (.inl a1), some (.inl a2), some (.inl a3), some (.inl a4), some (.inl a5), none], [], g) (1, [some (.inr (.inr 92)), some (.inl a1), some (.inl a2), some (.inl a3), some (.inl a4), some (.inl a5), none], [.inl a1], g) rfl ?_
  refine ec 204 4 [.inl a1] [] rfl (ev_Md_isSheet a1 g _ rfl) ?_
  show Ev 247 4 [some (.inr (.inr 92)), some (.inl a1), some (.inl a2), some (.inl a3), some (.inl a4), some (.inl a5), none] [.inl (Md_isSheet a1)] g _ _
  by_cases hc : (Md_isSheet a1) = 0
  · rw [if_pos hc] at h
    refine es (14, [some (.inr (.inr 92)), some (.inl a1), some (.inl a2), some (.inl a3), some (.inl a4), some (.inl a5), none], [], g) (congrArg some (if_pos hc)) ?_
    refine ev_runs 1 (14, [some (.inr (.inr 92)), some (.inl a1), some (.inl a2), some (.inl a3), some (.inl a4), some (.inl a5), none], [], g) (16, [some (.inr (.inr 92)), some (.inl a1), some (.inl a2), some (.inl a3), some (.inl a4), some (.inl a5), none], [.inl (-2)], g) rfl ?_
    cases h
    exact er rfl
  · rw [if_neg hc] at h
    refine es (7, [some (.inr (.inr 92)), some (.inl a1), some (.inl a2), some (.inl a3), some (.inl a4), some (.inl a5), none], [], g) (congrArg some (if_neg hc)) ?_
    refine ev_runs 1 (7, [some (.inr (.inr 92)), some (.inl a1), some (.inl a2), some (.inl a3), some (.inl a4), some (.inl a5), none], [], g) (8, [some (.inr (.inr 92)), some (.inl a1), some (.inl a2), some (.inl a3), some (.inl a4), some (.inl a5), none], [.inl a3], g) rfl ?_
    refine ec 204 11 [.inl a3] [] rfl (ev_Md_isSheet a3 g _ rfl) ?_
    show Ev 247 11 [some (.inr (.inr 92)), some (.inl a1), some (.inl a2), some (.inl a3), some (.inl a4), some (.inl a5), none] [.inl (Md_isSheet a3)] g _ _
    by_cases hc : ¬ (Md_isSheet a3) = 0
    · rw [if_pos hc] at h
      refine es (17, [some (.inr (.inr 92)), some (.inl a1), some (.inl a2), some (.inl a3), some (.inl a4), some (.inl a5), none], [], g) (congrArg some (if_pos hc)) ?_
      refine ev_runs 3 (17, [some (.inr (.inr 92)), some (.inl a1), some (.inl a2), some (.inl a3), some (.inl a4), some (.inl a5), none], [], g) (22, [some (.inr (.inr 92)), some (.inl a1), some (.inl a2), some (.inl a3), some (.inl a4), some (.inl a5), none], [.inl a1, .inr (.inr 93)], g) rfl ?_
      by_cases hc : 0 ≤ a1 ∧ a1 < 4
      · rw [if_pos hc] at h
        refine es (23, [some (.inr (.inr 92)), some (.inl a1), some (.inl a2), some (.inl a3), some (.inl a4), some (.inl a5), none], [.inl (g 93 a1.toNat)], g) (if_pos hc) ?_
        by_cases hc : (g 93 a1.toNat) < 0
        · rw [if_pos hc] at h
          refine es (35, [some (.inr (.inr 92)), some (.inl a1), some (.inl a2), some (.inl a3), some (.inl a4), some (.inl a5), none], [], g) (congrArg some (if_pos hc)) ?_
          refine ev_runs 2 (35, [some (.inr (.inr 92)), some (.inl a1), some (.inl a2), some (.inl a3), some (.inl a4), some (.inl a5), none], [], g) (37, [some (.inr (.inr 92)), some (.inl a1), some (.inl a2), some (.inl a3), some (.inl a4), some (.inl a5), none], [.inl 1, .inr (.inr 92)], g) rfl ?_
          obtain ⟨q1, hq, h⟩ := lett_inv h
          refine ec 205 40 [.inr (.inr 92), .inl 1] [] rfl (ev_Md_met 1 g q1.1 q1.2 hq.symm) ?_
          show Ev 247 40 [some (.inr (.inr 92)), some (.inl a1), some (.inl a2), some (.inl a3), some (.inl a4), some (.inl a5), none] [.inl q1.1] q1.2 _ _
          cases h
          exact er rfl
        · rw [if_neg hc] at h
          refine es (26, [some (.inr (.inr 92)), some (.inl a1), some (.inl a2), some (.inl a3), some (.inl a4), some (.inl a5), none], [], g) (congrArg some (if_neg hc)) ?_
          refine ev_runs 3 (26, [some (.inr (.inr 92)), some (.inl a1), some (.inl a2), some (.inl a3), some (.inl a4), some (.inl a5), none], [], g) (31, [some (.inr (.inr 92)), some (.inl a1), some (.inl a2), some (.inl a3), some (.inl a4), some (.inl a5), none], [.inl a3, .inr (.inr 93)], g) rfl ?_
          by_cases hc : 0 ≤ a3 ∧ a3 < 4
          · rw [if_pos hc] at h
            refine es (32, [some (.inr (.inr 92)), some (.inl a1), some (.inl a2), some (.inl a3), some (.inl a4), some (.inl a5), none], [.inl (g 93 a3.toNat)], g) (if_pos hc) ?_
            by_cases hc : 0 ≤ (g 93 a3.toNat)
            · rw [if_pos hc] at h
              refine es (41, [some (.inr (.inr 92)), some (.inl a1), some (.inl a2), some (.inl a3), some (.inl a4), some (.inl a5), none], [], g) (congrArg some (if_pos hc)) ?_
              refine ev_runs 3 (41, [some (.inr (.inr 92)), some (.inl a1), some (.inl a2), some (.inl a3), some (.inl a4), some (.inl a5), none], [], g) (46, [some (.inr (.inr 92)), some (.inl a1), some (.inl a2), some (.inl a3), some (.inl a4), some (.inl a5), none], [.inl a1, .inr (.inr 93)], g) rfl ?_
              by_cases hc : 0 ≤ a1 ∧ a1 < 4
              · rw [if_pos hc] at h
                refine es (47, [some (.inr (.inr 92)), some (.inl a1), some (.inl a2), some (.inl a3), some (.inl a4), some (.inl a5), none], [.inl (g 93 a1.toNat)], g) (if_pos hc) ?_
                refine ev_runs 3 (47, [some (.inr (.inr 92)), some (.inl a1), some (.inl a2), some (.inl a3), some (.inl a4), some (.inl a5), none], [.inl (g 93 a1.toNat)], g) (52, [some (.inr (.inr 92)), some (.inl a1), some (.inl a2), some (.inl a3), some (.inl a4), some (.inl a5), none], [.inl a3, .inr (.inr 93), .inl (g 93 a1.toNat)], g) rfl ?_
                by_cases hc : 0 ≤ a3 ∧ a3 < 4
                · rw [if_pos hc] at h
                  refine es (53, [some (.inr (.inr 92)), some (.inl a1), some (.inl a2), some (.inl a3), some (.inl a4), some (.inl a5), none], [.inl (g 93 a3.toNat), .inl (g 93 a1.toNat)], g) (if_pos hc) ?_
                  by_cases hc : (g 93 a1.toNat) = (g 93 a3.toNat)
                  · rw [if_pos hc] at h
                    refine es (62, [some (.inr (.inr 92)), some (.inl a1), some (.inl a2), some (.inl a3), some (.inl a4), some (.inl a5), none], [], g) (congrArg some (if_pos hc)) ?_
                    refine ev_runs 1 (62, [some (.inr (.inr 92)), some (.inl a1), some (.inl a2), some (.inl a3), some (.inl a4), some (.inl a5), none], [], g) (63, [some (.inr (.inr 92)), some (.inl a1), some (.inl a2), some (.inl a3), some (.inl a4), some (.inl a5), none], [.inl a2], g) rfl ?_
                    by_cases hc : a2 < 0
                    · rw [if_pos hc] at h
                      refine es (111, [some (.inr (.inr 92)), some (.inl a1), some (.inl a2), some (.inl a3), some (.inl a4), some (.inl a5), none], [], g) (congrArg some (if_pos hc)) ?_
                      refine ev_runs 2 (111, [some (.inr (.inr 92)), some (.inl a1), some (.inl a2), some (.inl a3), some (.inl a4), some (.inl a5), none], [], g) (113, [some (.inr (.inr 92)), some (.inl a1), some (.inl a2), some (.inl a3), some (.inl a4), some (.inl a5), none], [.inl 2, .inr (.inr 92)], g) rfl ?_
                      obtain ⟨q2, hq, h⟩ := lett_inv h
                      refine ec 205 116 [.inr (.inr 92), .inl 2] [] rfl (ev_Md_met 2 g q2.1 q2.2 hq.symm) ?_
                      show Ev 247 116 [some (.inr (.inr 92)), some (.inl a1), some (.inl a2), some (.inl a3), some (.inl a4), some (.inl a5), none] [.inl q2.1] q2.2 _ _
                      cases h
                      exact er rfl
                    · rw [if_neg hc] at h
                      refine es (66, [some (.inr (.inr 92)), some (.inl a1), some (.inl a2), some (.inl a3), some (.inl a4), some (.inl a5), none], [], g) (congrArg some (if_neg hc)) ?_
                      refine ev_runs 1 (66, [some (.inr (.inr 92)), some (.inl a1), some (.inl a2), some (.inl a3), some (.inl a4), some (.inl a5), none], [], g) (68, [some (.inr (.inr 92)), some (.inl a1), some (.inl a2), some (.inl a3), some (.inl a4), some (.inl a5), none], [.inl a4], g) rfl ?_
                      by_cases hc : a4 < 0
                      · rw [if_pos hc] at h
                        refine es (111, [some (.inr (.inr 92)), some (.inl a1), some (.inl a2), some (.inl a3), some (.inl a4), some (.inl a5), none], [], g) (congrArg some (if_pos hc)) ?_
                        refine ev_runs 2 (111, [some (.inr (.inr 92)), some (.inl a1), some (.inl a2), some (.inl a3), some (.inl a4), some (.inl a5), none], [], g) (113, [some (.inr (.inr 92)), some (.inl a1), some (.inl a2), some (.inl a3), some (.inl a4), some (.inl a5), none], [.inl 2, .inr (.inr 92)], g) rfl ?_
                        obtain ⟨q3, hq, h⟩ := lett_inv h
                        refine ec 205 116 [.inr (.inr 92), .inl 2] [] rfl (ev_Md_met 2 g q3.1 q3.2 hq.symm) ?_
                        show Ev 247 116 [some (.inr (.inr 92)), some (.inl a1), some (.inl a2), some (.inl a3), some (.inl a4), some (.inl a5), none] [.inl q3.1] q3.2 _ _
                        cases h
                        exact er rfl
                      · rw [if_neg hc] at h
                        refine es (71, [some (.inr (.inr 92)), some (.inl a1), some (.inl a2), some (.inl a3), some (.inl a4), some (.inl a5), none], [], g) (congrArg some (if_neg hc)) ?_
                        refine ev_runs 1 (71, [some (.inr (.inr 92)), some (.inl a1), some (.inl a2), some (.inl a3), some (.inl a4), some (.inl a5), none], [], g) (73, [some (.inr (.inr 92)), some (.inl a1), some (.inl a2), some (.inl a3), some (.inl a4), some (.inl a5), none], [.inl a5], g) rfl ?_
                        by_cases hc : a5 < 0
                        · rw [if_pos hc] at h
                          refine es (111, [some (.inr (.inr 92)), some (.inl a1), some (.inl a2), some (.inl a3), some (.inl a4), some (.inl a5), none], [], g) (congrArg some (if_pos hc)) ?_
                          refine ev_runs 2 (111, [some (.inr (.inr 92)), some (.inl a1), some (.inl a2), some (.inl a3), some (.inl a4), some (.inl a5), none], [], g) (113, [some (.inr (.inr 92)), some (.inl a1), some (.inl a2), some (.inl a3), some (.inl a4), some (.inl a5), none], [.inl 2, .inr (.inr 92)], g) rfl ?_
                          obtain ⟨q4, hq, h⟩ := lett_inv h
                          refine ec 205 116 [.inr (.inr 92), .inl 2] [] rfl (ev_Md_met 2 g q4.1 q4.2 hq.symm) ?_
                          show Ev 247 116 [some (.inr (.inr 92)), some (.inl a1), some (.inl a2), some (.inl a3), some (.inl a4), some (.inl a5), none] [.inl q4.1] q4.2 _ _
                          cases h
                          exact er rfl
                        · rw [if_neg hc] at h
                          refine es (76, [some (.inr (.inr 92)), some (.inl a1), some (.inl a2), some (.inl a3), some (.inl a4), some (.inl a5), none], [], g) (congrArg some (if_neg hc)) ?_
                          refine ev_runs 8 (76, [some (.inr (.inr 92)), some (.inl a1), some (.inl a2), some (.inl a3), some (.inl a4), some (.inl a5), none], [], g) (87, [some (.inr (.inr 92)), some (.inl a1), some (.inl a2), some (.inl a3), some (.inl a4), some (.inl a5), none], [.inl a1, .inr (.inr 94), .inr (.inl (wl (a2 + a5)))], g) rfl ?_
                          by_cases hc : 0 ≤ a1 ∧ a1 < 4
                          · rw [if_pos hc] at h
                            refine es (88, [some (.inr (.inr 92)), some (.inl a1), some (.inl a2), some (.inl a3), some (.inl a4), some (.inl a5), none], [.inl (g 94 a1.toNat), .inr (.inl (wl (a2 + a5)))], g) (if_pos hc) ?_
                            refine ev_runs 2 (88, [some (.inr (.inr 92)), some (.inl a1), some (.inl a2), some (.inl a3), some (.inl a4), some (.inl a5), none], [.inl (g 94 a1.toNat), .inr (.inl (wl (a2 + a5)))], g) (90, [some (.inr (.inr 92)), some (.inl a1), some (.inl a2), some (.inl a3), some (.inl a4), some (.inl a5), none], [.inl (mcmp (wl (a2 + a5)) (g 94 a1.toNat))], g) rfl ?_
                            by_cases hc : 0 < (mcmp (wl (a2 + a5)) (g 94 a1.toNat))
                            · rw [if_pos hc] at h
                              refine es (111, [some (.inr (.inr 92)), some (.inl a1), some (.inl a2), some (.inl a3), some (.inl a4), some (.inl a5), none], [], g) (congrArg some (if_pos hc)) ?_
                              refine ev_runs 2 (111, [some (.inr (.inr 92)), some (.inl a1), some (.inl a2), some (.inl a3), some (.inl a4), some (.inl a5), none], [], g) (113, [some (.inr (.inr 92)), some (.inl a1), some (.inl a2), some (.inl a3), some (.inl a4), some (.inl a5), none], [.inl 2, .inr (.inr 92)], g) rfl ?_
                              obtain ⟨q5, hq, h⟩ := lett_inv h
                              refine ec 205 116 [.inr (.inr 92), .inl 2] [] rfl (ev_Md_met 2 g q5.1 q5.2 hq.symm) ?_
                              show Ev 247 116 [some (.inr (.inr 92)), some (.inl a1), some (.inl a2), some (.inl a3), some (.inl a4), some (.inl a5), none] [.inl q5.1] q5.2 _ _
                              cases h
                              exact er rfl
                            · rw [if_neg hc] at h
                              refine es (93, [some (.inr (.inr 92)), some (.inl a1), some (.inl a2), some (.inl a3), some (.inl a4), some (.inl a5), none], [], g) (congrArg some (if_neg hc)) ?_
                              refine ev_runs 8 (93, [some (.inr (.inr 92)), some (.inl a1), some (.inl a2), some (.inl a3), some (.inl a4), some (.inl a5), none], [], g) (105, [some (.inr (.inr 92)), some (.inl a1), some (.inl a2), some (.inl a3), some (.inl a4), some (.inl a5), none], [.inl a3, .inr (.inr 94), .inr (.inl (wl (a4 + a5)))], g) rfl ?_
                              by_cases hc : 0 ≤ a3 ∧ a3 < 4
                              · rw [if_pos hc] at h
                                refine es (106, [some (.inr (.inr 92)), some (.inl a1), some (.inl a2), some (.inl a3), some (.inl a4), some (.inl a5), none], [.inl (g 94 a3.toNat), .inr (.inl (wl (a4 + a5)))], g) (if_pos hc) ?_
                                refine ev_runs 2 (106, [some (.inr (.inr 92)), some (.inl a1), some (.inl a2), some (.inl a3), some (.inl a4), some (.inl a5), none], [.inl (g 94 a3.toNat), .inr (.inl (wl (a4 + a5)))], g) (108, [some (.inr (.inr 92)), some (.inl a1), some (.inl a2), some (.inl a3), some (.inl a4), some (.inl a5), none], [.inl (mcmp (wl (a4 + a5)) (g 94 a3.toNat))], g) rfl ?_
                                by_cases hc : (mcmp (wl (a4 + a5)) (g 94 a3.toNat)) ≤ 0
                                · rw [if_pos hc] at h
                                  refine es (117, [some (.inr (.inr 92)), some (.inl a1), some (.inl a2), some (.inl a3), some (.inl a4), some (.inl a5), none], [], g) (congrArg some (if_pos hc)) ?_
                                  refine ev_runs 2 (117, [some (.inr (.inr 92)), some (.inl a1), some (.inl a2), some (.inl a3), some (.inl a4), some (.inl a5), none], [], g) (120, [some (.inr (.inr 92)), some (.inl a1), some (.inl a2), some (.inl a3), some (.inl a4), some (.inl a5), some (.inl 0)], [], g) rfl ?_
                                  refine ev_le (L := [some (.inr (.inr 92)), some (.inl a1), some (.inl a2), some (.inl a3), some (.inl a4), some (.inl a5), some (.inl 0)]) (by simp [Lle]) ?_
                                  refine ev_Md_copy_l120 a1 a2 a3 a4 a5 _ ?_ fu 0 g r g' h
                                  · intro g6 r g' h
                                    refine ev_runs 2 (154, [some (.inr (.inr 92)), none, none, some (.inl a3), some (.inl a4), some (.inl a5), none], [], g6) (157, [some (.inr (.inr 92)), none, none, some (.inl a3), some (.inl a4), some (.inl a5), some (.inl 0)], [], g6) rfl ?_
                                    refine ev_le (L := [some (.inr (.inr 92)), none, none, some (.inl a3), some (.inl a4), some (.inl a5), some (.inl 0)]) (by simp [Lle]) ?_
                                    refine ev_Md_copy_l157 a3 a4 a5 _ ?_ fu 0 g6 r g' h
                                    · intro g7 r g' h
                                      refine ev_runs 1 (192, [none, none, none, none, none, none, none], [], g7) (193, [none, none, none, none, none, none, none], [.inl 1], g7) rfl ?_
                                      cases h
                                      exact er rfl
                                · rw [if_neg hc] at h
                                  refine es (111, [some (.inr (.inr 92)), some (.inl a1), some (.inl a2), some (.inl a3), some (.inl a4), some (.inl a5), none], [], g) (congrArg some (if_neg hc)) ?_
                                  refine ev_runs 2 (111, [some (.inr (.inr 92)), some (.inl a1), some (.inl a2), some (.inl a3), some (.inl a4), some (.inl a5), none], [], g) (113, [some (.inr (.inr 92)), some (.inl a1), some (.inl a2), some (.inl a3), some (.inl a4), some (.inl a5), none], [.inl 2, .inr (.inr 92)], g) rfl ?_
                                  obtain ⟨q8, hq, h⟩ := lett_inv h
                                  refine ec 205 116 [.inr (.inr 92), .inl 2] [] rfl (ev_Md_met 2 g q8.1 q8.2 hq.symm) ?_
                                  show Ev 247 116 [some (.inr (.inr 92)), some (.inl a1), some (.inl a2), some (.inl a3), some (.inl a4), some (.inl a5), none] [.inl q8.1] q8.2 _ _
                                  cases h
                                  exact er rfl
                              · rw [if_neg hc] at h; cases h
                          · rw [if_neg hc] at h; cases h
                  · rw [if_neg hc] at h
                    refine es (56, [some (.inr (.inr 92)), some (.inl a1), some (.inl a2), some (.inl a3), some (.inl a4), some (.inl a5), none], [], g) (congrArg some (if_neg hc)) ?_
                    refine ev_runs 2 (56, [some (.inr (.inr 92)), some (.inl a1), some (.inl a2), some (.inl a3), some (.inl a4), some (.inl a5), none], [], g) (58, [some (.inr (.inr 92)), some (.inl a1), some (.inl a2), some (.inl a3), some (.inl a4), some (.inl a5), none], [.inl 4, .inr (.inr 92)], g) rfl ?_
                    obtain ⟨q9, hq, h⟩ := lett_inv h
                    refine ec 205 61 [.inr (.inr 92), .inl 4] [] rfl (ev_Md_met 4 g q9.1 q9.2 hq.symm) ?_
                    show Ev 247 61 [some (.inr (.inr 92)), some (.inl a1), some (.inl a2), some (.inl a3), some (.inl a4), some (.inl a5), none] [.inl q9.1] q9.2 _ _
                    cases h
                    exact er rfl
                · rw [if_neg hc] at h; cases h
              · rw [if_neg hc] at h; cases h
            · rw [if_neg hc] at h
              refine es (35, [some (.inr (.inr 92)), some (.inl a1), some (.inl a2), some (.inl a3), some (.inl a4), some (.inl a5), none], [], g) (congrArg some (if_neg hc)) ?_
              refine ev_runs 2 (35, [some (.inr (.inr 92)), some (.inl a1), some (.inl a2), some (.inl a3), some (.inl a4), some (.inl a5), none], [], g) (37, [some (.inr (.inr 92)), some (.inl a1), some (.inl a2), some (.inl a3), some (.inl a4), some (.inl a5), none], [.inl 1, .inr (.inr 92)], g) rfl ?_
              obtain ⟨q10, hq, h⟩ := lett_inv h
              refine ec 205 40 [.inr (.inr 92), .inl 1] [] rfl (ev_Md_met 1 g q10.1 q10.2 hq.symm) ?_
              show Ev 247 40 [some (.inr (.inr 92)), some (.inl a1), some (.inl a2), some (.inl a3), some (.inl a4), some (.inl a5), none] [.inl q10.1] q10.2 _ _
              cases h
              exact er rfl
          · rw [if_neg hc] at h; cases h
      · rw [if_neg hc] at h; cases h
    · rw [if_neg hc] at h
      refine es (14, [some (.inr (.inr 92)), some (.inl a1), some (.inl a2), some (.inl a3), some (.inl a4), some (.inl a5), none], [], g) (congrArg some (if_neg hc)) ?_
      refine ev_runs 1 (14, [some (.inr (.inr 92)), some (.inl a1), some (.inl a2), some (.inl a3), some (.inl a4), some (.inl a5), none], [], g) (16, [some (.inr (.inr 92)), some (.inl a1), some (.inl a2), some (.inl a3), some (.inl a4), some (.inl a5), none], [.inl (-2)], g) rfl ?_
      cases h
      exact er rfl
set_option maxRecDepth 100000 in
set_option maxHeartbeats 4000000 in
theorem ev_Op_write_l70 (c1 : Int) (c2 : Int) (c4 : Int) (K70_103 : Gx → Option (Int × Gx)) (hK70_103 : ∀ (g : Gx) (r : Int) (g' : Gx), K70_103 g = some (r, g') → Ev 248 103 [none, none, none, none, some (.inl c4), none] [] g (some (.inl r)) g') : ∀ (n70 : Nat) (v5 : Int) (g : Gx) (r : Int) (g' : Gx), Op_write_l70 c1 c2 c4 K70_103 n70 v5 g = some (r, g') → Ev 248 70 [some (.inr (.inr 0)), some (.inl c1), some (.inl c2), none, some (.inl c4), some (.inl v5)] [] g (some (.inl r)) g' := by
  intro n70
  induction n70 with
  | zero => intro v5 g r g' h; cases h
  | succ n70 ih70 =>
    intro v5 g r g' h
    rw [Op_write_l70] at h
    refine ev_runs 2 (70, [some (.inr (.inr 0)), some (.inl c1), some (.inl c2), none, some (.inl c4), some (.inl v5)], [], g) (74, [some (.inr (.inr 0)), some (.inl c1), some (.inl c2), none, some (.inl c4), some (.inl v5)], [.inl c4, .inl v5], g) rfl ?_
    by_cases hc : c4 ≤ v5
    · rw [if_pos hc] at h
      refine es (103, [some (.inr (.inr 0)), some (.inl c1), some (.inl c2), none, some (.inl c4), some (.inl v5)], [], g) (congrArg some (if_pos hc)) ?_
      exact ev_le (L := [none, none, none, none, some (.inl c4), none]) (by simp [Lle]) (hK70_103 g r g' h)
    · rw [if_neg hc] at h
      refine es (77, [some (.inr (.inr 0)), some (.inl c1), some (.inl c2), none, some (.inl c4), some (.inl v5)], [], g) (congrArg some (if_neg hc)) ?_
      refine ev_runs 8 (77, [some (.inr (.inr 0)), some (.inl c1), some (.inl c2), none, some (.inl c4), some (.inl v5)], [], g) (91, [some (.inr (.inr 0)), some (.inl c1), some (.inl c2), none, some (.inl c4), some (.inl v5)], [.inl v5, .inl c2, .inr (.inr 33), .inl v5, .inl c1, .inr (.inr 85)], g) rfl ?_
      refine ec 85 94 [.inr (.inr 33), .inl c2, .inl v5] [.inl v5, .inl c1, .inr (.inr 85)] rfl (ev_Hi_word c2 v5 g _ rfl) ?_
      show Ev 248 94 [some (.inr (.inr 0)), some (.inl c1), some (.inl c2), none, some (.inl c4), some (.inl v5)] [.inl (Hi_word c2 v5 g), .inl v5, .inl c1, .inr (.inr 85)] g _ _
      obtain ⟨g2, hq, h⟩ := lett_inv h
      refine ec 237 97 [.inr (.inr 85), .inl c1, .inl v5, .inl (Hi_word c2 v5 g)] [] rfl (ev_Sh_change c1 v5 (Hi_word c2 v5 g) g g2 hq.symm) ?_
      show Ev 248 97 [some (.inr (.inr 0)), some (.inl c1), some (.inl c2), none, some (.inl c4), some (.inl v5)] [] g2 _ _
      refine ev_runs 2 (97, [some (.inr (.inr 0)), some (.inl c1), some (.inl c2), none, some (.inl c4), some (.inl v5)], [], g2) (70, [some (.inr (.inr 0)), some (.inl c1), some (.inl c2), none, some (.inl c4), some (.inl (wr (v5 + 1)))], [], g2) rfl ?_
      exact ev_le (L := [some (.inr (.inr 0)), some (.inl c1), some (.inl c2), none, some (.inl c4), some (.inl (wr (v5 + 1)))]) (by simp [Lle]) (ih70 (wr (v5 + 1)) g2 r g' h)
set_option maxRecDepth 100000 in
set_option maxHeartbeats 4000000 in
theorem ev_Op_write (a1 a2 : Int) (g : Gx) (r : Int) (g' : Gx) (h : Op_write a1 a2 g = some (r, g')) : Ev 248 0 [some (.inr (.inr 0)), some (.inl a1), some (.inl a2), none, none, none] [] g (some (.inl r)) g' := by
  rw [Op_write] at h
  refine ev_runs 1 (0, [some (.inr (.inr 0)), some (.inl a1), some (.inl a2), none, none, none], [], g) (1, [some (.inr (.inr 0)), some (.inl a1), some (.inl a2), none, none, none], [.inl a1], g) rfl ?_
  refine ec 196 4 [.inl a1] [] rfl (ev_Op_isSheet a1 g _ rfl) ?_
  show Ev 248 4 [some (.inr (.inr 0)), some (.inl a1), some (.inl a2), none, none, none] [.inl (Op_isSheet a1)] g _ _
  by_cases hc : (Op_isSheet a1) = 0
  · rw [if_pos hc] at h
    refine es (14, [some (.inr (.inr 0)), some (.inl a1), some (.inl a2), none, none, none], [], g) (congrArg some (if_pos hc)) ?_
    refine ev_runs 1 (14, [some (.inr (.inr 0)), some (.inl a1), some (.inl a2), none, none, none], [], g) (16, [some (.inr (.inr 0)), some (.inl a1), some (.inl a2), none, none, none], [.inl (-2)], g) rfl ?_
    cases h
    exact er rfl
  · rw [if_neg hc] at h
    refine es (7, [some (.inr (.inr 0)), some (.inl a1), some (.inl a2), none, none, none], [], g) (congrArg some (if_neg hc)) ?_
    refine ev_runs 1 (7, [some (.inr (.inr 0)), some (.inl a1), some (.inl a2), none, none, none], [], g) (8, [some (.inr (.inr 0)), some (.inl a1), some (.inl a2), none, none, none], [.inl a2], g) rfl ?_
    refine ec 83 11 [.inl a2] [] rfl (ev_Op_isHistory a2 g _ rfl) ?_
    show Ev 248 11 [some (.inr (.inr 0)), some (.inl a1), some (.inl a2), none, none, none] [.inl (Op_isHistory a2)] g _ _
    by_cases hc : ¬ (Op_isHistory a2) = 0
    · rw [if_pos hc] at h
      refine es (17, [some (.inr (.inr 0)), some (.inl a1), some (.inl a2), none, none, none], [], g) (congrArg some (if_pos hc)) ?_
      refine ev_runs 3 (17, [some (.inr (.inr 0)), some (.inl a1), some (.inl a2), none, none, none], [], g) (22, [some (.inr (.inr 0)), some (.inl a1), some (.inl a2), none, none, none], [.inl a1, .inr (.inr 85)], g) rfl ?_
      refine ec 197 25 [.inr (.inr 85), .inl a1] [] rfl (ev_Sh_isLost a1 g _ rfl) ?_
      show Ev 248 25 [some (.inr (.inr 0)), some (.inl a1), some (.inl a2), none, none, none] [.inl (Sh_isLost a1 g)] g _ _
      by_cases hc : (Sh_isLost a1 g) = 0
      · rw [if_pos hc] at h
        refine es (34, [some (.inr (.inr 0)), some (.inl a1), some (.inl a2), none, none, none], [], g) (congrArg some (if_pos hc)) ?_
        refine ev_runs 2 (34, [some (.inr (.inr 0)), some (.inl a1), some (.inl a2), none, none, none], [], g) (36, [some (.inr (.inr 0)), some (.inl a1), some (.inl a2), none, none, none], [.inl a2, .inr (.inr 0)], g) rfl ?_
        obtain ⟨q1, hq, h⟩ := Option.bind_eq_some_iff.mp h
        refine ec 75 39 [.inr (.inr 0), .inl a2] [] rfl (ev_Op_hindrance a2 g q1.1 q1.2 hq) ?_
        show Ev 248 39 [some (.inr (.inr 0)), some (.inl a1), some (.inl a2), none, none, none] [.inl q1.1] q1.2 _ _
        refine ev_runs 2 (39, [some (.inr (.inr 0)), some (.inl a1), some (.inl a2), none, none, none], [.inl q1.1], q1.2) (41, [some (.inr (.inr 0)), some (.inl a1), some (.inl a2), some (.inl q1.1), none, none], [.inl q1.1], q1.2) rfl ?_
        by_cases hc : q1.1 = 0
        · rw [if_pos hc] at h
          refine es (46, [some (.inr (.inr 0)), some (.inl a1), some (.inl a2), some (.inl q1.1), none, none], [], q1.2) (congrArg some (if_pos hc)) ?_
          refine ev_runs 3 (46, [some (.inr (.inr 0)), some (.inl a1), some (.inl a2), some (.inl q1.1), none, none], [], q1.2) (51, [some (.inr (.inr 0)), some (.inl a1), some (.inl a2), some (.inl q1.1), none, none], [.inl a1, .inr (.inr 85)], q1.2) rfl ?_
          refine ec 199 54 [.inr (.inr 85), .inl a1] [] rfl (ev_Sh_size a1 q1.2 _ rfl) ?_
          show Ev 248 54 [some (.inr (.inr 0)), some (.inl a1), some (.inl a2), some (.inl q1.1), none, none] [.inl (Sh_size a1 q1.2)] q1.2 _ _
          refine ev_runs 3 (54, [some (.inr (.inr 0)), some (.inl a1), some (.inl a2), some (.inl q1.1), none, none], [.inl (Sh_size a1 q1.2)], q1.2) (59, [some (.inr (.inr 0)), some (.inl a1), some (.inl a2), some (.inl q1.1), none, none], [.inl a2, .inr (.inr 33), .inl (Sh_size a1 q1.2)], q1.2) rfl ?_
          refine ec 84 62 [.inr (.inr 33), .inl a2] [.inl (Sh_size a1 q1.2)] rfl (ev_Hi_length a2 q1.2 _ rfl) ?_
          show Ev 248 62 [some (.inr (.inr 0)), some (.inl a1), some (.inl a2), some (.inl q1.1), none, none] [.inl (Hi_length a2 q1.2), .inl (Sh_size a1 q1.2)] q1.2 _ _
          refine ev_runs 4 (62, [some (.inr (.inr 0)), some (.inl a1), some (.inl a2), some (.inl q1.1), none, none], [.inl (Hi_length a2 q1.2), .inl (Sh_size a1 q1.2)], q1.2) (70, [some (.inr (.inr 0)), some (.inl a1), some (.inl a2), some (.inl q1.1), some (.inl (imin (Sh_size a1 q1.2) (Hi_length a2 q1.2))), some (.inl 0)], [], q1.2) rfl ?_
          refine ev_le (L := [some (.inr (.inr 0)), some (.inl a1), some (.inl a2), none, some (.inl (imin (Sh_size a1 q1.2) (Hi_length a2 q1.2))), some (.inl 0)]) (by simp [Lle]) ?_
          refine ev_Op_write_l70 a1 a2 (imin (Sh_size a1 q1.2) (Hi_length a2 q1.2)) _ ?_ fu 0 q1.2 r g' h
          · intro g3 r g' h
            refine ev_runs 1 (103, [none, none, none, none, some (.inl (imin (Sh_size a1 q1.2) (Hi_length a2 q1.2))), none], [], g3) (105, [none, none, none, none, some (.inl (imin (Sh_size a1 q1.2) (Hi_length a2 q1.2))), none], [.inl (imin (Sh_size a1 q1.2) (Hi_length a2 q1.2))], g3) rfl ?_
            cases h
            exact er rfl
        · rw [if_neg hc] at h
          refine es (44, [some (.inr (.inr 0)), some (.inl a1), some (.inl a2), some (.inl q1.1), none, none], [], q1.2) (congrArg some (if_neg hc)) ?_
          refine ev_runs 1 (44, [some (.inr (.inr 0)), some (.inl a1), some (.inl a2), some (.inl q1.1), none, none], [], q1.2) (45, [some (.inr (.inr 0)), some (.inl a1), some (.inl a2), some (.inl q1.1), none, none], [.inl q1.1], q1.2) rfl ?_
          cases h
          exact er rfl
      · rw [if_neg hc] at h
        refine es (28, [some (.inr (.inr 0)), some (.inl a1), some (.inl a2), none, none, none], [], g) (congrArg some (if_neg hc)) ?_
        refine ev_runs 2 (28, [some (.inr (.inr 0)), some (.inl a1), some (.inl a2), none, none, none], [], g) (30, [some (.inr (.inr 0)), some (.inl a1), some (.inl a2), none, none, none], [.inl 1, .inr (.inr 0)], g) rfl ?_
        obtain ⟨q4, hq, h⟩ := lett_inv h
        refine ec 198 33 [.inr (.inr 0), .inl 1] [] rfl (ev_Op_found 1 g q4.1 q4.2 hq.symm) ?_
        show Ev 248 33 [some (.inr (.inr 0)), some (.inl a1), some (.inl a2), none, none, none] [.inl q4.1] q4.2 _ _
        cases h
        exact er rfl
    · rw [if_neg hc] at h
      refine es (14, [some (.inr (.inr 0)), some (.inl a1), some (.inl a2), none, none, none], [], g) (congrArg some (if_neg hc)) ?_
      refine ev_runs 1 (14, [some (.inr (.inr 0)), some (.inl a1), some (.inl a2), none, none, none], [], g) (16, [some (.inr (.inr 0)), some (.inl a1), some (.inl a2), none, none, none], [.inl (-2)], g) rfl ?_
      cases h
      exact er rfl
set_option maxRecDepth 100000 in
set_option maxHeartbeats 4000000 in
theorem ev_Md_write_l79 (c1 : Int) (c2 : Int) (c4 : Int) (K79_120 : Gx → Option (Int × Gx)) (hK79_120 : ∀ (g : Gx) (r : Int) (g' : Gx), K79_120 g = some (r, g') → Ev 249 120 [none, none, none, none, some (.inl c4), none] [] g (some (.inl r)) g') : ∀ (n79 : Nat) (v5 : Int) (g : Gx) (r : Int) (g' : Gx), Md_write_l79 c1 c2 c4 K79_120 n79 v5 g = some (r, g') → Ev 249 79 [some (.inr (.inr 92)), some (.inl c1), some (.inl c2), none, some (.inl c4), some (.inl v5)] [] g (some (.inl r)) g' := by
  intro n79
  induction n79 with
  | zero => intro v5 g r g' h; cases h
  | succ n79 ih79 =>
    intro v5 g r g' h
    rw [Md_write_l79] at h
    refine ev_runs 2 (79, [some (.inr (.inr 92)), some (.inl c1), some (.inl c2), none, some (.inl c4), some (.inl v5)], [], g) (83, [some (.inr (.inr 92)), some (.inl c1), some (.inl c2), none, some (.inl c4), some (.inl v5)], [.inl c4, .inl v5], g) rfl ?_
    by_cases hc : c4 ≤ v5
    · rw [if_pos hc] at h
      refine es (120, [some (.inr (.inr 92)), some (.inl c1), some (.inl c2), none, some (.inl c4), some (.inl v5)], [], g) (congrArg some (if_pos hc)) ?_
      exact ev_le (L := [none, none, none, none, some (.inl c4), none]) (by simp [Lle]) (hK79_120 g r g' h)
    · rw [if_neg hc] at h
      refine es (86, [some (.inr (.inr 92)), some (.inl c1), some (.inl c2), none, some (.inl c4), some (.inl v5)], [], g) (congrArg some (if_neg hc)) ?_
      refine ev_runs 10 (86, [some (.inr (.inr 92)), some (.inl c1), some (.inl c2), none, some (.inl c4), some (.inl v5)], [], g) (102, [some (.inr (.inr 92)), some (.inl c1), some (.inl c2), none, some (.inl c4), some (.inl v5)], [.inl c1, .inr (.inr 93), .inl (wr ((wr (60 * c1)) + v5)), .inr (.inr 95)], g) rfl ?_
      by_cases hc : 0 ≤ c1 ∧ c1 < 4
      · rw [if_pos hc] at h
        refine es (103, [some (.inr (.inr 92)), some (.inl c1), some (.inl c2), none, some (.inl c4), some (.inl v5)], [.inl (g 93 c1.toNat), .inl (wr ((wr (60 * c1)) + v5)), .inr (.inr 95)], g) (if_pos hc) ?_
        refine ev_runs 3 (103, [some (.inr (.inr 92)), some (.inl c1), some (.inl c2), none, some (.inl c4), some (.inl v5)], [.inl (g 93 c1.toNat), .inl (wr ((wr (60 * c1)) + v5)), .inr (.inr 95)], g) (107, [some (.inr (.inr 92)), some (.inl c1), some (.inl c2), none, some (.inl c4), some (.inl v5)], [.inl v5, .inl c2, .inr (.inr 92), .inl (g 93 c1.toNat), .inl (wr ((wr (60 * c1)) + v5)), .inr (.inr 95)], g) rfl ?_
        obtain ⟨q2, hq, h⟩ := Option.bind_eq_some_iff.mp h
        refine ec 89 110 [.inr (.inr 92), .inl c2, .inl v5] [.inl (g 93 c1.toNat), .inl (wr ((wr (60 * c1)) + v5)), .inr (.inr 95)] rfl (ev_Md_code c2 v5 g q2.1 q2.2 hq) ?_
        show Ev 249 110 [some (.inr (.inr 92)), some (.inl c1), some (.inl c2), none, some (.inl c4), some (.inl v5)] [.inl q2.1, .inl (g 93 c1.toNat), .inl (wr ((wr (60 * c1)) + v5)), .inr (.inr 95)] q2.2 _ _
        refine ec 240 113 [.inl (g 93 c1.toNat), .inl q2.1] [.inl (wr ((wr (60 * c1)) + v5)), .inr (.inr 95)] rfl (ev_Md_cut (g 93 c1.toNat) q2.1 q2.2 _ rfl) ?_
        show Ev 249 113 [some (.inr (.inr 92)), some (.inl c1), some (.inl c2), none, some (.inl c4), some (.inl v5)] [.inl (Md_cut (g 93 c1.toNat) q2.1), .inl (wr ((wr (60 * c1)) + v5)), .inr (.inr 95)] q2.2 _ _
        by_cases hc : 0 ≤ (wr ((wr (60 * c1)) + v5)) ∧ (wr ((wr (60 * c1)) + v5)) < 240
        · rw [if_pos hc] at h
          refine es (114, [some (.inr (.inr 92)), some (.inl c1), some (.inl c2), none, some (.inl c4), some (.inl v5)], [], (gset q2.2 95 ((wr ((wr (60 * c1)) + v5)).toNat) (Md_cut (g 93 c1.toNat) q2.1))) (if_pos hc) ?_
          refine ev_runs 2 (114, [some (.inr (.inr 92)), some (.inl c1), some (.inl c2), none, some (.inl c4), some (.inl v5)], [], (gset q2.2 95 ((wr ((wr (60 * c1)) + v5)).toNat) (Md_cut (g 93 c1.toNat) q2.1))) (79, [some (.inr (.inr 92)), some (.inl c1), some (.inl c2), none, some (.inl c4), some (.inl (wr (v5 + 1)))], [], (gset q2.2 95 ((wr ((wr (60 * c1)) + v5)).toNat) (Md_cut (g 93 c1.toNat) q2.1))) rfl ?_
          exact ev_le (L := [some (.inr (.inr 92)), some (.inl c1), some (.inl c2), none, some (.inl c4), some (.inl (wr (v5 + 1)))]) (by simp [Lle]) (ih79 (wr (v5 + 1)) (gset q2.2 95 ((wr ((wr (60 * c1)) + v5)).toNat) (Md_cut (g 93 c1.toNat) q2.1)) r g' h)
        · rw [if_neg hc] at h; cases h
      · rw [if_neg hc] at h; cases h
set_option maxRecDepth 100000 in
set_option maxHeartbeats 4000000 in
theorem ev_Md_write (a1 a2 : Int) (g : Gx) (r : Int) (g' : Gx) (h : Md_write a1 a2 g = some (r, g')) : Ev 249 0 [some (.inr (.inr 92)), some (.inl a1), some (.inl a2), none, none, none] [] g (some (.inl r)) g' := by
  rw [Md_write] at h
  refine ev_runs 1 (0, [some (.inr (.inr 92)), some (.inl a1), some (.inl a2), none, none, none], [], g) (1, [some (.inr (.inr 92)), some (.inl a1), some (.inl a2), none, none, none], [.inl a1], g) rfl ?_
  refine ec 204 4 [.inl a1] [] rfl (ev_Md_isSheet a1 g _ rfl) ?_
  show Ev 249 4 [some (.inr (.inr 92)), some (.inl a1), some (.inl a2), none, none, none] [.inl (Md_isSheet a1)] g _ _
  by_cases hc : (Md_isSheet a1) = 0
  · rw [if_pos hc] at h
    refine es (14, [some (.inr (.inr 92)), some (.inl a1), some (.inl a2), none, none, none], [], g) (congrArg some (if_pos hc)) ?_
    refine ev_runs 1 (14, [some (.inr (.inr 92)), some (.inl a1), some (.inl a2), none, none, none], [], g) (16, [some (.inr (.inr 92)), some (.inl a1), some (.inl a2), none, none, none], [.inl (-2)], g) rfl ?_
    cases h
    exact er rfl
  · rw [if_neg hc] at h
    refine es (7, [some (.inr (.inr 92)), some (.inl a1), some (.inl a2), none, none, none], [], g) (congrArg some (if_neg hc)) ?_
    refine ev_runs 1 (7, [some (.inr (.inr 92)), some (.inl a1), some (.inl a2), none, none, none], [], g) (8, [some (.inr (.inr 92)), some (.inl a1), some (.inl a2), none, none, none], [.inl a2], g) rfl ?_
    refine ec 87 11 [.inl a2] [] rfl (ev_Md_isHistory a2 g _ rfl) ?_
    show Ev 249 11 [some (.inr (.inr 92)), some (.inl a1), some (.inl a2), none, none, none] [.inl (Md_isHistory a2)] g _ _
    by_cases hc : ¬ (Md_isHistory a2) = 0
    · rw [if_pos hc] at h
      refine es (17, [some (.inr (.inr 92)), some (.inl a1), some (.inl a2), none, none, none], [], g) (congrArg some (if_pos hc)) ?_
      refine ev_runs 3 (17, [some (.inr (.inr 92)), some (.inl a1), some (.inl a2), none, none, none], [], g) (22, [some (.inr (.inr 92)), some (.inl a1), some (.inl a2), none, none, none], [.inl a1, .inr (.inr 93)], g) rfl ?_
      by_cases hc : 0 ≤ a1 ∧ a1 < 4
      · rw [if_pos hc] at h
        refine es (23, [some (.inr (.inr 92)), some (.inl a1), some (.inl a2), none, none, none], [.inl (g 93 a1.toNat)], g) (if_pos hc) ?_
        by_cases hc : 0 ≤ (g 93 a1.toNat)
        · rw [if_pos hc] at h
          refine es (32, [some (.inr (.inr 92)), some (.inl a1), some (.inl a2), none, none, none], [], g) (congrArg some (if_pos hc)) ?_
          refine ev_runs 2 (32, [some (.inr (.inr 92)), some (.inl a1), some (.inl a2), none, none, none], [], g) (34, [some (.inr (.inr 92)), some (.inl a1), some (.inl a2), none, none, none], [.inl a2, .inr (.inr 92)], g) rfl ?_
          obtain ⟨q1, hq, h⟩ := Option.bind_eq_some_iff.mp h
          refine ec 88 37 [.inr (.inr 92), .inl a2] [] rfl (ev_Md_lacksOne a2 g q1.1 q1.2 hq) ?_
          show Ev 249 37 [some (.inr (.inr 92)), some (.inl a1), some (.inl a2), none, none, none] [.inl q1.1] q1.2 _ _
          refine ev_runs 2 (37, [some (.inr (.inr 92)), some (.inl a1), some (.inl a2), none, none, none], [.inl q1.1], q1.2) (39, [some (.inr (.inr 92)), some (.inl a1), some (.inl a2), some (.inl q1.1), none, none], [.inl q1.1], q1.2) rfl ?_
          by_cases hc : q1.1 = 0
          · rw [if_pos hc] at h
            refine es (44, [some (.inr (.inr 92)), some (.inl a1), some (.inl a2), some (.inl q1.1), none, none], [], q1.2) (congrArg some (if_pos hc)) ?_
            refine ev_runs 3 (44, [some (.inr (.inr 92)), some (.inl a1), some (.inl a2), some (.inl q1.1), none, none], [], q1.2) (49, [some (.inr (.inr 92)), some (.inl a1), some (.inl a2), some (.inl q1.1), none, none], [.inl a2, .inr (.inr 110)], q1.2) rfl ?_
            by_cases hc : 0 ≤ a2 ∧ a2 < 30
            · rw [if_pos hc] at h
              refine es (50, [some (.inr (.inr 92)), some (.inl a1), some (.inl a2), some (.inl q1.1), none, none], [.inl (q1.2 110 a2.toNat)], q1.2) (if_pos hc) ?_
              refine ev_runs 3 (50, [some (.inr (.inr 92)), some (.inl a1), some (.inl a2), some (.inl q1.1), none, none], [.inl (q1.2 110 a2.toNat)], q1.2) (55, [some (.inr (.inr 92)), some (.inl a1), some (.inl a2), some (.inl q1.1), none, none], [.inl a1, .inr (.inr 94), .inl (q1.2 110 a2.toNat)], q1.2) rfl ?_
              by_cases hc : 0 ≤ a1 ∧ a1 < 4
              · rw [if_pos hc] at h
                refine es (56, [some (.inr (.inr 92)), some (.inl a1), some (.inl a2), some (.inl q1.1), none, none], [.inl (q1.2 94 a1.toNat), .inl (q1.2 110 a2.toNat)], q1.2) (if_pos hc) ?_
                by_cases hc : (q1.2 94 a1.toNat) ≤ (q1.2 110 a2.toNat)
                · rw [if_pos hc] at h
                  refine es (68, [some (.inr (.inr 92)), some (.inl a1), some (.inl a2), some (.inl q1.1), none, none], [], q1.2) (congrArg some (if_pos hc)) ?_
                  refine ev_runs 3 (68, [some (.inr (.inr 92)), some (.inl a1), some (.inl a2), some (.inl q1.1), none, none], [], q1.2) (73, [some (.inr (.inr 92)), some (.inl a1), some (.inl a2), some (.inl q1.1), none, none], [.inl a1, .inr (.inr 94)], q1.2) rfl ?_
                  by_cases hc : 0 ≤ a1 ∧ a1 < 4
                  · rw [if_pos hc] at h
                    refine es (74, [some (.inr (.inr 92)), some (.inl a1), some (.inl a2), some (.inl q1.1), none, none], [.inl (q1.2 94 a1.toNat)], q1.2) (if_pos hc) ?_
                    refine ev_runs 3 (74, [some (.inr (.inr 92)), some (.inl a1), some (.inl a2), some (.inl q1.1), none, none], [.inl (q1.2 94 a1.toNat)], q1.2) (79, [some (.inr (.inr 92)), some (.inl a1), some (.inl a2), some (.inl q1.1), some (.inl (q1.2 94 a1.toNat)), some (.inl 0)], [], q1.2) rfl ?_
                    refine ev_le (L := [some (.inr (.inr 92)), some (.inl a1), some (.inl a2), none, some (.inl (q1.2 94 a1.toNat)), some (.inl 0)]) (by simp [Lle]) ?_
                    refine ev_Md_write_l79 a1 a2 (q1.2 94 a1.toNat) _ ?_ fu 0 q1.2 r g' h
                    · intro g3 r g' h
                      refine ev_runs 1 (120, [none, none, none, none, some (.inl (q1.2 94 a1.toNat)), none], [], g3) (122, [none, none, none, none, some (.inl (q1.2 94 a1.toNat)), none], [.inl (q1.2 94 a1.toNat)], g3) rfl ?_
                      cases h
                      exact er rfl
                  · rw [if_neg hc] at h; cases h
                · rw [if_neg hc] at h
                  refine es (59, [some (.inr (.inr 92)), some (.inl a1), some (.inl a2), some (.inl q1.1), none, none], [], q1.2) (congrArg some (if_neg hc)) ?_
                  refine ev_runs 3 (59, [some (.inr (.inr 92)), some (.inl a1), some (.inl a2), some (.inl q1.1), none, none], [], q1.2) (64, [some (.inr (.inr 92)), some (.inl a1), some (.inl a2), some (.inl q1.1), none, none], [.inl a2, .inr (.inr 110)], q1.2) rfl ?_
                  by_cases hc : 0 ≤ a2 ∧ a2 < 30
                  · rw [if_pos hc] at h
                    refine es (65, [some (.inr (.inr 92)), some (.inl a1), some (.inl a2), some (.inl q1.1), none, none], [.inl (q1.2 110 a2.toNat)], q1.2) (if_pos hc) ?_
                    refine ev_runs 4 (65, [some (.inr (.inr 92)), some (.inl a1), some (.inl a2), some (.inl q1.1), none, none], [.inl (q1.2 110 a2.toNat)], q1.2) (79, [some (.inr (.inr 92)), some (.inl a1), some (.inl a2), some (.inl q1.1), some (.inl (q1.2 110 a2.toNat)), some (.inl 0)], [], q1.2) rfl ?_
                    refine ev_le (L := [some (.inr (.inr 92)), some (.inl a1), some (.inl a2), none, some (.inl (q1.2 110 a2.toNat)), some (.inl 0)]) (by simp [Lle]) ?_
                    refine ev_Md_write_l79 a1 a2 (q1.2 110 a2.toNat) _ ?_ fu 0 q1.2 r g' h
                    · intro g4 r g' h
                      refine ev_runs 1 (120, [none, none, none, none, some (.inl (q1.2 110 a2.toNat)), none], [], g4) (122, [none, none, none, none, some (.inl (q1.2 110 a2.toNat)), none], [.inl (q1.2 110 a2.toNat)], g4) rfl ?_
                      cases h
                      exact er rfl
                  · rw [if_neg hc] at h; cases h
              · rw [if_neg hc] at h; cases h
            · rw [if_neg hc] at h; cases h
          · rw [if_neg hc] at h
            refine es (42, [some (.inr (.inr 92)), some (.inl a1), some (.inl a2), some (.inl q1.1), none, none], [], q1.2) (congrArg some (if_neg hc)) ?_
            refine ev_runs 1 (42, [some (.inr (.inr 92)), some (.inl a1), some (.inl a2), some (.inl q1.1), none, none], [], q1.2) (43, [some (.inr (.inr 92)), some (.inl a1), some (.inl a2), some (.inl q1.1), none, none], [.inl q1.1], q1.2) rfl ?_
            cases h
            exact er rfl
        · rw [if_neg hc] at h
          refine es (26, [some (.inr (.inr 92)), some (.inl a1), some (.inl a2), none, none, none], [], g) (congrArg some (if_neg hc)) ?_
          refine ev_runs 2 (26, [some (.inr (.inr 92)), some (.inl a1), some (.inl a2), none, none, none], [], g) (28, [some (.inr (.inr 92)), some (.inl a1), some (.inl a2), none, none, none], [.inl 1, .inr (.inr 92)], g) rfl ?_
          obtain ⟨q5, hq, h⟩ := lett_inv h
          refine ec 205 31 [.inr (.inr 92), .inl 1] [] rfl (ev_Md_met 1 g q5.1 q5.2 hq.symm) ?_
          show Ev 249 31 [some (.inr (.inr 92)), some (.inl a1), some (.inl a2), none, none, none] [.inl q5.1] q5.2 _ _
          cases h
          exact er rfl
      · rw [if_neg hc] at h; cases h
    · rw [if_neg hc] at h
      refine es (14, [some (.inr (.inr 92)), some (.inl a1), some (.inl a2), none, none, none], [], g) (congrArg some (if_neg hc)) ?_
      refine ev_runs 1 (14, [some (.inr (.inr 92)), some (.inl a1), some (.inl a2), none, none, none], [], g) (16, [some (.inr (.inr 92)), some (.inl a1), some (.inl a2), none, none, none], [.inl (-2)], g) rfl ?_
      cases h
      exact er rfl
set_option maxRecDepth 100000 in
set_option maxHeartbeats 4000000 in
theorem ev_Op_count (a1 : Int) (g : Gx) (r : Int) (g' : Gx) (h : Op_count a1 g = some (r, g')) : Ev 250 0 [some (.inr (.inr 0)), some (.inl a1), none] [] g (some (.inl r)) g' := by
  rw [Op_count] at h
  refine ev_runs 2 (0, [some (.inr (.inr 0)), some (.inl a1), none], [], g) (2, [some (.inr (.inr 0)), some (.inl a1), none], [.inl 4, .inl a1], g) rfl ?_
  by_cases hc : a1 = 4
  · rw [if_pos hc] at h
    refine es (10, [some (.inr (.inr 0)), some (.inl a1), none], [], g) (congrArg some (if_pos hc)) ?_
    refine ev_runs 2 (10, [some (.inr (.inr 0)), some (.inl a1), none], [], g) (12, [some (.inr (.inr 0)), some (.inl a1), none], [.inl 0, .inr (.inr 0)], g) rfl ?_
    obtain ⟨q1, hq, h⟩ := Option.bind_eq_some_iff.mp h
    refine ec 75 15 [.inr (.inr 0), .inl 0] [] rfl (ev_Op_hindrance 0 g q1.1 q1.2 hq) ?_
    show Ev 250 15 [some (.inr (.inr 0)), some (.inl a1), none] [.inl q1.1] q1.2 _ _
    refine ev_runs 2 (15, [some (.inr (.inr 0)), some (.inl a1), none], [.inl q1.1], q1.2) (17, [some (.inr (.inr 0)), some (.inl a1), some (.inl q1.1)], [.inl q1.1], q1.2) rfl ?_
    by_cases hc : q1.1 = 0
    · rw [if_pos hc] at h
      refine es (22, [some (.inr (.inr 0)), some (.inl a1), some (.inl q1.1)], [], q1.2) (congrArg some (if_pos hc)) ?_
      refine ev_runs 2 (22, [some (.inr (.inr 0)), some (.inl a1), some (.inl q1.1)], [], q1.2) (24, [some (.inr (.inr 0)), some (.inl a1), some (.inl q1.1)], [.inl 4, .inl a1], q1.2) rfl ?_
      by_cases hc : ¬ a1 = 4
      · rw [if_pos hc] at h
        refine es (37, [some (.inr (.inr 0)), some (.inl a1), some (.inl q1.1)], [], q1.2) (congrArg some (if_pos hc)) ?_
        refine ev_runs 2 (37, [some (.inr (.inr 0)), some (.inl a1), some (.inl q1.1)], [], q1.2) (41, [some (.inr (.inr 0)), some (.inl a1), some (.inl q1.1)], [.inr (.inr 55)], q1.2) rfl ?_
        obtain ⟨q2, hq, h⟩ := Option.bind_eq_some_iff.mp h
        refine ec 124 44 [.inr (.inr 55)] [] rfl (ev_Kn_soundness q1.2 q2.1 q2.2 hq) ?_
        show Ev 250 44 [some (.inr (.inr 0)), some (.inl a1), some (.inl q1.1)] [.inl q2.1] q2.2 _ _
        cases h
        exact er rfl
      · rw [if_neg hc] at h
        refine es (27, [some (.inr (.inr 0)), some (.inl a1), some (.inl q1.1)], [], q1.2) (congrArg some (if_neg hc)) ?_
        refine ev_runs 2 (27, [some (.inr (.inr 0)), some (.inl a1), some (.inl q1.1)], [], q1.2) (31, [some (.inr (.inr 0)), some (.inl a1), some (.inl q1.1)], [.inr (.inr 33)], q1.2) rfl ?_
        refine ec 74 34 [.inr (.inr 33)] [] rfl (ev_Hi_size q1.2 _ rfl) ?_
        show Ev 250 34 [some (.inr (.inr 0)), some (.inl a1), some (.inl q1.1)] [.inl (Hi_size q1.2)] q1.2 _ _
        refine ev_runs 1 (34, [some (.inr (.inr 0)), some (.inl a1), some (.inl q1.1)], [.inl (Hi_size q1.2)], q1.2) (44, [some (.inr (.inr 0)), some (.inl a1), some (.inl q1.1)], [.inl (Hi_size q1.2)], q1.2) rfl ?_
        cases h
        exact er rfl
    · rw [if_neg hc] at h
      refine es (20, [some (.inr (.inr 0)), some (.inl a1), some (.inl q1.1)], [], q1.2) (congrArg some (if_neg hc)) ?_
      refine ev_runs 1 (20, [some (.inr (.inr 0)), some (.inl a1), some (.inl q1.1)], [], q1.2) (21, [some (.inr (.inr 0)), some (.inl a1), some (.inl q1.1)], [.inl q1.1], q1.2) rfl ?_
      cases h
      exact er rfl
  · rw [if_neg hc] at h
    refine es (5, [some (.inr (.inr 0)), some (.inl a1), none], [], g) (congrArg some (if_neg hc)) ?_
    refine ev_runs 2 (5, [some (.inr (.inr 0)), some (.inl a1), none], [], g) (7, [some (.inr (.inr 0)), some (.inl a1), none], [.inl 5, .inl a1], g) rfl ?_
    by_cases hc : ¬ a1 = 5
    · rw [if_pos hc] at h
      refine es (45, [some (.inr (.inr 0)), some (.inl a1), none], [], g) (congrArg some (if_pos hc)) ?_
      refine ev_runs 1 (45, [some (.inr (.inr 0)), some (.inl a1), none], [], g) (46, [some (.inr (.inr 0)), some (.inl a1), none], [.inl a1], g) rfl ?_
      by_cases hd : a1 < 0 ∨ 8 < a1
      · rw [if_pos hd] at h
        refine ev_sw (tgt := 130) rfl (if_pos hd) ?_
        show Ev 250 130 [some (.inr (.inr 0)), some (.inl a1), none] [] g _ _
        refine ev_runs 1 (130, [some (.inr (.inr 0)), some (.inl a1), none], [], g) (132, [some (.inr (.inr 0)), some (.inl a1), none], [.inl (-2)], g) rfl ?_
        cases h
        exact er rfl
      rw [if_neg hd] at h
      by_cases hx0 : a1 = 0
      · rw [if_pos hx0] at h
        refine ev_sw (tgt := 96) rfl (by rw [hx0]; rfl) ?_
        show Ev 250 96 [some (.inr (.inr 0)), some (.inl a1), none] [] g _ _
        refine ev_runs 2 (96, [some (.inr (.inr 0)), some (.inl a1), none], [], g) (100, [some (.inr (.inr 0)), some (.inl a1), none], [.inr (.inr 1)], g) rfl ?_
        refine ec 2 103 [.inr (.inr 1)] [] rfl (ev_Tx_length1 g _ rfl) ?_
        show Ev 250 103 [some (.inr (.inr 0)), some (.inl a1), none] [.inl (Tx_length1 g)] g _ _
        cases h
        exact er rfl
      rw [if_neg hx0] at h
      by_cases hx1 : a1 = 1
      · rw [if_pos hx1] at h
        refine ev_sw (tgt := 104) rfl (by rw [hx1]; rfl) ?_
        show Ev 250 104 [some (.inr (.inr 0)), some (.inl a1), none] [] g _ _
        refine ev_runs 2 (104, [some (.inr (.inr 0)), some (.inl a1), none], [], g) (108, [some (.inr (.inr 0)), some (.inl a1), none], [.inr (.inr 4)], g) rfl ?_
        refine ec 2 111 [.inr (.inr 4)] [] rfl (ev_Tx_length4 g _ rfl) ?_
        show Ev 250 111 [some (.inr (.inr 0)), some (.inl a1), none] [.inl (Tx_length4 g)] g _ _
        cases h
        exact er rfl
      rw [if_neg hx1] at h
      by_cases hx2 : a1 = 2
      · rw [if_pos hx2] at h
        refine ev_sw (tgt := 112) rfl (by rw [hx2]; rfl) ?_
        show Ev 250 112 [some (.inr (.inr 0)), some (.inl a1), none] [] g _ _
        refine ev_runs 2 (112, [some (.inr (.inr 0)), some (.inl a1), none], [], g) (116, [some (.inr (.inr 0)), some (.inl a1), none], [.inl (g 0 11)], g) rfl ?_
        cases h
        exact er rfl
      rw [if_neg hx2] at h
      by_cases hx3 : a1 = 3
      · rw [if_pos hx3] at h
        refine ev_sw (tgt := 117) rfl (by rw [hx3]; rfl) ?_
        show Ev 250 117 [some (.inr (.inr 0)), some (.inl a1), none] [] g _ _
        refine ev_runs 2 (117, [some (.inr (.inr 0)), some (.inl a1), none], [], g) (121, [some (.inr (.inr 0)), some (.inl a1), none], [.inr (.inr 78)], g) rfl ?_
        refine ec 210 124 [.inr (.inr 78)] [] rfl (ev_Bd_size g _ rfl) ?_
        show Ev 250 124 [some (.inr (.inr 0)), some (.inl a1), none] [.inl (Bd_size g)] g _ _
        cases h
        exact er rfl
      rw [if_neg hx3] at h
      by_cases hx4 : a1 = 4
      · rw [if_pos hx4] at h
        refine ev_sw (tgt := 130) rfl (by rw [hx4]; rfl) ?_
        show Ev 250 130 [some (.inr (.inr 0)), some (.inl a1), none] [] g _ _
        refine ev_runs 1 (130, [some (.inr (.inr 0)), some (.inl a1), none], [], g) (132, [some (.inr (.inr 0)), some (.inl a1), none], [.inl (-2)], g) rfl ?_
        cases h
        exact er rfl
      rw [if_neg hx4] at h
      by_cases hx5 : a1 = 5
      · rw [if_pos hx5] at h
        refine ev_sw (tgt := 130) rfl (by rw [hx5]; rfl) ?_
        show Ev 250 130 [some (.inr (.inr 0)), some (.inl a1), none] [] g _ _
        refine ev_runs 1 (130, [some (.inr (.inr 0)), some (.inl a1), none], [], g) (132, [some (.inr (.inr 0)), some (.inl a1), none], [.inl (-2)], g) rfl ?_
        cases h
        exact er rfl
      rw [if_neg hx5] at h
      by_cases hx6 : a1 = 6
      · rw [if_pos hx6] at h
        refine ev_sw (tgt := 130) rfl (by rw [hx6]; rfl) ?_
        show Ev 250 130 [some (.inr (.inr 0)), some (.inl a1), none] [] g _ _
        refine ev_runs 1 (130, [some (.inr (.inr 0)), some (.inl a1), none], [], g) (132, [some (.inr (.inr 0)), some (.inl a1), none], [.inl (-2)], g) rfl ?_
        cases h
        exact er rfl
      rw [if_neg hx6] at h
      by_cases hx7 : a1 = 7
      · rw [if_pos hx7] at h
        refine ev_sw (tgt := 130) rfl (by rw [hx7]; rfl) ?_
        show Ev 250 130 [some (.inr (.inr 0)), some (.inl a1), none] [] g _ _
        refine ev_runs 1 (130, [some (.inr (.inr 0)), some (.inl a1), none], [], g) (132, [some (.inr (.inr 0)), some (.inl a1), none], [.inl (-2)], g) rfl ?_
        cases h
        exact er rfl
      rw [if_neg hx7] at h
      have hx8 : a1 = 8 := by omega
      · skip
        refine ev_sw (tgt := 125) rfl (by rw [hx8]; rfl) ?_
        show Ev 250 125 [some (.inr (.inr 0)), some (.inl a1), none] [] g _ _
        refine ev_runs 2 (125, [some (.inr (.inr 0)), some (.inl a1), none], [], g) (129, [some (.inr (.inr 0)), some (.inl a1), none], [.inl (g 0 12)], g) rfl ?_
        cases h
        exact er rfl
    · rw [if_neg hc] at h
      refine es (10, [some (.inr (.inr 0)), some (.inl a1), none], [], g) (congrArg some (if_neg hc)) ?_
      refine ev_runs 2 (10, [some (.inr (.inr 0)), some (.inl a1), none], [], g) (12, [some (.inr (.inr 0)), some (.inl a1), none], [.inl 0, .inr (.inr 0)], g) rfl ?_
      obtain ⟨q3, hq, h⟩ := Option.bind_eq_some_iff.mp h
      refine ec 75 15 [.inr (.inr 0), .inl 0] [] rfl (ev_Op_hindrance 0 g q3.1 q3.2 hq) ?_
      show Ev 250 15 [some (.inr (.inr 0)), some (.inl a1), none] [.inl q3.1] q3.2 _ _
      refine ev_runs 2 (15, [some (.inr (.inr 0)), some (.inl a1), none], [.inl q3.1], q3.2) (17, [some (.inr (.inr 0)), some (.inl a1), some (.inl q3.1)], [.inl q3.1], q3.2) rfl ?_
      by_cases hc : q3.1 = 0
      · rw [if_pos hc] at h
        refine es (22, [some (.inr (.inr 0)), some (.inl a1), some (.inl q3.1)], [], q3.2) (congrArg some (if_pos hc)) ?_
        refine ev_runs 2 (22, [some (.inr (.inr 0)), some (.inl a1), some (.inl q3.1)], [], q3.2) (24, [some (.inr (.inr 0)), some (.inl a1), some (.inl q3.1)], [.inl 4, .inl a1], q3.2) rfl ?_
        by_cases hc : ¬ a1 = 4
        · rw [if_pos hc] at h
          refine es (37, [some (.inr (.inr 0)), some (.inl a1), some (.inl q3.1)], [], q3.2) (congrArg some (if_pos hc)) ?_
          refine ev_runs 2 (37, [some (.inr (.inr 0)), some (.inl a1), some (.inl q3.1)], [], q3.2) (41, [some (.inr (.inr 0)), some (.inl a1), some (.inl q3.1)], [.inr (.inr 55)], q3.2) rfl ?_
          obtain ⟨q4, hq, h⟩ := Option.bind_eq_some_iff.mp h
          refine ec 124 44 [.inr (.inr 55)] [] rfl (ev_Kn_soundness q3.2 q4.1 q4.2 hq) ?_
          show Ev 250 44 [some (.inr (.inr 0)), some (.inl a1), some (.inl q3.1)] [.inl q4.1] q4.2 _ _
          cases h
          exact er rfl
        · rw [if_neg hc] at h
          refine es (27, [some (.inr (.inr 0)), some (.inl a1), some (.inl q3.1)], [], q3.2) (congrArg some (if_neg hc)) ?_
          refine ev_runs 2 (27, [some (.inr (.inr 0)), some (.inl a1), some (.inl q3.1)], [], q3.2) (31, [some (.inr (.inr 0)), some (.inl a1), some (.inl q3.1)], [.inr (.inr 33)], q3.2) rfl ?_
          refine ec 74 34 [.inr (.inr 33)] [] rfl (ev_Hi_size q3.2 _ rfl) ?_
          show Ev 250 34 [some (.inr (.inr 0)), some (.inl a1), some (.inl q3.1)] [.inl (Hi_size q3.2)] q3.2 _ _
          refine ev_runs 1 (34, [some (.inr (.inr 0)), some (.inl a1), some (.inl q3.1)], [.inl (Hi_size q3.2)], q3.2) (44, [some (.inr (.inr 0)), some (.inl a1), some (.inl q3.1)], [.inl (Hi_size q3.2)], q3.2) rfl ?_
          cases h
          exact er rfl
      · rw [if_neg hc] at h
        refine es (20, [some (.inr (.inr 0)), some (.inl a1), some (.inl q3.1)], [], q3.2) (congrArg some (if_neg hc)) ?_
        refine ev_runs 1 (20, [some (.inr (.inr 0)), some (.inl a1), some (.inl q3.1)], [], q3.2) (21, [some (.inr (.inr 0)), some (.inl a1), some (.inl q3.1)], [.inl q3.1], q3.2) rfl ?_
        cases h
        exact er rfl
set_option maxRecDepth 100000 in
set_option maxHeartbeats 4000000 in
theorem ev_Md_count (a1 : Int) (g : Gx) (r : Int) (g' : Gx) (h : Md_count a1 g = some (r, g')) : Ev 251 0 [some (.inr (.inr 92)), some (.inl a1)] [] g (some (.inl r)) g' := by
  rw [Md_count] at h
  refine ev_runs 1 (0, [some (.inr (.inr 92)), some (.inl a1)], [], g) (1, [some (.inr (.inr 92)), some (.inl a1)], [.inl a1], g) rfl ?_
  by_cases hd : a1 < 0 ∨ 8 < a1
  · rw [if_pos hd] at h
    refine ev_sw (tgt := 84) rfl (if_pos hd) ?_
    show Ev 251 84 [some (.inr (.inr 92)), some (.inl a1)] [] g _ _
    refine ev_runs 1 (84, [some (.inr (.inr 92)), some (.inl a1)], [], g) (86, [some (.inr (.inr 92)), some (.inl a1)], [.inl (-2)], g) rfl ?_
    cases h
    exact er rfl
  rw [if_neg hd] at h
  by_cases hx0 : a1 = 0
  · rw [if_pos hx0] at h
    refine ev_sw (tgt := 52) rfl (by rw [hx0]; rfl) ?_
    show Ev 251 52 [some (.inr (.inr 92)), some (.inl a1)] [] g _ _
    refine ev_runs 3 (52, [some (.inr (.inr 92)), some (.inl a1)], [], g) (57, [some (.inr (.inr 92)), some (.inl a1)], [.inl a1, .inr (.inr 98)], g) rfl ?_
    by_cases hc : 0 ≤ a1 ∧ a1 < 2
    · rw [if_pos hc] at h
      refine es (58, [some (.inr (.inr 92)), some (.inl a1)], [.inl (g 98 a1.toNat)], g) (if_pos hc) ?_
      cases h
      exact er rfl
    · rw [if_neg hc] at h; cases h
  rw [if_neg hx0] at h
  by_cases hx1 : a1 = 1
  · rw [if_pos hx1] at h
    refine ev_sw (tgt := 52) rfl (by rw [hx1]; rfl) ?_
    show Ev 251 52 [some (.inr (.inr 92)), some (.inl a1)] [] g _ _
    refine ev_runs 3 (52, [some (.inr (.inr 92)), some (.inl a1)], [], g) (57, [some (.inr (.inr 92)), some (.inl a1)], [.inl a1, .inr (.inr 98)], g) rfl ?_
    by_cases hc : 0 ≤ a1 ∧ a1 < 2
    · rw [if_pos hc] at h
      refine es (58, [some (.inr (.inr 92)), some (.inl a1)], [.inl (g 98 a1.toNat)], g) (if_pos hc) ?_
      cases h
      exact er rfl
    · rw [if_neg hc] at h; cases h
  rw [if_neg hx1] at h
  by_cases hx2 : a1 = 2
  · rw [if_pos hx2] at h
    refine ev_sw (tgt := 59) rfl (by rw [hx2]; rfl) ?_
    show Ev 251 59 [some (.inr (.inr 92)), some (.inl a1)] [] g _ _
    refine ev_runs 2 (59, [some (.inr (.inr 92)), some (.inl a1)], [], g) (63, [some (.inr (.inr 92)), some (.inl a1)], [.inl (g 92 7)], g) rfl ?_
    cases h
    exact er rfl
  rw [if_neg hx2] at h
  by_cases hx3 : a1 = 3
  · rw [if_pos hx3] at h
    refine ev_sw (tgt := 64) rfl (by rw [hx3]; rfl) ?_
    show Ev 251 64 [some (.inr (.inr 92)), some (.inl a1)] [] g _ _
    refine ev_runs 2 (64, [some (.inr (.inr 92)), some (.inl a1)], [], g) (68, [some (.inr (.inr 92)), some (.inl a1)], [.inl (g 92 48)], g) rfl ?_
    cases h
    exact er rfl
  rw [if_neg hx3] at h
  by_cases hx4 : a1 = 4
  · rw [if_pos hx4] at h
    refine ev_sw (tgt := 69) rfl (by rw [hx4]; rfl) ?_
    show Ev 251 69 [some (.inr (.inr 92)), some (.inl a1)] [] g _ _
    refine ev_runs 1 (69, [some (.inr (.inr 92)), some (.inl a1)], [], g) (70, [some (.inr (.inr 92)), some (.inl a1)], [.inr (.inr 92)], g) rfl ?_
    obtain ⟨q1, hq, h⟩ := Option.bind_eq_some_iff.mp h
    refine ec 82 73 [.inr (.inr 92)] [] rfl (ev_Md_histories g q1.1 q1.2 hq) ?_
    show Ev 251 73 [some (.inr (.inr 92)), some (.inl a1)] [.inl q1.1] q1.2 _ _
    cases h
    exact er rfl
  rw [if_neg hx4] at h
  by_cases hx5 : a1 = 5
  · rw [if_pos hx5] at h
    refine ev_sw (tgt := 74) rfl (by rw [hx5]; rfl) ?_
    show Ev 251 74 [some (.inr (.inr 92)), some (.inl a1)] [] g _ _
    refine ev_runs 1 (74, [some (.inr (.inr 92)), some (.inl a1)], [], g) (75, [some (.inr (.inr 92)), some (.inl a1)], [.inr (.inr 92)], g) rfl ?_
    obtain ⟨q2, hq, h⟩ := Option.bind_eq_some_iff.mp h
    refine ec 127 78 [.inr (.inr 92)] [] rfl (ev_Md_sound g q2.1 q2.2 hq) ?_
    show Ev 251 78 [some (.inr (.inr 92)), some (.inl a1)] [.inl q2.1] q2.2 _ _
    cases h
    exact er rfl
  rw [if_neg hx5] at h
  by_cases hx6 : a1 = 6
  · rw [if_pos hx6] at h
    refine ev_sw (tgt := 84) rfl (by rw [hx6]; rfl) ?_
    show Ev 251 84 [some (.inr (.inr 92)), some (.inl a1)] [] g _ _
    refine ev_runs 1 (84, [some (.inr (.inr 92)), some (.inl a1)], [], g) (86, [some (.inr (.inr 92)), some (.inl a1)], [.inl (-2)], g) rfl ?_
    cases h
    exact er rfl
  rw [if_neg hx6] at h
  by_cases hx7 : a1 = 7
  · rw [if_pos hx7] at h
    refine ev_sw (tgt := 84) rfl (by rw [hx7]; rfl) ?_
    show Ev 251 84 [some (.inr (.inr 92)), some (.inl a1)] [] g _ _
    refine ev_runs 1 (84, [some (.inr (.inr 92)), some (.inl a1)], [], g) (86, [some (.inr (.inr 92)), some (.inl a1)], [.inl (-2)], g) rfl ?_
    cases h
    exact er rfl
  rw [if_neg hx7] at h
  have hx8 : a1 = 8 := by omega
  · skip
    refine ev_sw (tgt := 79) rfl (by rw [hx8]; rfl) ?_
    show Ev 251 79 [some (.inr (.inr 92)), some (.inl a1)] [] g _ _
    refine ev_runs 2 (79, [some (.inr (.inr 92)), some (.inl a1)], [], g) (83, [some (.inr (.inr 92)), some (.inl a1)], [.inl (g 92 4)], g) rfl ?_
    cases h
    exact er rfl
set_option maxRecDepth 100000 in
set_option maxHeartbeats 4000000 in
theorem ev_Op_withHistory_l20 (c3 : Int) (K20_59 : Int → Gx → Option (Int × Gx)) (hK20_59 : ∀ (x4 : Int) (g : Gx) (r : Int) (g' : Gx), K20_59 x4 g = some (r, g') → Ev 252 59 [some (.inr (.inr 0)), none, none, some (.inl c3), some (.inr (.inl x4)), none, none] [] g (some (.inr (.inl r))) g') : ∀ (n20 : Nat) (v4 v6 : Int) (g : Gx) (r : Int) (g' : Gx), Op_withHistory_l20 c3 K20_59 n20 v4 v6 g = some (r, g') → Ev 252 20 [some (.inr (.inr 0)), none, none, some (.inl c3), some (.inr (.inl v4)), none, some (.inl v6)] [] g (some (.inr (.inl r))) g' := by
  intro n20
  induction n20 with
  | zero => intro v4 v6 g r g' h; cases h
  | succ n20 ih20 =>
    intro v4 v6 g r g' h
    rw [Op_withHistory_l20] at h
    refine ev_runs 4 (20, [some (.inr (.inr 0)), none, none, some (.inl c3), some (.inr (.inl v4)), none, some (.inl v6)], [], g) (27, [some (.inr (.inr 0)), none, none, some (.inl c3), some (.inr (.inl v4)), none, some (.inl v6)], [.inl c3, .inr (.inr 33), .inl v6], g) rfl ?_
    refine ec 84 30 [.inr (.inr 33), .inl c3] [.inl v6] rfl (ev_Hi_length c3 g _ rfl) ?_
    show Ev 252 30 [some (.inr (.inr 0)), none, none, some (.inl c3), some (.inr (.inl v4)), none, some (.inl v6)] [.inl (Hi_length c3 g), .inl v6] g _ _
    by_cases hc : (Hi_length c3 g) ≤ v6
    · rw [if_pos hc] at h
      refine es (59, [some (.inr (.inr 0)), none, none, some (.inl c3), some (.inr (.inl v4)), none, some (.inl v6)], [], g) (congrArg some (if_pos hc)) ?_
      exact ev_le (L := [some (.inr (.inr 0)), none, none, some (.inl c3), some (.inr (.inl v4)), none, none]) (by simp [Lle]) (hK20_59 v4 g r g' h)
    · rw [if_neg hc] at h
      refine es (33, [some (.inr (.inr 0)), none, none, some (.inl c3), some (.inr (.inl v4)), none, some (.inl v6)], [], g) (congrArg some (if_neg hc)) ?_
      refine ev_runs 7 (33, [some (.inr (.inr 0)), none, none, some (.inl c3), some (.inr (.inl v4)), none, some (.inl v6)], [], g) (46, [some (.inr (.inr 0)), none, none, some (.inl c3), some (.inr (.inl v4)), none, some (.inl v6)], [.inl v6, .inl c3, .inr (.inr 33), .inr (.inl (wl (31 * v4)))], g) rfl ?_
      refine ec 85 49 [.inr (.inr 33), .inl c3, .inl v6] [.inr (.inl (wl (31 * v4)))] rfl (ev_Hi_word c3 v6 g _ rfl) ?_
      show Ev 252 49 [some (.inr (.inr 0)), none, none, some (.inl c3), some (.inr (.inl v4)), none, some (.inl v6)] [.inl (Hi_word c3 v6 g), .inr (.inl (wl (31 * v4)))] g _ _
      refine ev_runs 5 (49, [some (.inr (.inr 0)), none, none, some (.inl c3), some (.inr (.inl v4)), none, some (.inl v6)], [.inl (Hi_word c3 v6 g), .inr (.inl (wl (31 * v4)))], g) (20, [some (.inr (.inr 0)), none, none, some (.inl c3), some (.inr (.inl (wl ((wl (31 * v4)) + (Hi_word c3 v6 g))))), none, some (.inl (wr (v6 + 1)))], [], g) rfl ?_
      exact ev_le (L := [some (.inr (.inr 0)), none, none, some (.inl c3), some (.inr (.inl (wl ((wl (31 * v4)) + (Hi_word c3 v6 g))))), none, some (.inl (wr (v6 + 1)))]) (by simp [Lle]) (ih20 (wl ((wl (31 * v4)) + (Hi_word c3 v6 g))) (wr (v6 + 1)) g r g' h)
set_option maxRecDepth 100000 in
set_option maxHeartbeats 4000000 in
theorem ev_Op_withHistory (a1 a3 : Int) (g : Gx) (r : Int) (g' : Gx) (h : Op_withHistory a1 a3 g = some (r, g')) : Ev 252 0 [some (.inr (.inr 0)), some (.inr (.inl a1)), none, some (.inl a3), none, none, none] [] g (some (.inr (.inl r))) g' := by
  rw [Op_withHistory] at h
  refine ev_runs 6 (0, [some (.inr (.inr 0)), some (.inr (.inl a1)), none, some (.inl a3), none, none, none], [], g) (10, [some (.inr (.inr 0)), some (.inr (.inl a1)), none, some (.inl a3), none, none, none], [.inl a3, .inr (.inr 33), .inr (.inl (wl (31 * a1)))], g) rfl ?_
  refine ec 84 13 [.inr (.inr 33), .inl a3] [.inr (.inl (wl (31 * a1)))] rfl (ev_Hi_length a3 g _ rfl) ?_
  show Ev 252 13 [some (.inr (.inr 0)), some (.inr (.inl a1)), none, some (.inl a3), none, none, none] [.inl (Hi_length a3 g), .inr (.inl (wl (31 * a1)))] g _ _
  refine ev_runs 5 (13, [some (.inr (.inr 0)), some (.inr (.inl a1)), none, some (.inl a3), none, none, none], [.inl (Hi_length a3 g), .inr (.inl (wl (31 * a1)))], g) (20, [some (.inr (.inr 0)), some (.inr (.inl a1)), none, some (.inl a3), some (.inr (.inl (wl ((wl (31 * a1)) + (Hi_length a3 g))))), none, some (.inl 0)], [], g) rfl ?_
  refine ev_le (L := [some (.inr (.inr 0)), none, none, some (.inl a3), some (.inr (.inl (wl ((wl (31 * a1)) + (Hi_length a3 g))))), none, some (.inl 0)]) (by simp [Lle]) ?_
  refine ev_Op_withHistory_l20 a3 _ ?_ fu (wl ((wl (31 * a1)) + (Hi_length a3 g))) 0 g r g' h
  · intro x1 g2 r g' h
    refine ev_runs 6 (59, [some (.inr (.inr 0)), none, none, some (.inl a3), some (.inr (.inl x1)), none, none], [], g2) (70, [some (.inr (.inr 0)), none, none, some (.inl a3), some (.inr (.inl x1)), none, none], [.inl a3, .inr (.inr 60), .inr (.inl (wl (31 * x1)))], g2) rfl ?_
    obtain ⟨q3, hq, h⟩ := Option.bind_eq_some_iff.mp h
    refine ec 163 73 [.inr (.inr 60), .inl a3] [.inr (.inl (wl (31 * x1)))] rfl (ev_Rn_chain a3 g2 q3.1 q3.2 hq) ?_
    show Ev 252 73 [some (.inr (.inr 0)), none, none, some (.inl a3), some (.inr (.inl x1)), none, none] [.inl q3.1, .inr (.inl (wl (31 * x1)))] q3.2 _ _
    refine ev_runs 2 (73, [some (.inr (.inr 0)), none, none, some (.inl a3), some (.inr (.inl x1)), none, none], [.inl q3.1, .inr (.inl (wl (31 * x1)))], q3.2) (75, [some (.inr (.inr 0)), none, none, some (.inl a3), some (.inr (.inl x1)), none, none], [.inr (.inl (wl ((wl (31 * x1)) + q3.1)))], q3.2) rfl ?_
    cases h
    exact er rfl
set_option maxRecDepth 100000 in
set_option maxHeartbeats 4000000 in
theorem ev_Op_digest_l196 (c1 : Int) (c2 : Int) (K196_233 : Int → Gx → Option (Int × Gx)) (hK196_233 : ∀ (x3 : Int) (g : Gx) (r : Int) (g' : Gx), K196_233 x3 g = some (r, g') → Ev 253 233 [some (.inr (.inr 0)), some (.inl c1), some (.inl c2), some (.inr (.inl x3)), none, none] [] g (some (.inr (.inl r))) g') : ∀ (n196 : Nat) (v3 v5 : Int) (g : Gx) (r : Int) (g' : Gx), Op_digest_l196 c1 c2 K196_233 n196 v3 v5 g = some (r, g') → Ev 253 196 [some (.inr (.inr 0)), some (.inl c1), some (.inl c2), some (.inr (.inl v3)), none, some (.inl v5)] [] g (some (.inr (.inl r))) g' := by
  intro n196
  induction n196 with
  | zero => intro v3 v5 g r g' h; cases h
  | succ n196 ih196 =>
    intro v3 v5 g r g' h
    rw [Op_digest_l196] at h
    refine ev_runs 2 (196, [some (.inr (.inr 0)), some (.inl c1), some (.inl c2), some (.inr (.inl v3)), none, some (.inl v5)], [], g) (199, [some (.inr (.inr 0)), some (.inl c1), some (.inl c2), some (.inr (.inl v3)), none, some (.inl v5)], [.inl 4, .inl v5], g) rfl ?_
    by_cases hc : 4 ≤ v5
    · rw [if_pos hc] at h
      refine es (233, [some (.inr (.inr 0)), some (.inl c1), some (.inl c2), some (.inr (.inl v3)), none, some (.inl v5)], [], g) (congrArg some (if_pos hc)) ?_
      exact ev_le (L := [some (.inr (.inr 0)), some (.inl c1), some (.inl c2), some (.inr (.inl v3)), none, none]) (by simp [Lle]) (hK196_233 v3 g r g' h)
    · rw [if_neg hc] at h
      refine es (202, [some (.inr (.inr 0)), some (.inl c1), some (.inl c2), some (.inr (.inl v3)), none, some (.inl v5)], [], g) (congrArg some (if_neg hc)) ?_
      refine ev_runs 4 (202, [some (.inr (.inr 0)), some (.inl c1), some (.inl c2), some (.inr (.inl v3)), none, some (.inl v5)], [], g) (208, [some (.inr (.inr 0)), some (.inl c1), some (.inl c2), some (.inr (.inl v3)), none, some (.inl v5)], [.inl c2, .inr (.inl (wl (31 * v3)))], g) rfl ?_
      by_cases hc : c2 = 0
      · rw [if_pos hc] at h
        refine es (223, [some (.inr (.inr 0)), some (.inl c1), some (.inl c2), some (.inr (.inl v3)), none, some (.inl v5)], [.inr (.inl (wl (31 * v3)))], g) (congrArg some (if_pos hc)) ?_
        refine ev_runs 6 (223, [some (.inr (.inr 0)), some (.inl c1), some (.inl c2), some (.inr (.inl v3)), none, some (.inl v5)], [.inr (.inl (wl (31 * v3)))], g) (196, [some (.inr (.inr 0)), some (.inl c1), some (.inl c2), some (.inr (.inl (wl ((wl (31 * v3)) + c1)))), none, some (.inl (wr (v5 + 1)))], [], g) rfl ?_
        exact ev_le (L := [some (.inr (.inr 0)), some (.inl c1), some (.inl c2), some (.inr (.inl (wl ((wl (31 * v3)) + c1)))), none, some (.inl (wr (v5 + 1)))]) (by simp [Lle]) (ih196 (wl ((wl (31 * v3)) + c1)) (wr (v5 + 1)) g r g' h)
      · rw [if_neg hc] at h
        refine es (211, [some (.inr (.inr 0)), some (.inl c1), some (.inl c2), some (.inr (.inl v3)), none, some (.inl v5)], [.inr (.inl (wl (31 * v3)))], g) (congrArg some (if_neg hc)) ?_
        refine ev_runs 3 (211, [some (.inr (.inr 0)), some (.inl c1), some (.inl c2), some (.inr (.inl v3)), none, some (.inl v5)], [.inr (.inl (wl (31 * v3)))], g) (217, [some (.inr (.inr 0)), some (.inl c1), some (.inl c2), some (.inr (.inl v3)), none, some (.inl v5)], [.inl v5, .inr (.inr 55), .inr (.inl (wl (31 * v3)))], g) rfl ?_
        obtain ⟨q6, hq, h⟩ := Option.bind_eq_some_iff.mp h
        refine ec 128 220 [.inr (.inr 55), .inl v5] [.inr (.inl (wl (31 * v3)))] rfl (ev_Kn_momentPart v5 g q6.1 q6.2 hq) ?_
        show Ev 253 220 [some (.inr (.inr 0)), some (.inl c1), some (.inl c2), some (.inr (.inl v3)), none, some (.inl v5)] [.inl q6.1, .inr (.inl (wl (31 * v3)))] q6.2 _ _
        refine ev_runs 6 (220, [some (.inr (.inr 0)), some (.inl c1), some (.inl c2), some (.inr (.inl v3)), none, some (.inl v5)], [.inl q6.1, .inr (.inl (wl (31 * v3)))], q6.2) (196, [some (.inr (.inr 0)), some (.inl c1), some (.inl c2), some (.inr (.inl (wl ((wl (31 * v3)) + q6.1)))), none, some (.inl (wr (v5 + 1)))], [], q6.2) rfl ?_
        exact ev_le (L := [some (.inr (.inr 0)), some (.inl c1), some (.inl c2), some (.inr (.inl (wl ((wl (31 * v3)) + q6.1)))), none, some (.inl (wr (v5 + 1)))]) (by simp [Lle]) (ih196 (wl ((wl (31 * v3)) + q6.1)) (wr (v5 + 1)) q6.2 r g' h)
set_option maxRecDepth 100000 in
set_option maxHeartbeats 4000000 in
theorem ev_Op_digest_l160 (c1 : Int) (c2 : Int) (K160_186 : Int → Gx → Option (Int × Gx)) (hK160_186 : ∀ (x3 : Int) (g : Gx) (r : Int) (g' : Gx), K160_186 x3 g = some (r, g') → Ev 253 186 [some (.inr (.inr 0)), some (.inl c1), some (.inl c2), some (.inr (.inl x3)), none, none] [] g (some (.inr (.inl r))) g') : ∀ (n160 : Nat) (v3 v5 : Int) (g : Gx) (r : Int) (g' : Gx), Op_digest_l160 c1 c2 K160_186 n160 v3 v5 g = some (r, g') → Ev 253 160 [some (.inr (.inr 0)), some (.inl c1), some (.inl c2), some (.inr (.inl v3)), none, some (.inl v5)] [] g (some (.inr (.inl r))) g' := by
  intro n160
  induction n160 with
  | zero => intro v3 v5 g r g' h; cases h
  | succ n160 ih160 =>
    intro v3 v5 g r g' h
    rw [Op_digest_l160] at h
    refine ev_runs 3 (160, [some (.inr (.inr 0)), some (.inl c1), some (.inl c2), some (.inr (.inl v3)), none, some (.inl v5)], [], g) (166, [some (.inr (.inr 0)), some (.inl c1), some (.inl c2), some (.inr (.inl v3)), none, some (.inl v5)], [.inr (.inr 33), .inl v5], g) rfl ?_
    refine ec 74 169 [.inr (.inr 33)] [.inl v5] rfl (ev_Hi_size g _ rfl) ?_
    show Ev 253 169 [some (.inr (.inr 0)), some (.inl c1), some (.inl c2), some (.inr (.inl v3)), none, some (.inl v5)] [.inl (Hi_size g), .inl v5] g _ _
    by_cases hc : (Hi_size g) ≤ v5
    · rw [if_pos hc] at h
      refine es (186, [some (.inr (.inr 0)), some (.inl c1), some (.inl c2), some (.inr (.inl v3)), none, some (.inl v5)], [], g) (congrArg some (if_pos hc)) ?_
      exact ev_le (L := [some (.inr (.inr 0)), some (.inl c1), some (.inl c2), some (.inr (.inl v3)), none, none]) (by simp [Lle]) (hK160_186 v3 g r g' h)
    · rw [if_neg hc] at h
      refine es (172, [some (.inr (.inr 0)), some (.inl c1), some (.inl c2), some (.inr (.inl v3)), none, some (.inl v5)], [], g) (congrArg some (if_neg hc)) ?_
      refine ev_runs 3 (172, [some (.inr (.inr 0)), some (.inl c1), some (.inl c2), some (.inr (.inl v3)), none, some (.inl v5)], [], g) (176, [some (.inr (.inr 0)), some (.inl c1), some (.inl c2), some (.inr (.inl v3)), none, some (.inl v5)], [.inl v5, .inr (.inl v3), .inr (.inr 0)], g) rfl ?_
      obtain ⟨q10, hq, h⟩ := Option.bind_eq_some_iff.mp h
      refine ec 252 179 [.inr (.inr 0), .inr (.inl v3), .inl v5] [] rfl (ev_Op_withHistory v3 v5 g q10.1 q10.2 hq) ?_
      show Ev 253 179 [some (.inr (.inr 0)), some (.inl c1), some (.inl c2), some (.inr (.inl v3)), none, some (.inl v5)] [.inr (.inl q10.1)] q10.2 _ _
      refine ev_runs 3 (179, [some (.inr (.inr 0)), some (.inl c1), some (.inl c2), some (.inr (.inl v3)), none, some (.inl v5)], [.inr (.inl q10.1)], q10.2) (160, [some (.inr (.inr 0)), some (.inl c1), some (.inl c2), some (.inr (.inl q10.1)), none, some (.inl (wr (v5 + 1)))], [], q10.2) rfl ?_
      exact ev_le (L := [some (.inr (.inr 0)), some (.inl c1), some (.inl c2), some (.inr (.inl q10.1)), none, some (.inl (wr (v5 + 1)))]) (by simp [Lle]) (ih160 q10.1 (wr (v5 + 1)) q10.2 r g' h)
set_option maxRecDepth 100000 in
set_option maxHeartbeats 4000000 in
theorem ev_Op_digest (g : Gx) (r : Int) (g' : Gx) (h : Op_digest g = some (r, g')) : Ev 253 0 [some (.inr (.inr 0)), none, none, none, none, none] [] g (some (.inr (.inl r))) g' := by
  rw [Op_digest] at h
  refine ev_runs 2 (0, [some (.inr (.inr 0)), none, none, none, none, none], [], g) (2, [some (.inr (.inr 0)), none, none, none, none, none], [.inl 0, .inr (.inr 0)], g) rfl ?_
  obtain ⟨q1, hq, h⟩ := Option.bind_eq_some_iff.mp h
  refine ec 75 5 [.inr (.inr 0), .inl 0] [] rfl (ev_Op_hindrance 0 g q1.1 q1.2 hq) ?_
  show Ev 253 5 [some (.inr (.inr 0)), none, none, none, none, none] [.inl q1.1] q1.2 _ _
  refine ev_runs 2 (5, [some (.inr (.inr 0)), none, none, none, none, none], [.inl q1.1], q1.2) (7, [some (.inr (.inr 0)), some (.inl q1.1), none, none, none, none], [.inl q1.1], q1.2) rfl ?_
  obtain ⟨y2, hy2, h⟩ := lett_inv h
  have hjy2 : Ev 253 15 [some (.inr (.inr 0)), some (.inl q1.1), none, none, none, none] [.inl y2] q1.2 (some (.inr (.inl r))) g' := by
    refine ev_runs 8 (15, [some (.inr (.inr 0)), some (.inl q1.1), none, none, none, none], [.inl y2], q1.2) (29, [some (.inr (.inr 0)), some (.inl q1.1), some (.inl y2), some (.inr (.inl 17)), none, none], [.inr (.inr 1), .inr (.inl (wl (31 * 17)))], q1.2) rfl ?_
    refine ec 2 32 [.inr (.inr 1)] [.inr (.inl (wl (31 * 17)))] rfl (ev_Tx_length1 q1.2 _ rfl) ?_
    show Ev 253 32 [some (.inr (.inr 0)), some (.inl q1.1), some (.inl y2), some (.inr (.inl 17)), none, none] [.inl (Tx_length1 q1.2), .inr (.inl (wl (31 * 17)))] q1.2 _ _
    refine ev_runs 8 (32, [some (.inr (.inr 0)), some (.inl q1.1), some (.inl y2), some (.inr (.inl 17)), none, none], [.inl (Tx_length1 q1.2), .inr (.inl (wl (31 * 17)))], q1.2) (44, [some (.inr (.inr 0)), some (.inl q1.1), some (.inl y2), some (.inr (.inl (wl ((wl (31 * 17)) + (Tx_length1 q1.2))))), none, none], [.inr (.inr 4), .inr (.inl (wl (31 * (wl ((wl (31 * 17)) + (Tx_length1 q1.2))))))], q1.2) rfl ?_
    refine ec 2 47 [.inr (.inr 4)] [.inr (.inl (wl (31 * (wl ((wl (31 * 17)) + (Tx_length1 q1.2))))))] rfl (ev_Tx_length4 q1.2 _ rfl) ?_
    show Ev 253 47 [some (.inr (.inr 0)), some (.inl q1.1), some (.inl y2), some (.inr (.inl (wl ((wl (31 * 17)) + (Tx_length1 q1.2))))), none, none] [.inl (Tx_length4 q1.2), .inr (.inl (wl (31 * (wl ((wl (31 * 17)) + (Tx_length1 q1.2))))))] q1.2 _ _
    refine ev_runs 16 (47, [some (.inr (.inr 0)), some (.inl q1.1), some (.inl y2), some (.inr (.inl (wl ((wl (31 * 17)) + (Tx_length1 q1.2))))), none, none], [.inl (Tx_length4 q1.2), .inr (.inl (wl (31 * (wl ((wl (31 * 17)) + (Tx_length1 q1.2))))))], q1.2) (71, [some (.inr (.inr 0)), some (.inl q1.1), some (.inl y2), some (.inr (.inl (wl ((wl (31 * (wl ((wl (31 * (wl ((wl (31 * 17)) + (Tx_length1 q1.2))))) + (Tx_length4 q1.2))))) + (q1.2 0 11))))), none, none], [.inr (.inr 78), .inr (.inl (wl (31 * (wl ((wl (31 * (wl ((wl (31 * (wl ((wl (31 * 17)) + (Tx_length1 q1.2))))) + (Tx_length4 q1.2))))) + (q1.2 0 11))))))], q1.2) rfl ?_
    refine ec 210 74 [.inr (.inr 78)] [.inr (.inl (wl (31 * (wl ((wl (31 * (wl ((wl (31 * (wl ((wl (31 * 17)) + (Tx_length1 q1.2))))) + (Tx_length4 q1.2))))) + (q1.2 0 11))))))] rfl (ev_Bd_size q1.2 _ rfl) ?_
    show Ev 253 74 [some (.inr (.inr 0)), some (.inl q1.1), some (.inl y2), some (.inr (.inl (wl ((wl (31 * (wl ((wl (31 * (wl ((wl (31 * 17)) + (Tx_length1 q1.2))))) + (Tx_length4 q1.2))))) + (q1.2 0 11))))), none, none] [.inl (Bd_size q1.2), .inr (.inl (wl (31 * (wl ((wl (31 * (wl ((wl (31 * (wl ((wl (31 * 17)) + (Tx_length1 q1.2))))) + (Tx_length4 q1.2))))) + (q1.2 0 11))))))] q1.2 _ _
    refine ev_runs 7 (74, [some (.inr (.inr 0)), some (.inl q1.1), some (.inl y2), some (.inr (.inl (wl ((wl (31 * (wl ((wl (31 * (wl ((wl (31 * 17)) + (Tx_length1 q1.2))))) + (Tx_length4 q1.2))))) + (q1.2 0 11))))), none, none], [.inl (Bd_size q1.2), .inr (.inl (wl (31 * (wl ((wl (31 * (wl ((wl (31 * (wl ((wl (31 * 17)) + (Tx_length1 q1.2))))) + (Tx_length4 q1.2))))) + (q1.2 0 11))))))], q1.2) (83, [some (.inr (.inr 0)), some (.inl q1.1), some (.inl y2), some (.inr (.inl (wl ((wl (31 * (wl ((wl (31 * (wl ((wl (31 * (wl ((wl (31 * 17)) + (Tx_length1 q1.2))))) + (Tx_length4 q1.2))))) + (q1.2 0 11))))) + (Bd_size q1.2))))), none, none], [.inl y2, .inr (.inl (wl (31 * (wl ((wl (31 * (wl ((wl (31 * (wl ((wl (31 * (wl ((wl (31 * 17)) + (Tx_length1 q1.2))))) + (Tx_length4 q1.2))))) + (q1.2 0 11))))) + (Bd_size q1.2))))))], q1.2) rfl ?_
    obtain ⟨y3, hy3, h⟩ := lett_inv h
    have hjy3 : Ev 253 97 [some (.inr (.inr 0)), some (.inl q1.1), some (.inl y2), none, none, none] [.inl y3, .inr (.inl (wl (31 * (wl ((wl (31 * (wl ((wl (31 * (wl ((wl (31 * (wl ((wl (31 * 17)) + (Tx_length1 q1.2))))) + (Tx_length4 q1.2))))) + (q1.2 0 11))))) + (Bd_size q1.2))))))] q1.2 (some (.inr (.inl r))) g' := by
      refine ev_runs 7 (97, [some (.inr (.inr 0)), some (.inl q1.1), some (.inl y2), none, none, none], [.inl y3, .inr (.inl (wl (31 * (wl ((wl (31 * (wl ((wl (31 * (wl ((wl (31 * (wl ((wl (31 * 17)) + (Tx_length1 q1.2))))) + (Tx_length4 q1.2))))) + (q1.2 0 11))))) + (Bd_size q1.2))))))], q1.2) (106, [some (.inr (.inr 0)), some (.inl q1.1), some (.inl y2), some (.inr (.inl (wl ((wl (31 * (wl ((wl (31 * (wl ((wl (31 * (wl ((wl (31 * (wl ((wl (31 * 17)) + (Tx_length1 q1.2))))) + (Tx_length4 q1.2))))) + (q1.2 0 11))))) + (Bd_size q1.2))))) + y3)))), none, none], [.inl y2, .inr (.inl (wl (31 * (wl ((wl (31 * (wl ((wl (31 * (wl ((wl (31 * (wl ((wl (31 * (wl ((wl (31 * 17)) + (Tx_length1 q1.2))))) + (Tx_length4 q1.2))))) + (q1.2 0 11))))) + (Bd_size q1.2))))) + y3)))))], q1.2) rfl ?_
      by_cases hc : y2 = 0
      · rw [if_pos hc] at h
        refine es (119, [some (.inr (.inr 0)), some (.inl q1.1), some (.inl y2), some (.inr (.inl (wl ((wl (31 * (wl ((wl (31 * (wl ((wl (31 * (wl ((wl (31 * (wl ((wl (31 * 17)) + (Tx_length1 q1.2))))) + (Tx_length4 q1.2))))) + (q1.2 0 11))))) + (Bd_size q1.2))))) + y3)))), none, none], [.inr (.inl (wl (31 * (wl ((wl (31 * (wl ((wl (31 * (wl ((wl (31 * (wl ((wl (31 * (wl ((wl (31 * 17)) + (Tx_length1 q1.2))))) + (Tx_length4 q1.2))))) + (q1.2 0 11))))) + (Bd_size q1.2))))) + y3)))))], q1.2) (congrArg some (if_pos hc)) ?_
        refine ev_runs 9 (119, [some (.inr (.inr 0)), some (.inl q1.1), some (.inl y2), some (.inr (.inl (wl ((wl (31 * (wl ((wl (31 * (wl ((wl (31 * (wl ((wl (31 * (wl ((wl (31 * 17)) + (Tx_length1 q1.2))))) + (Tx_length4 q1.2))))) + (q1.2 0 11))))) + (Bd_size q1.2))))) + y3)))), none, none], [.inr (.inl (wl (31 * (wl ((wl (31 * (wl ((wl (31 * (wl ((wl (31 * (wl ((wl (31 * (wl ((wl (31 * 17)) + (Tx_length1 q1.2))))) + (Tx_length4 q1.2))))) + (q1.2 0 11))))) + (Bd_size q1.2))))) + y3)))))], q1.2) (132, [some (.inr (.inr 0)), some (.inl q1.1), some (.inl y2), some (.inr (.inl (wl ((wl (31 * (wl ((wl (31 * (wl ((wl (31 * (wl ((wl (31 * (wl ((wl (31 * (wl ((wl (31 * 17)) + (Tx_length1 q1.2))))) + (Tx_length4 q1.2))))) + (q1.2 0 11))))) + (Bd_size q1.2))))) + y3)))) + q1.1)))), none, none], [.inr (.inr 28), .inr (.inl (wl (31 * (wl ((wl (31 * (wl ((wl (31 * (wl ((wl (31 * (wl ((wl (31 * (wl ((wl (31 * (wl ((wl (31 * 17)) + (Tx_length1 q1.2))))) + (Tx_length4 q1.2))))) + (q1.2 0 11))))) + (Bd_size q1.2))))) + y3)))) + q1.1)))))], q1.2) rfl ?_
        obtain ⟨q4, hq, h⟩ := Option.bind_eq_some_iff.mp h
        refine ec 32 135 [.inr (.inr 28)] [.inr (.inl (wl (31 * (wl ((wl (31 * (wl ((wl (31 * (wl ((wl (31 * (wl ((wl (31 * (wl ((wl (31 * (wl ((wl (31 * 17)) + (Tx_length1 q1.2))))) + (Tx_length4 q1.2))))) + (q1.2 0 11))))) + (Bd_size q1.2))))) + y3)))) + q1.1)))))] rfl (ev_Pr_firstFault q1.2 q4.1 q4.2 hq) ?_
        show Ev 253 135 [some (.inr (.inr 0)), some (.inl q1.1), some (.inl y2), some (.inr (.inl (wl ((wl (31 * (wl ((wl (31 * (wl ((wl (31 * (wl ((wl (31 * (wl ((wl (31 * (wl ((wl (31 * 17)) + (Tx_length1 q1.2))))) + (Tx_length4 q1.2))))) + (q1.2 0 11))))) + (Bd_size q1.2))))) + y3)))) + q1.1)))), none, none] [.inl q4.1, .inr (.inl (wl (31 * (wl ((wl (31 * (wl ((wl (31 * (wl ((wl (31 * (wl ((wl (31 * (wl ((wl (31 * (wl ((wl (31 * 17)) + (Tx_length1 q1.2))))) + (Tx_length4 q1.2))))) + (q1.2 0 11))))) + (Bd_size q1.2))))) + y3)))) + q1.1)))))] q4.2 _ _
        refine ev_runs 8 (135, [some (.inr (.inr 0)), some (.inl q1.1), some (.inl y2), some (.inr (.inl (wl ((wl (31 * (wl ((wl (31 * (wl ((wl (31 * (wl ((wl (31 * (wl ((wl (31 * (wl ((wl (31 * 17)) + (Tx_length1 q1.2))))) + (Tx_length4 q1.2))))) + (q1.2 0 11))))) + (Bd_size q1.2))))) + y3)))) + q1.1)))), none, none], [.inl q4.1, .inr (.inl (wl (31 * (wl ((wl (31 * (wl ((wl (31 * (wl ((wl (31 * (wl ((wl (31 * (wl ((wl (31 * (wl ((wl (31 * 17)) + (Tx_length1 q1.2))))) + (Tx_length4 q1.2))))) + (q1.2 0 11))))) + (Bd_size q1.2))))) + y3)))) + q1.1)))))], q4.2) (147, [some (.inr (.inr 0)), some (.inl q1.1), some (.inl y2), some (.inr (.inl (wl ((wl (31 * (wl ((wl (31 * (wl ((wl (31 * (wl ((wl (31 * (wl ((wl (31 * (wl ((wl (31 * (wl ((wl (31 * 17)) + (Tx_length1 q1.2))))) + (Tx_length4 q1.2))))) + (q1.2 0 11))))) + (Bd_size q1.2))))) + y3)))) + q1.1)))) + q4.1)))), none, none], [.inr (.inr 69), .inr (.inl (wl (31 * (wl ((wl (31 * (wl ((wl (31 * (wl ((wl (31 * (wl ((wl (31 * (wl ((wl (31 * (wl ((wl (31 * (wl ((wl (31 * 17)) + (Tx_length1 q1.2))))) + (Tx_length4 q1.2))))) + (q1.2 0 11))))) + (Bd_size q1.2))))) + y3)))) + q1.1)))) + q4.1)))))], q4.2) rfl ?_
        obtain ⟨q5, hq, h⟩ := Option.bind_eq_some_iff.mp h
        refine ec 34 150 [.inr (.inr 69)] [.inr (.inl (wl (31 * (wl ((wl (31 * (wl ((wl (31 * (wl ((wl (31 * (wl ((wl (31 * (wl ((wl (31 * (wl ((wl (31 * (wl ((wl (31 * 17)) + (Tx_length1 q1.2))))) + (Tx_length4 q1.2))))) + (q1.2 0 11))))) + (Bd_size q1.2))))) + y3)))) + q1.1)))) + q4.1)))))] rfl (ev_Pg_firstFault q4.2 q5.1 q5.2 hq) ?_
        show Ev 253 150 [some (.inr (.inr 0)), some (.inl q1.1), some (.inl y2), some (.inr (.inl (wl ((wl (31 * (wl ((wl (31 * (wl ((wl (31 * (wl ((wl (31 * (wl ((wl (31 * (wl ((wl (31 * (wl ((wl (31 * 17)) + (Tx_length1 q1.2))))) + (Tx_length4 q1.2))))) + (q1.2 0 11))))) + (Bd_size q1.2))))) + y3)))) + q1.1)))) + q4.1)))), none, none] [.inl q5.1, .inr (.inl (wl (31 * (wl ((wl (31 * (wl ((wl (31 * (wl ((wl (31 * (wl ((wl (31 * (wl ((wl (31 * (wl ((wl (31 * (wl ((wl (31 * 17)) + (Tx_length1 q1.2))))) + (Tx_length4 q1.2))))) + (q1.2 0 11))))) + (Bd_size q1.2))))) + y3)))) + q1.1)))) + q4.1)))))] q5.2 _ _
        refine ev_runs 4 (150, [some (.inr (.inr 0)), some (.inl q1.1), some (.inl y2), some (.inr (.inl (wl ((wl (31 * (wl ((wl (31 * (wl ((wl (31 * (wl ((wl (31 * (wl ((wl (31 * (wl ((wl (31 * (wl ((wl (31 * 17)) + (Tx_length1 q1.2))))) + (Tx_length4 q1.2))))) + (q1.2 0 11))))) + (Bd_size q1.2))))) + y3)))) + q1.1)))) + q4.1)))), none, none], [.inl q5.1, .inr (.inl (wl (31 * (wl ((wl (31 * (wl ((wl (31 * (wl ((wl (31 * (wl ((wl (31 * (wl ((wl (31 * (wl ((wl (31 * (wl ((wl (31 * 17)) + (Tx_length1 q1.2))))) + (Tx_length4 q1.2))))) + (q1.2 0 11))))) + (Bd_size q1.2))))) + y3)))) + q1.1)))) + q4.1)))))], q5.2) (154, [some (.inr (.inr 0)), some (.inl q1.1), some (.inl y2), some (.inr (.inl (wl ((wl (31 * (wl ((wl (31 * (wl ((wl (31 * (wl ((wl (31 * (wl ((wl (31 * (wl ((wl (31 * (wl ((wl (31 * (wl ((wl (31 * 17)) + (Tx_length1 q1.2))))) + (Tx_length4 q1.2))))) + (q1.2 0 11))))) + (Bd_size q1.2))))) + y3)))) + q1.1)))) + q4.1)))) + q5.1)))), none, none], [.inl y2], q5.2) rfl ?_
        by_cases hc : y2 = 0
        · rw [if_pos hc] at h
          refine es (193, [some (.inr (.inr 0)), some (.inl q1.1), some (.inl y2), some (.inr (.inl (wl ((wl (31 * (wl ((wl (31 * (wl ((wl (31 * (wl ((wl (31 * (wl ((wl (31 * (wl ((wl (31 * (wl ((wl (31 * (wl ((wl (31 * 17)) + (Tx_length1 q1.2))))) + (Tx_length4 q1.2))))) + (q1.2 0 11))))) + (Bd_size q1.2))))) + y3)))) + q1.1)))) + q4.1)))) + q5.1)))), none, none], [], q5.2) (congrArg some (if_pos hc)) ?_
          refine ev_runs 2 (193, [some (.inr (.inr 0)), some (.inl q1.1), some (.inl y2), some (.inr (.inl (wl ((wl (31 * (wl ((wl (31 * (wl ((wl (31 * (wl ((wl (31 * (wl ((wl (31 * (wl ((wl (31 * (wl ((wl (31 * (wl ((wl (31 * 17)) + (Tx_length1 q1.2))))) + (Tx_length4 q1.2))))) + (q1.2 0 11))))) + (Bd_size q1.2))))) + y3)))) + q1.1)))) + q4.1)))) + q5.1)))), none, none], [], q5.2) (196, [some (.inr (.inr 0)), some (.inl q1.1), some (.inl y2), some (.inr (.inl (wl ((wl (31 * (wl ((wl (31 * (wl ((wl (31 * (wl ((wl (31 * (wl ((wl (31 * (wl ((wl (31 * (wl ((wl (31 * (wl ((wl (31 * 17)) + (Tx_length1 q1.2))))) + (Tx_length4 q1.2))))) + (q1.2 0 11))))) + (Bd_size q1.2))))) + y3)))) + q1.1)))) + q4.1)))) + q5.1)))), none, some (.inl 0)], [], q5.2) rfl ?_
          refine ev_le (L := [some (.inr (.inr 0)), some (.inl q1.1), some (.inl y2), some (.inr (.inl (wl ((wl (31 * (wl ((wl (31 * (wl ((wl (31 * (wl ((wl (31 * (wl ((wl (31 * (wl ((wl (31 * (wl ((wl (31 * (wl ((wl (31 * 17)) + (Tx_length1 q1.2))))) + (Tx_length4 q1.2))))) + (q1.2 0 11))))) + (Bd_size q1.2))))) + y3)))) + q1.1)))) + q4.1)))) + q5.1)))), none, some (.inl 0)]) (by simp [Lle]) ?_
          refine ev_Op_digest_l196 q1.1 y2 _ ?_ fu (wl ((wl (31 * (wl ((wl (31 * (wl ((wl (31 * (wl ((wl (31 * (wl ((wl (31 * (wl ((wl (31 * (wl ((wl (31 * (wl ((wl (31 * 17)) + (Tx_length1 q1.2))))) + (Tx_length4 q1.2))))) + (q1.2 0 11))))) + (Bd_size q1.2))))) + y3)))) + q1.1)))) + q4.1)))) + q5.1)) 0 q5.2 r g' h
          · intro x7 g8 r g' h
            refine ev_runs 4 (233, [some (.inr (.inr 0)), some (.inl q1.1), some (.inl y2), some (.inr (.inl x7)), none, none], [], g8) (239, [some (.inr (.inr 0)), some (.inl q1.1), some (.inl y2), some (.inr (.inl x7)), none, none], [.inl y2, .inr (.inl (wl (31 * x7)))], g8) rfl ?_
            by_cases hc : y2 = 0
            · rw [if_pos hc] at h
              refine es (252, [some (.inr (.inr 0)), some (.inl q1.1), some (.inl y2), some (.inr (.inl x7)), none, none], [.inr (.inl (wl (31 * x7)))], g8) (congrArg some (if_pos hc)) ?_
              refine ev_runs 3 (252, [some (.inr (.inr 0)), some (.inl q1.1), some (.inl y2), some (.inr (.inl x7)), none, none], [.inr (.inl (wl (31 * x7)))], g8) (255, [some (.inr (.inr 0)), some (.inl q1.1), some (.inl y2), some (.inr (.inl x7)), none, none], [.inr (.inl (wl ((wl (31 * x7)) + q1.1)))], g8) rfl ?_
              cases h
              exact er rfl
            · rw [if_neg hc] at h
              refine es (242, [some (.inr (.inr 0)), some (.inl q1.1), some (.inl y2), some (.inr (.inl x7)), none, none], [.inr (.inl (wl (31 * x7)))], g8) (congrArg some (if_neg hc)) ?_
              refine ev_runs 2 (242, [some (.inr (.inr 0)), some (.inl q1.1), some (.inl y2), some (.inr (.inl x7)), none, none], [.inr (.inl (wl (31 * x7)))], g8) (246, [some (.inr (.inr 0)), some (.inl q1.1), some (.inl y2), some (.inr (.inl x7)), none, none], [.inr (.inr 78), .inr (.inl (wl (31 * x7)))], g8) rfl ?_
              obtain ⟨q9, hq, h⟩ := Option.bind_eq_some_iff.mp h
              refine ec 219 249 [.inr (.inr 78)] [.inr (.inl (wl (31 * x7)))] rfl (ev_Bd_firstOut g8 q9.1 q9.2 hq) ?_
              show Ev 253 249 [some (.inr (.inr 0)), some (.inl q1.1), some (.inl y2), some (.inr (.inl x7)), none, none] [.inl q9.1, .inr (.inl (wl (31 * x7)))] q9.2 _ _
              refine ev_runs 3 (249, [some (.inr (.inr 0)), some (.inl q1.1), some (.inl y2), some (.inr (.inl x7)), none, none], [.inl q9.1, .inr (.inl (wl (31 * x7)))], q9.2) (255, [some (.inr (.inr 0)), some (.inl q1.1), some (.inl y2), some (.inr (.inl x7)), none, none], [.inr (.inl (wl ((wl (31 * x7)) + q9.1)))], q9.2) rfl ?_
              cases h
              exact er rfl
        · rw [if_neg hc] at h
          refine es (157, [some (.inr (.inr 0)), some (.inl q1.1), some (.inl y2), some (.inr (.inl (wl ((wl (31 * (wl ((wl (31 * (wl ((wl (31 * (wl ((wl (31 * (wl ((wl (31 * (wl ((wl (31 * (wl ((wl (31 * (wl ((wl (31 * 17)) + (Tx_length1 q1.2))))) + (Tx_length4 q1.2))))) + (q1.2 0 11))))) + (Bd_size q1.2))))) + y3)))) + q1.1)))) + q4.1)))) + q5.1)))), none, none], [], q5.2) (congrArg some (if_neg hc)) ?_
          refine ev_runs 2 (157, [some (.inr (.inr 0)), some (.inl q1.1), some (.inl y2), some (.inr (.inl (wl ((wl (31 * (wl ((wl (31 * (wl ((wl (31 * (wl ((wl (31 * (wl ((wl (31 * (wl ((wl (31 * (wl ((wl (31 * (wl ((wl (31 * 17)) + (Tx_length1 q1.2))))) + (Tx_length4 q1.2))))) + (q1.2 0 11))))) + (Bd_size q1.2))))) + y3)))) + q1.1)))) + q4.1)))) + q5.1)))), none, none], [], q5.2) (160, [some (.inr (.inr 0)), some (.inl q1.1), some (.inl y2), some (.inr (.inl (wl ((wl (31 * (wl ((wl (31 * (wl ((wl (31 * (wl ((wl (31 * (wl ((wl (31 * (wl ((wl (31 * (wl ((wl (31 * (wl ((wl (31 * 17)) + (Tx_length1 q1.2))))) + (Tx_length4 q1.2))))) + (q1.2 0 11))))) + (Bd_size q1.2))))) + y3)))) + q1.1)))) + q4.1)))) + q5.1)))), none, some (.inl 0)], [], q5.2) rfl ?_
          refine ev_le (L := [some (.inr (.inr 0)), some (.inl q1.1), some (.inl y2), some (.inr (.inl (wl ((wl (31 * (wl ((wl (31 * (wl ((wl (31 * (wl ((wl (31 * (wl ((wl (31 * (wl ((wl (31 * (wl ((wl (31 * (wl ((wl (31 * 17)) + (Tx_length1 q1.2))))) + (Tx_length4 q1.2))))) + (q1.2 0 11))))) + (Bd_size q1.2))))) + y3)))) + q1.1)))) + q4.1)))) + q5.1)))), none, some (.inl 0)]) (by simp [Lle]) ?_
          refine ev_Op_digest_l160 q1.1 y2 _ ?_ fu (wl ((wl (31 * (wl ((wl (31 * (wl ((wl (31 * (wl ((wl (31 * (wl ((wl (31 * (wl ((wl (31 * (wl ((wl (31 * (wl ((wl (31 * 17)) + (Tx_length1 q1.2))))) + (Tx_length4 q1.2))))) + (q1.2 0 11))))) + (Bd_size q1.2))))) + y3)))) + q1.1)))) + q4.1)))) + q5.1)) 0 q5.2 r g' h
          · intro x11 g12 r g' h
            refine ev_runs 2 (186, [some (.inr (.inr 0)), some (.inl q1.1), some (.inl y2), some (.inr (.inl x11)), none, none], [], g12) (190, [some (.inr (.inr 0)), some (.inl q1.1), some (.inl y2), some (.inr (.inl x11)), none, none], [.inr (.inr 78)], g12) rfl ?_
            obtain ⟨g13, hq, h⟩ := Option.bind_eq_some_iff.mp h
            refine ec 212 193 [.inr (.inr 78)] [] rfl (ev_Bd_compare g12 g13 hq) ?_
            show Ev 253 193 [some (.inr (.inr 0)), some (.inl q1.1), some (.inl y2), some (.inr (.inl x11)), none, none] [] g13 _ _
            refine ev_runs 2 (193, [some (.inr (.inr 0)), some (.inl q1.1), some (.inl y2), some (.inr (.inl x11)), none, none], [], g13) (196, [some (.inr (.inr 0)), some (.inl q1.1), some (.inl y2), some (.inr (.inl x11)), none, some (.inl 0)], [], g13) rfl ?_
            refine ev_le (L := [some (.inr (.inr 0)), some (.inl q1.1), some (.inl y2), some (.inr (.inl x11)), none, some (.inl 0)]) (by simp [Lle]) ?_
            refine ev_Op_digest_l196 q1.1 y2 _ ?_ fu x11 0 g13 r g' h
            · intro x14 g15 r g' h
              refine ev_runs 4 (233, [some (.inr (.inr 0)), some (.inl q1.1), some (.inl y2), some (.inr (.inl x14)), none, none], [], g15) (239, [some (.inr (.inr 0)), some (.inl q1.1), some (.inl y2), some (.inr (.inl x14)), none, none], [.inl y2, .inr (.inl (wl (31 * x14)))], g15) rfl ?_
              by_cases hc : y2 = 0
              · rw [if_pos hc] at h
                refine es (252, [some (.inr (.inr 0)), some (.inl q1.1), some (.inl y2), some (.inr (.inl x14)), none, none], [.inr (.inl (wl (31 * x14)))], g15) (congrArg some (if_pos hc)) ?_
                refine ev_runs 3 (252, [some (.inr (.inr 0)), some (.inl q1.1), some (.inl y2), some (.inr (.inl x14)), none, none], [.inr (.inl (wl (31 * x14)))], g15) (255, [some (.inr (.inr 0)), some (.inl q1.1), some (.inl y2), some (.inr (.inl x14)), none, none], [.inr (.inl (wl ((wl (31 * x14)) + q1.1)))], g15) rfl ?_
                cases h
                exact er rfl
              · rw [if_neg hc] at h
                refine es (242, [some (.inr (.inr 0)), some (.inl q1.1), some (.inl y2), some (.inr (.inl x14)), none, none], [.inr (.inl (wl (31 * x14)))], g15) (congrArg some (if_neg hc)) ?_
                refine ev_runs 2 (242, [some (.inr (.inr 0)), some (.inl q1.1), some (.inl y2), some (.inr (.inl x14)), none, none], [.inr (.inl (wl (31 * x14)))], g15) (246, [some (.inr (.inr 0)), some (.inl q1.1), some (.inl y2), some (.inr (.inl x14)), none, none], [.inr (.inr 78), .inr (.inl (wl (31 * x14)))], g15) rfl ?_
                obtain ⟨q16, hq, h⟩ := Option.bind_eq_some_iff.mp h
                refine ec 219 249 [.inr (.inr 78)] [.inr (.inl (wl (31 * x14)))] rfl (ev_Bd_firstOut g15 q16.1 q16.2 hq) ?_
                show Ev 253 249 [some (.inr (.inr 0)), some (.inl q1.1), some (.inl y2), some (.inr (.inl x14)), none, none] [.inl q16.1, .inr (.inl (wl (31 * x14)))] q16.2 _ _
                refine ev_runs 3 (249, [some (.inr (.inr 0)), some (.inl q1.1), some (.inl y2), some (.inr (.inl x14)), none, none], [.inl q16.1, .inr (.inl (wl (31 * x14)))], q16.2) (255, [some (.inr (.inr 0)), some (.inl q1.1), some (.inl y2), some (.inr (.inl x14)), none, none], [.inr (.inl (wl ((wl (31 * x14)) + q16.1)))], q16.2) rfl ?_
                cases h
                exact er rfl
      · rw [if_neg hc] at h
        refine es (109, [some (.inr (.inr 0)), some (.inl q1.1), some (.inl y2), some (.inr (.inl (wl ((wl (31 * (wl ((wl (31 * (wl ((wl (31 * (wl ((wl (31 * (wl ((wl (31 * 17)) + (Tx_length1 q1.2))))) + (Tx_length4 q1.2))))) + (q1.2 0 11))))) + (Bd_size q1.2))))) + y3)))), none, none], [.inr (.inl (wl (31 * (wl ((wl (31 * (wl ((wl (31 * (wl ((wl (31 * (wl ((wl (31 * (wl ((wl (31 * 17)) + (Tx_length1 q1.2))))) + (Tx_length4 q1.2))))) + (q1.2 0 11))))) + (Bd_size q1.2))))) + y3)))))], q1.2) (congrArg some (if_neg hc)) ?_
        refine ev_runs 2 (109, [some (.inr (.inr 0)), some (.inl q1.1), some (.inl y2), some (.inr (.inl (wl ((wl (31 * (wl ((wl (31 * (wl ((wl (31 * (wl ((wl (31 * (wl ((wl (31 * 17)) + (Tx_length1 q1.2))))) + (Tx_length4 q1.2))))) + (q1.2 0 11))))) + (Bd_size q1.2))))) + y3)))), none, none], [.inr (.inl (wl (31 * (wl ((wl (31 * (wl ((wl (31 * (wl ((wl (31 * (wl ((wl (31 * (wl ((wl (31 * 17)) + (Tx_length1 q1.2))))) + (Tx_length4 q1.2))))) + (q1.2 0 11))))) + (Bd_size q1.2))))) + y3)))))], q1.2) (113, [some (.inr (.inr 0)), some (.inl q1.1), some (.inl y2), some (.inr (.inl (wl ((wl (31 * (wl ((wl (31 * (wl ((wl (31 * (wl ((wl (31 * (wl ((wl (31 * 17)) + (Tx_length1 q1.2))))) + (Tx_length4 q1.2))))) + (q1.2 0 11))))) + (Bd_size q1.2))))) + y3)))), none, none], [.inr (.inr 55), .inr (.inl (wl (31 * (wl ((wl (31 * (wl ((wl (31 * (wl ((wl (31 * (wl ((wl (31 * (wl ((wl (31 * 17)) + (Tx_length1 q1.2))))) + (Tx_length4 q1.2))))) + (q1.2 0 11))))) + (Bd_size q1.2))))) + y3)))))], q1.2) rfl ?_
        obtain ⟨q17, hq, h⟩ := Option.bind_eq_some_iff.mp h
        refine ec 124 116 [.inr (.inr 55)] [.inr (.inl (wl (31 * (wl ((wl (31 * (wl ((wl (31 * (wl ((wl (31 * (wl ((wl (31 * (wl ((wl (31 * 17)) + (Tx_length1 q1.2))))) + (Tx_length4 q1.2))))) + (q1.2 0 11))))) + (Bd_size q1.2))))) + y3)))))] rfl (ev_Kn_soundness q1.2 q17.1 q17.2 hq) ?_
        show Ev 253 116 [some (.inr (.inr 0)), some (.inl q1.1), some (.inl y2), some (.inr (.inl (wl ((wl (31 * (wl ((wl (31 * (wl ((wl (31 * (wl ((wl (31 * (wl ((wl (31 * 17)) + (Tx_length1 q1.2))))) + (Tx_length4 q1.2))))) + (q1.2 0 11))))) + (Bd_size q1.2))))) + y3)))), none, none] [.inl q17.1, .inr (.inl (wl (31 * (wl ((wl (31 * (wl ((wl (31 * (wl ((wl (31 * (wl ((wl (31 * (wl ((wl (31 * 17)) + (Tx_length1 q1.2))))) + (Tx_length4 q1.2))))) + (q1.2 0 11))))) + (Bd_size q1.2))))) + y3)))))] q17.2 _ _
        refine ev_runs 9 (116, [some (.inr (.inr 0)), some (.inl q1.1), some (.inl y2), some (.inr (.inl (wl ((wl (31 * (wl ((wl (31 * (wl ((wl (31 * (wl ((wl (31 * (wl ((wl (31 * 17)) + (Tx_length1 q1.2))))) + (Tx_length4 q1.2))))) + (q1.2 0 11))))) + (Bd_size q1.2))))) + y3)))), none, none], [.inl q17.1, .inr (.inl (wl (31 * (wl ((wl (31 * (wl ((wl (31 * (wl ((wl (31 * (wl ((wl (31 * (wl ((wl (31 * 17)) + (Tx_length1 q1.2))))) + (Tx_length4 q1.2))))) + (q1.2 0 11))))) + (Bd_size q1.2))))) + y3)))))], q17.2) (132, [some (.inr (.inr 0)), some (.inl q1.1), some (.inl y2), some (.inr (.inl (wl ((wl (31 * (wl ((wl (31 * (wl ((wl (31 * (wl ((wl (31 * (wl ((wl (31 * (wl ((wl (31 * 17)) + (Tx_length1 q1.2))))) + (Tx_length4 q1.2))))) + (q1.2 0 11))))) + (Bd_size q1.2))))) + y3)))) + q17.1)))), none, none], [.inr (.inr 28), .inr (.inl (wl (31 * (wl ((wl (31 * (wl ((wl (31 * (wl ((wl (31 * (wl ((wl (31 * (wl ((wl (31 * (wl ((wl (31 * 17)) + (Tx_length1 q1.2))))) + (Tx_length4 q1.2))))) + (q1.2 0 11))))) + (Bd_size q1.2))))) + y3)))) + q17.1)))))], q17.2) rfl ?_
        obtain ⟨q18, hq, h⟩ := Option.bind_eq_some_iff.mp h
        refine ec 32 135 [.inr (.inr 28)] [.inr (.inl (wl (31 * (wl ((wl (31 * (wl ((wl (31 * (wl ((wl (31 * (wl ((wl (31 * (wl ((wl (31 * (wl ((wl (31 * 17)) + (Tx_length1 q1.2))))) + (Tx_length4 q1.2))))) + (q1.2 0 11))))) + (Bd_size q1.2))))) + y3)))) + q17.1)))))] rfl (ev_Pr_firstFault q17.2 q18.1 q18.2 hq) ?_
        show Ev 253 135 [some (.inr (.inr 0)), some (.inl q1.1), some (.inl y2), some (.inr (.inl (wl ((wl (31 * (wl ((wl (31 * (wl ((wl (31 * (wl ((wl (31 * (wl ((wl (31 * (wl ((wl (31 * 17)) + (Tx_length1 q1.2))))) + (Tx_length4 q1.2))))) + (q1.2 0 11))))) + (Bd_size q1.2))))) + y3)))) + q17.1)))), none, none] [.inl q18.1, .inr (.inl (wl (31 * (wl ((wl (31 * (wl ((wl (31 * (wl ((wl (31 * (wl ((wl (31 * (wl ((wl (31 * (wl ((wl (31 * 17)) + (Tx_length1 q1.2))))) + (Tx_length4 q1.2))))) + (q1.2 0 11))))) + (Bd_size q1.2))))) + y3)))) + q17.1)))))] q18.2 _ _
        refine ev_runs 8 (135, [some (.inr (.inr 0)), some (.inl q1.1), some (.inl y2), some (.inr (.inl (wl ((wl (31 * (wl ((wl (31 * (wl ((wl (31 * (wl ((wl (31 * (wl ((wl (31 * (wl ((wl (31 * 17)) + (Tx_length1 q1.2))))) + (Tx_length4 q1.2))))) + (q1.2 0 11))))) + (Bd_size q1.2))))) + y3)))) + q17.1)))), none, none], [.inl q18.1, .inr (.inl (wl (31 * (wl ((wl (31 * (wl ((wl (31 * (wl ((wl (31 * (wl ((wl (31 * (wl ((wl (31 * (wl ((wl (31 * 17)) + (Tx_length1 q1.2))))) + (Tx_length4 q1.2))))) + (q1.2 0 11))))) + (Bd_size q1.2))))) + y3)))) + q17.1)))))], q18.2) (147, [some (.inr (.inr 0)), some (.inl q1.1), some (.inl y2), some (.inr (.inl (wl ((wl (31 * (wl ((wl (31 * (wl ((wl (31 * (wl ((wl (31 * (wl ((wl (31 * (wl ((wl (31 * (wl ((wl (31 * 17)) + (Tx_length1 q1.2))))) + (Tx_length4 q1.2))))) + (q1.2 0 11))))) + (Bd_size q1.2))))) + y3)))) + q17.1)))) + q18.1)))), none, none], [.inr (.inr 69), .inr (.inl (wl (31 * (wl ((wl (31 * (wl ((wl (31 * (wl ((wl (31 * (wl ((wl (31 * (wl ((wl (31 * (wl ((wl (31 * (wl ((wl (31 * 17)) + (Tx_length1 q1.2))))) + (Tx_length4 q1.2))))) + (q1.2 0 11))))) + (Bd_size q1.2))))) + y3)))) + q17.1)))) + q18.1)))))], q18.2) rfl ?_
        obtain ⟨q19, hq, h⟩ := Option.bind_eq_some_iff.mp h
        refine ec 34 150 [.inr (.inr 69)] [.inr (.inl (wl (31 * (wl ((wl (31 * (wl ((wl (31 * (wl ((wl (31 * (wl ((wl (31 * (wl ((wl (31 * (wl ((wl (31 * (wl ((wl (31 * 17)) + (Tx_length1 q1.2))))) + (Tx_length4 q1.2))))) + (q1.2 0 11))))) + (Bd_size q1.2))))) + y3)))) + q17.1)))) + q18.1)))))] rfl (ev_Pg_firstFault q18.2 q19.1 q19.2 hq) ?_
        show Ev 253 150 [some (.inr (.inr 0)), some (.inl q1.1), some (.inl y2), some (.inr (.inl (wl ((wl (31 * (wl ((wl (31 * (wl ((wl (31 * (wl ((wl (31 * (wl ((wl (31 * (wl ((wl (31 * (wl ((wl (31 * 17)) + (Tx_length1 q1.2))))) + (Tx_length4 q1.2))))) + (q1.2 0 11))))) + (Bd_size q1.2))))) + y3)))) + q17.1)))) + q18.1)))), none, none] [.inl q19.1, .inr (.inl (wl (31 * (wl ((wl (31 * (wl ((wl (31 * (wl ((wl (31 * (wl ((wl (31 * (wl ((wl (31 * (wl ((wl (31 * (wl ((wl (31 * 17)) + (Tx_length1 q1.2))))) + (Tx_length4 q1.2))))) + (q1.2 0 11))))) + (Bd_size q1.2))))) + y3)))) + q17.1)))) + q18.1)))))] q19.2 _ _
        refine ev_runs 4 (150, [some (.inr (.inr 0)), some (.inl q1.1), some (.inl y2), some (.inr (.inl (wl ((wl (31 * (wl ((wl (31 * (wl ((wl (31 * (wl ((wl (31 * (wl ((wl (31 * (wl ((wl (31 * (wl ((wl (31 * 17)) + (Tx_length1 q1.2))))) + (Tx_length4 q1.2))))) + (q1.2 0 11))))) + (Bd_size q1.2))))) + y3)))) + q17.1)))) + q18.1)))), none, none], [.inl q19.1, .inr (.inl (wl (31 * (wl ((wl (31 * (wl ((wl (31 * (wl ((wl (31 * (wl ((wl (31 * (wl ((wl (31 * (wl ((wl (31 * (wl ((wl (31 * 17)) + (Tx_length1 q1.2))))) + (Tx_length4 q1.2))))) + (q1.2 0 11))))) + (Bd_size q1.2))))) + y3)))) + q17.1)))) + q18.1)))))], q19.2) (154, [some (.inr (.inr 0)), some (.inl q1.1), some (.inl y2), some (.inr (.inl (wl ((wl (31 * (wl ((wl (31 * (wl ((wl (31 * (wl ((wl (31 * (wl ((wl (31 * (wl ((wl (31 * (wl ((wl (31 * (wl ((wl (31 * 17)) + (Tx_length1 q1.2))))) + (Tx_length4 q1.2))))) + (q1.2 0 11))))) + (Bd_size q1.2))))) + y3)))) + q17.1)))) + q18.1)))) + q19.1)))), none, none], [.inl y2], q19.2) rfl ?_
        by_cases hc : y2 = 0
        · rw [if_pos hc] at h
          refine es (193, [some (.inr (.inr 0)), some (.inl q1.1), some (.inl y2), some (.inr (.inl (wl ((wl (31 * (wl ((wl (31 * (wl ((wl (31 * (wl ((wl (31 * (wl ((wl (31 * (wl ((wl (31 * (wl ((wl (31 * (wl ((wl (31 * 17)) + (Tx_length1 q1.2))))) + (Tx_length4 q1.2))))) + (q1.2 0 11))))) + (Bd_size q1.2))))) + y3)))) + q17.1)))) + q18.1)))) + q19.1)))), none, none], [], q19.2) (congrArg some (if_pos hc)) ?_
          refine ev_runs 2 (193, [some (.inr (.inr 0)), some (.inl q1.1), some (.inl y2), some (.inr (.inl (wl ((wl (31 * (wl ((wl (31 * (wl ((wl (31 * (wl ((wl (31 * (wl ((wl (31 * (wl ((wl (31 * (wl ((wl (31 * (wl ((wl (31 * 17)) + (Tx_length1 q1.2))))) + (Tx_length4 q1.2))))) + (q1.2 0 11))))) + (Bd_size q1.2))))) + y3)))) + q17.1)))) + q18.1)))) + q19.1)))), none, none], [], q19.2) (196, [some (.inr (.inr 0)), some (.inl q1.1), some (.inl y2), some (.inr (.inl (wl ((wl (31 * (wl ((wl (31 * (wl ((wl (31 * (wl ((wl (31 * (wl ((wl (31 * (wl ((wl (31 * (wl ((wl (31 * (wl ((wl (31 * 17)) + (Tx_length1 q1.2))))) + (Tx_length4 q1.2))))) + (q1.2 0 11))))) + (Bd_size q1.2))))) + y3)))) + q17.1)))) + q18.1)))) + q19.1)))), none, some (.inl 0)], [], q19.2) rfl ?_
          refine ev_le (L := [some (.inr (.inr 0)), some (.inl q1.1), some (.inl y2), some (.inr (.inl (wl ((wl (31 * (wl ((wl (31 * (wl ((wl (31 * (wl ((wl (31 * (wl ((wl (31 * (wl ((wl (31 * (wl ((wl (31 * (wl ((wl (31 * 17)) + (Tx_length1 q1.2))))) + (Tx_length4 q1.2))))) + (q1.2 0 11))))) + (Bd_size q1.2))))) + y3)))) + q17.1)))) + q18.1)))) + q19.1)))), none, some (.inl 0)]) (by simp [Lle]) ?_
          refine ev_Op_digest_l196 q1.1 y2 _ ?_ fu (wl ((wl (31 * (wl ((wl (31 * (wl ((wl (31 * (wl ((wl (31 * (wl ((wl (31 * (wl ((wl (31 * (wl ((wl (31 * (wl ((wl (31 * 17)) + (Tx_length1 q1.2))))) + (Tx_length4 q1.2))))) + (q1.2 0 11))))) + (Bd_size q1.2))))) + y3)))) + q17.1)))) + q18.1)))) + q19.1)) 0 q19.2 r g' h
          · intro x20 g21 r g' h
            refine ev_runs 4 (233, [some (.inr (.inr 0)), some (.inl q1.1), some (.inl y2), some (.inr (.inl x20)), none, none], [], g21) (239, [some (.inr (.inr 0)), some (.inl q1.1), some (.inl y2), some (.inr (.inl x20)), none, none], [.inl y2, .inr (.inl (wl (31 * x20)))], g21) rfl ?_
            by_cases hc : y2 = 0
            · rw [if_pos hc] at h
              refine es (252, [some (.inr (.inr 0)), some (.inl q1.1), some (.inl y2), some (.inr (.inl x20)), none, none], [.inr (.inl (wl (31 * x20)))], g21) (congrArg some (if_pos hc)) ?_
              refine ev_runs 3 (252, [some (.inr (.inr 0)), some (.inl q1.1), some (.inl y2), some (.inr (.inl x20)), none, none], [.inr (.inl (wl (31 * x20)))], g21) (255, [some (.inr (.inr 0)), some (.inl q1.1), some (.inl y2), some (.inr (.inl x20)), none, none], [.inr (.inl (wl ((wl (31 * x20)) + q1.1)))], g21) rfl ?_
              cases h
              exact er rfl
            · rw [if_neg hc] at h
              refine es (242, [some (.inr (.inr 0)), some (.inl q1.1), some (.inl y2), some (.inr (.inl x20)), none, none], [.inr (.inl (wl (31 * x20)))], g21) (congrArg some (if_neg hc)) ?_
              refine ev_runs 2 (242, [some (.inr (.inr 0)), some (.inl q1.1), some (.inl y2), some (.inr (.inl x20)), none, none], [.inr (.inl (wl (31 * x20)))], g21) (246, [some (.inr (.inr 0)), some (.inl q1.1), some (.inl y2), some (.inr (.inl x20)), none, none], [.inr (.inr 78), .inr (.inl (wl (31 * x20)))], g21) rfl ?_
              obtain ⟨q22, hq, h⟩ := Option.bind_eq_some_iff.mp h
              refine ec 219 249 [.inr (.inr 78)] [.inr (.inl (wl (31 * x20)))] rfl (ev_Bd_firstOut g21 q22.1 q22.2 hq) ?_
              show Ev 253 249 [some (.inr (.inr 0)), some (.inl q1.1), some (.inl y2), some (.inr (.inl x20)), none, none] [.inl q22.1, .inr (.inl (wl (31 * x20)))] q22.2 _ _
              refine ev_runs 3 (249, [some (.inr (.inr 0)), some (.inl q1.1), some (.inl y2), some (.inr (.inl x20)), none, none], [.inl q22.1, .inr (.inl (wl (31 * x20)))], q22.2) (255, [some (.inr (.inr 0)), some (.inl q1.1), some (.inl y2), some (.inr (.inl x20)), none, none], [.inr (.inl (wl ((wl (31 * x20)) + q22.1)))], q22.2) rfl ?_
              cases h
              exact er rfl
        · rw [if_neg hc] at h
          refine es (157, [some (.inr (.inr 0)), some (.inl q1.1), some (.inl y2), some (.inr (.inl (wl ((wl (31 * (wl ((wl (31 * (wl ((wl (31 * (wl ((wl (31 * (wl ((wl (31 * (wl ((wl (31 * (wl ((wl (31 * (wl ((wl (31 * 17)) + (Tx_length1 q1.2))))) + (Tx_length4 q1.2))))) + (q1.2 0 11))))) + (Bd_size q1.2))))) + y3)))) + q17.1)))) + q18.1)))) + q19.1)))), none, none], [], q19.2) (congrArg some (if_neg hc)) ?_
          refine ev_runs 2 (157, [some (.inr (.inr 0)), some (.inl q1.1), some (.inl y2), some (.inr (.inl (wl ((wl (31 * (wl ((wl (31 * (wl ((wl (31 * (wl ((wl (31 * (wl ((wl (31 * (wl ((wl (31 * (wl ((wl (31 * (wl ((wl (31 * 17)) + (Tx_length1 q1.2))))) + (Tx_length4 q1.2))))) + (q1.2 0 11))))) + (Bd_size q1.2))))) + y3)))) + q17.1)))) + q18.1)))) + q19.1)))), none, none], [], q19.2) (160, [some (.inr (.inr 0)), some (.inl q1.1), some (.inl y2), some (.inr (.inl (wl ((wl (31 * (wl ((wl (31 * (wl ((wl (31 * (wl ((wl (31 * (wl ((wl (31 * (wl ((wl (31 * (wl ((wl (31 * (wl ((wl (31 * 17)) + (Tx_length1 q1.2))))) + (Tx_length4 q1.2))))) + (q1.2 0 11))))) + (Bd_size q1.2))))) + y3)))) + q17.1)))) + q18.1)))) + q19.1)))), none, some (.inl 0)], [], q19.2) rfl ?_
          refine ev_le (L := [some (.inr (.inr 0)), some (.inl q1.1), some (.inl y2), some (.inr (.inl (wl ((wl (31 * (wl ((wl (31 * (wl ((wl (31 * (wl ((wl (31 * (wl ((wl (31 * (wl ((wl (31 * (wl ((wl (31 * (wl ((wl (31 * 17)) + (Tx_length1 q1.2))))) + (Tx_length4 q1.2))))) + (q1.2 0 11))))) + (Bd_size q1.2))))) + y3)))) + q17.1)))) + q18.1)))) + q19.1)))), none, some (.inl 0)]) (by simp [Lle]) ?_
          refine ev_Op_digest_l160 q1.1 y2 _ ?_ fu (wl ((wl (31 * (wl ((wl (31 * (wl ((wl (31 * (wl ((wl (31 * (wl ((wl (31 * (wl ((wl (31 * (wl ((wl (31 * (wl ((wl (31 * 17)) + (Tx_length1 q1.2))))) + (Tx_length4 q1.2))))) + (q1.2 0 11))))) + (Bd_size q1.2))))) + y3)))) + q17.1)))) + q18.1)))) + q19.1)) 0 q19.2 r g' h
          · intro x23 g24 r g' h
            refine ev_runs 2 (186, [some (.inr (.inr 0)), some (.inl q1.1), some (.inl y2), some (.inr (.inl x23)), none, none], [], g24) (190, [some (.inr (.inr 0)), some (.inl q1.1), some (.inl y2), some (.inr (.inl x23)), none, none], [.inr (.inr 78)], g24) rfl ?_
            obtain ⟨g25, hq, h⟩ := Option.bind_eq_some_iff.mp h
            refine ec 212 193 [.inr (.inr 78)] [] rfl (ev_Bd_compare g24 g25 hq) ?_
            show Ev 253 193 [some (.inr (.inr 0)), some (.inl q1.1), some (.inl y2), some (.inr (.inl x23)), none, none] [] g25 _ _
            refine ev_runs 2 (193, [some (.inr (.inr 0)), some (.inl q1.1), some (.inl y2), some (.inr (.inl x23)), none, none], [], g25) (196, [some (.inr (.inr 0)), some (.inl q1.1), some (.inl y2), some (.inr (.inl x23)), none, some (.inl 0)], [], g25) rfl ?_
            refine ev_le (L := [some (.inr (.inr 0)), some (.inl q1.1), some (.inl y2), some (.inr (.inl x23)), none, some (.inl 0)]) (by simp [Lle]) ?_
            refine ev_Op_digest_l196 q1.1 y2 _ ?_ fu x23 0 g25 r g' h
            · intro x26 g27 r g' h
              refine ev_runs 4 (233, [some (.inr (.inr 0)), some (.inl q1.1), some (.inl y2), some (.inr (.inl x26)), none, none], [], g27) (239, [some (.inr (.inr 0)), some (.inl q1.1), some (.inl y2), some (.inr (.inl x26)), none, none], [.inl y2, .inr (.inl (wl (31 * x26)))], g27) rfl ?_
              by_cases hc : y2 = 0
              · rw [if_pos hc] at h
                refine es (252, [some (.inr (.inr 0)), some (.inl q1.1), some (.inl y2), some (.inr (.inl x26)), none, none], [.inr (.inl (wl (31 * x26)))], g27) (congrArg some (if_pos hc)) ?_
                refine ev_runs 3 (252, [some (.inr (.inr 0)), some (.inl q1.1), some (.inl y2), some (.inr (.inl x26)), none, none], [.inr (.inl (wl (31 * x26)))], g27) (255, [some (.inr (.inr 0)), some (.inl q1.1), some (.inl y2), some (.inr (.inl x26)), none, none], [.inr (.inl (wl ((wl (31 * x26)) + q1.1)))], g27) rfl ?_
                cases h
                exact er rfl
              · rw [if_neg hc] at h
                refine es (242, [some (.inr (.inr 0)), some (.inl q1.1), some (.inl y2), some (.inr (.inl x26)), none, none], [.inr (.inl (wl (31 * x26)))], g27) (congrArg some (if_neg hc)) ?_
                refine ev_runs 2 (242, [some (.inr (.inr 0)), some (.inl q1.1), some (.inl y2), some (.inr (.inl x26)), none, none], [.inr (.inl (wl (31 * x26)))], g27) (246, [some (.inr (.inr 0)), some (.inl q1.1), some (.inl y2), some (.inr (.inl x26)), none, none], [.inr (.inr 78), .inr (.inl (wl (31 * x26)))], g27) rfl ?_
                obtain ⟨q28, hq, h⟩ := Option.bind_eq_some_iff.mp h
                refine ec 219 249 [.inr (.inr 78)] [.inr (.inl (wl (31 * x26)))] rfl (ev_Bd_firstOut g27 q28.1 q28.2 hq) ?_
                show Ev 253 249 [some (.inr (.inr 0)), some (.inl q1.1), some (.inl y2), some (.inr (.inl x26)), none, none] [.inl q28.1, .inr (.inl (wl (31 * x26)))] q28.2 _ _
                refine ev_runs 3 (249, [some (.inr (.inr 0)), some (.inl q1.1), some (.inl y2), some (.inr (.inl x26)), none, none], [.inl q28.1, .inr (.inl (wl (31 * x26)))], q28.2) (255, [some (.inr (.inr 0)), some (.inl q1.1), some (.inl y2), some (.inr (.inl x26)), none, none], [.inr (.inl (wl ((wl (31 * x26)) + q28.1)))], q28.2) rfl ?_
                cases h
                exact er rfl
    by_cases hc : y2 = 0
    · rw [if_pos hc] at hy3
      refine es (96, [some (.inr (.inr 0)), some (.inl q1.1), some (.inl y2), some (.inr (.inl (wl ((wl (31 * (wl ((wl (31 * (wl ((wl (31 * (wl ((wl (31 * 17)) + (Tx_length1 q1.2))))) + (Tx_length4 q1.2))))) + (q1.2 0 11))))) + (Bd_size q1.2))))), none, none], [.inr (.inl (wl (31 * (wl ((wl (31 * (wl ((wl (31 * (wl ((wl (31 * (wl ((wl (31 * 17)) + (Tx_length1 q1.2))))) + (Tx_length4 q1.2))))) + (q1.2 0 11))))) + (Bd_size q1.2))))))], q1.2) (congrArg some (if_pos hc)) ?_
      refine ev_runs 1 (96, [some (.inr (.inr 0)), some (.inl q1.1), some (.inl y2), some (.inr (.inl (wl ((wl (31 * (wl ((wl (31 * (wl ((wl (31 * (wl ((wl (31 * 17)) + (Tx_length1 q1.2))))) + (Tx_length4 q1.2))))) + (q1.2 0 11))))) + (Bd_size q1.2))))), none, none], [.inr (.inl (wl (31 * (wl ((wl (31 * (wl ((wl (31 * (wl ((wl (31 * (wl ((wl (31 * 17)) + (Tx_length1 q1.2))))) + (Tx_length4 q1.2))))) + (q1.2 0 11))))) + (Bd_size q1.2))))))], q1.2) (97, [some (.inr (.inr 0)), some (.inl q1.1), some (.inl y2), some (.inr (.inl (wl ((wl (31 * (wl ((wl (31 * (wl ((wl (31 * (wl ((wl (31 * 17)) + (Tx_length1 q1.2))))) + (Tx_length4 q1.2))))) + (q1.2 0 11))))) + (Bd_size q1.2))))), none, none], [.inl q1.1, .inr (.inl (wl (31 * (wl ((wl (31 * (wl ((wl (31 * (wl ((wl (31 * (wl ((wl (31 * 17)) + (Tx_length1 q1.2))))) + (Tx_length4 q1.2))))) + (q1.2 0 11))))) + (Bd_size q1.2))))))], q1.2) rfl ?_
      rw [hy3] at hjy3
      exact ev_le (L := [some (.inr (.inr 0)), some (.inl q1.1), some (.inl y2), none, none, none]) (by simp [Lle]) hjy3
    · rw [if_neg hc] at hy3
      refine es (86, [some (.inr (.inr 0)), some (.inl q1.1), some (.inl y2), some (.inr (.inl (wl ((wl (31 * (wl ((wl (31 * (wl ((wl (31 * (wl ((wl (31 * 17)) + (Tx_length1 q1.2))))) + (Tx_length4 q1.2))))) + (q1.2 0 11))))) + (Bd_size q1.2))))), none, none], [.inr (.inl (wl (31 * (wl ((wl (31 * (wl ((wl (31 * (wl ((wl (31 * (wl ((wl (31 * 17)) + (Tx_length1 q1.2))))) + (Tx_length4 q1.2))))) + (q1.2 0 11))))) + (Bd_size q1.2))))))], q1.2) (congrArg some (if_neg hc)) ?_
      refine ev_runs 2 (86, [some (.inr (.inr 0)), some (.inl q1.1), some (.inl y2), some (.inr (.inl (wl ((wl (31 * (wl ((wl (31 * (wl ((wl (31 * (wl ((wl (31 * 17)) + (Tx_length1 q1.2))))) + (Tx_length4 q1.2))))) + (q1.2 0 11))))) + (Bd_size q1.2))))), none, none], [.inr (.inl (wl (31 * (wl ((wl (31 * (wl ((wl (31 * (wl ((wl (31 * (wl ((wl (31 * 17)) + (Tx_length1 q1.2))))) + (Tx_length4 q1.2))))) + (q1.2 0 11))))) + (Bd_size q1.2))))))], q1.2) (90, [some (.inr (.inr 0)), some (.inl q1.1), some (.inl y2), some (.inr (.inl (wl ((wl (31 * (wl ((wl (31 * (wl ((wl (31 * (wl ((wl (31 * 17)) + (Tx_length1 q1.2))))) + (Tx_length4 q1.2))))) + (q1.2 0 11))))) + (Bd_size q1.2))))), none, none], [.inr (.inr 33), .inr (.inl (wl (31 * (wl ((wl (31 * (wl ((wl (31 * (wl ((wl (31 * (wl ((wl (31 * 17)) + (Tx_length1 q1.2))))) + (Tx_length4 q1.2))))) + (q1.2 0 11))))) + (Bd_size q1.2))))))], q1.2) rfl ?_
      refine ec 74 93 [.inr (.inr 33)] [.inr (.inl (wl (31 * (wl ((wl (31 * (wl ((wl (31 * (wl ((wl (31 * (wl ((wl (31 * 17)) + (Tx_length1 q1.2))))) + (Tx_length4 q1.2))))) + (q1.2 0 11))))) + (Bd_size q1.2))))))] rfl (ev_Hi_size q1.2 _ rfl) ?_
      show Ev 253 93 [some (.inr (.inr 0)), some (.inl q1.1), some (.inl y2), some (.inr (.inl (wl ((wl (31 * (wl ((wl (31 * (wl ((wl (31 * (wl ((wl (31 * 17)) + (Tx_length1 q1.2))))) + (Tx_length4 q1.2))))) + (q1.2 0 11))))) + (Bd_size q1.2))))), none, none] [.inl (Hi_size q1.2), .inr (.inl (wl (31 * (wl ((wl (31 * (wl ((wl (31 * (wl ((wl (31 * (wl ((wl (31 * 17)) + (Tx_length1 q1.2))))) + (Tx_length4 q1.2))))) + (q1.2 0 11))))) + (Bd_size q1.2))))))] q1.2 _ _
      refine ev_runs 1 (93, [some (.inr (.inr 0)), some (.inl q1.1), some (.inl y2), some (.inr (.inl (wl ((wl (31 * (wl ((wl (31 * (wl ((wl (31 * (wl ((wl (31 * 17)) + (Tx_length1 q1.2))))) + (Tx_length4 q1.2))))) + (q1.2 0 11))))) + (Bd_size q1.2))))), none, none], [.inl (Hi_size q1.2), .inr (.inl (wl (31 * (wl ((wl (31 * (wl ((wl (31 * (wl ((wl (31 * (wl ((wl (31 * 17)) + (Tx_length1 q1.2))))) + (Tx_length4 q1.2))))) + (q1.2 0 11))))) + (Bd_size q1.2))))))], q1.2) (97, [some (.inr (.inr 0)), some (.inl q1.1), some (.inl y2), some (.inr (.inl (wl ((wl (31 * (wl ((wl (31 * (wl ((wl (31 * (wl ((wl (31 * 17)) + (Tx_length1 q1.2))))) + (Tx_length4 q1.2))))) + (q1.2 0 11))))) + (Bd_size q1.2))))), none, none], [.inl (Hi_size q1.2), .inr (.inl (wl (31 * (wl ((wl (31 * (wl ((wl (31 * (wl ((wl (31 * (wl ((wl (31 * 17)) + (Tx_length1 q1.2))))) + (Tx_length4 q1.2))))) + (q1.2 0 11))))) + (Bd_size q1.2))))))], q1.2) rfl ?_
      rw [hy3] at hjy3
      exact ev_le (L := [some (.inr (.inr 0)), some (.inl q1.1), some (.inl y2), none, none, none]) (by simp [Lle]) hjy3
  by_cases hc : ¬ q1.1 = 0
  · rw [if_pos hc] at hy2
    refine es (14, [some (.inr (.inr 0)), some (.inl q1.1), none, none, none, none], [], q1.2) (congrArg some (if_pos hc)) ?_
    refine ev_runs 1 (14, [some (.inr (.inr 0)), some (.inl q1.1), none, none, none, none], [], q1.2) (15, [some (.inr (.inr 0)), some (.inl q1.1), none, none, none, none], [.inl 0], q1.2) rfl ?_
    rw [hy2] at hjy2
    exact ev_le (L := [some (.inr (.inr 0)), some (.inl q1.1), none, none, none, none]) (by simp [Lle]) hjy2
  · rw [if_neg hc] at hy2
    refine es (10, [some (.inr (.inr 0)), some (.inl q1.1), none, none, none, none], [], q1.2) (congrArg some (if_neg hc)) ?_
    refine ev_runs 2 (10, [some (.inr (.inr 0)), some (.inl q1.1), none, none, none, none], [], q1.2) (15, [some (.inr (.inr 0)), some (.inl q1.1), none, none, none, none], [.inl 1], q1.2) rfl ?_
    rw [hy2] at hjy2
    exact ev_le (L := [some (.inr (.inr 0)), some (.inl q1.1), none, none, none, none]) (by simp [Lle]) hjy2
