/-! The small machine does what the functions say. Printed by wip/gen/gen_parts.py. -/
set_option maxRecDepth 100000 in
set_option maxHeartbeats 4000000 in
theorem ev_Md_ask_l64 (c3 : Int) (K64_103 : Int → Gx → Option (Int × Gx)) (hK64_103 : ∀ (x4 : Int) (g : Gx) (r : Int) (g' : Gx), K64_103 x4 g = some (r, g') → Ev 231 103 [none, none, none, none, some (.inl x4), none] [] g (some (.inl r)) g') : ∀ (n64 : Nat) (v4 v5 : Int) (g : Gx) (r : Int) (g' : Gx), Md_ask_l64 c3 K64_103 n64 v4 v5 g = some (r, g') → Ev 231 64 [some (.inr (.inr 92)), none, none, some (.inl c3), some (.inl v4), some (.inl v5)] [] g (some (.inl r)) g' := by
  intro n64
  induction n64 with
  | zero => intro v4 v5 g r g' h; cases h
  | succ n64 ih64 =>
    intro v4 v5 g r g' h
    rw [Md_ask_l64] at h
    refine ev_runs 2 (64, [some (.inr (.inr 92)), none, none, some (.inl c3), some (.inl v4), some (.inl v5)], [], g) (68, [some (.inr (.inr 92)), none, none, some (.inl c3), some (.inl v4), some (.inl v5)], [.inl 6, .inl v5], g) rfl ?_
    by_cases hc : 6 ≤ v5
    · rw [if_pos hc] at h
      refine es (103, [some (.inr (.inr 92)), none, none, some (.inl c3), some (.inl v4), some (.inl v5)], [], g) (congrArg some (if_pos hc)) ?_
      exact ev_le (L := [none, none, none, none, some (.inl v4), none]) (by simp [Lle]) (hK64_103 v4 g r g' h)
    · rw [if_neg hc] at h
      refine es (71, [some (.inr (.inr 92)), none, none, some (.inl c3), some (.inl v4), some (.inl v5)], [], g) (congrArg some (if_neg hc)) ?_
      refine ev_runs 3 (71, [some (.inr (.inr 92)), none, none, some (.inl c3), some (.inl v4), some (.inl v5)], [], g) (75, [some (.inr (.inr 92)), none, none, some (.inl c3), some (.inl v4), some (.inl v5)], [.inl c3, .inl v5, .inr (.inr 92)], g) rfl ?_
      obtain ⟨q7, hq, h⟩ := Option.bind_eq_some_iff.mp h
      refine ec 112 78 [.inr (.inr 92), .inl v5, .inl c3] [] rfl (ev_Md_looksOf v5 c3 g q7.1 q7.2 hq) ?_
      show Ev 231 78 [some (.inr (.inr 92)), none, none, some (.inl c3), some (.inl v4), some (.inl v5)] [.inl q7.1] q7.2 _ _
      refine ev_runs 3 (78, [some (.inr (.inr 92)), none, none, some (.inl c3), some (.inl v4), some (.inl v5)], [.inl q7.1], q7.2) (82, [some (.inr (.inr 92)), none, none, some (.inl c3), some (.inl v4), some (.inl v5)], [.inl c3, .inl v4, .inr (.inr 92), .inl q7.1], q7.2) rfl ?_
      obtain ⟨q8, hq, h⟩ := Option.bind_eq_some_iff.mp h
      refine ec 112 85 [.inr (.inr 92), .inl v4, .inl c3] [.inl q7.1] rfl (ev_Md_looksOf v4 c3 q7.2 q8.1 q8.2 hq) ?_
      show Ev 231 85 [some (.inr (.inr 92)), none, none, some (.inl c3), some (.inl v4), some (.inl v5)] [.inl q8.1, .inl q7.1] q8.2 _ _
      by_cases hc : q7.1 ≤ q8.1
      · rw [if_pos hc] at h
        refine es (93, [some (.inr (.inr 92)), none, none, some (.inl c3), some (.inl v4), some (.inl v5)], [], q8.2) (congrArg some (if_pos hc)) ?_
        refine ev_runs 4 (93, [some (.inr (.inr 92)), none, none, some (.inl c3), some (.inl v4), some (.inl v5)], [], q8.2) (64, [some (.inr (.inr 92)), none, none, some (.inl c3), some (.inl v4), some (.inl (wr (v5 + 1)))], [], q8.2) rfl ?_
        exact ev_le (L := [some (.inr (.inr 92)), none, none, some (.inl c3), some (.inl v4), some (.inl (wr (v5 + 1)))]) (by simp [Lle]) (ih64 v4 (wr (v5 + 1)) q8.2 r g' h)
      · rw [if_neg hc] at h
        refine es (88, [some (.inr (.inr 92)), none, none, some (.inl c3), some (.inl v4), some (.inl v5)], [], q8.2) (congrArg some (if_neg hc)) ?_
        refine ev_runs 5 (88, [some (.inr (.inr 92)), none, none, some (.inl c3), some (.inl v4), some (.inl v5)], [], q8.2) (64, [some (.inr (.inr 92)), none, none, some (.inl c3), some (.inl v5), some (.inl (wr (v5 + 1)))], [], q8.2) rfl ?_
        exact ev_le (L := [some (.inr (.inr 92)), none, none, some (.inl c3), some (.inl v5), some (.inl (wr (v5 + 1)))]) (by simp [Lle]) (ih64 v5 (wr (v5 + 1)) q8.2 r g' h)
set_option maxRecDepth 100000 in
set_option maxHeartbeats 4000000 in
theorem ev_Md_ask (g : Gx) (r : Int) (g' : Gx) (h : Md_ask g = some (r, g')) : Ev 231 0 [some (.inr (.inr 92)), none, none, none, none, none] [] g (some (.inl r)) g' := by
  rw [Md_ask] at h
  refine ev_runs 1 (0, [some (.inr (.inr 92)), none, none, none, none, none], [], g) (1, [some (.inr (.inr 92)), none, none, none, none, none], [.inr (.inr 92)], g) rfl ?_
  obtain ⟨q1, hq, h⟩ := Option.bind_eq_some_iff.mp h
  refine ec 81 4 [.inr (.inr 92)] [] rfl (ev_Md_without g q1.1 q1.2 hq) ?_
  show Ev 231 4 [some (.inr (.inr 92)), none, none, none, none, none] [.inl q1.1] q1.2 _ _
  refine ev_runs 2 (4, [some (.inr (.inr 92)), none, none, none, none, none], [.inl q1.1], q1.2) (6, [some (.inr (.inr 92)), some (.inl q1.1), none, none, none, none], [.inl q1.1], q1.2) rfl ?_
  by_cases hc : q1.1 = 0
  · rw [if_pos hc] at h
    refine es (21, [some (.inr (.inr 92)), some (.inl q1.1), none, none, none, none], [], q1.2) (congrArg some (if_pos hc)) ?_
    refine ev_runs 1 (21, [some (.inr (.inr 92)), some (.inl q1.1), none, none, none, none], [], q1.2) (22, [some (.inr (.inr 92)), some (.inl q1.1), none, none, none, none], [.inr (.inr 92)], q1.2) rfl ?_
    obtain ⟨q2, hq, h⟩ := Option.bind_eq_some_iff.mp h
    refine ec 226 25 [.inr (.inr 92)] [] rfl (ev_Md_outOf q1.2 q2.1 q2.2 hq) ?_
    show Ev 231 25 [some (.inr (.inr 92)), some (.inl q1.1), none, none, none, none] [.inl q2.1] q2.2 _ _
    refine ev_runs 4 (25, [some (.inr (.inr 92)), some (.inl q1.1), none, none, none, none], [.inl q2.1], q2.2) (29, [some (.inr (.inr 92)), some (.inl q1.1), some (.inl q2.1), none, none, none], [.inl (-1), .inl q2.1, .inr (.inr 92)], q2.2) rfl ?_
    obtain ⟨y3, hy3, h⟩ := lett_inv h
    have hjy3 : Ev 231 40 [some (.inr (.inr 92)), none, none, none, none, none] [.inl y3, .inr (.inr 92)] q2.2 (some (.inl r)) g' := by
      obtain ⟨q4, hq, h⟩ := Option.bind_eq_some_iff.mp h
      refine ec 220 43 [.inr (.inr 92), .inl y3] [] rfl (ev_Md_leftBy y3 q2.2 q4.1 q4.2 hq) ?_
      show Ev 231 43 [some (.inr (.inr 92)), none, none, none, none, none] [.inl q4.1] q4.2 _ _
      refine ev_runs 2 (43, [some (.inr (.inr 92)), none, none, none, none, none], [.inl q4.1], q4.2) (45, [some (.inr (.inr 92)), none, none, some (.inl q4.1), none, none], [.inl q4.1], q4.2) rfl ?_
      obtain ⟨q5, hq, h⟩ := Option.bind_eq_some_iff.mp h
      refine ec 137 48 [.inl q4.1] [] rfl (ev_Md_ones q4.1 q4.2 q5.1 q5.2 hq) ?_
      show Ev 231 48 [some (.inr (.inr 92)), none, none, some (.inl q4.1), none, none] [.inl q5.1] q5.2 _ _
      refine ev_runs 1 (48, [some (.inr (.inr 92)), none, none, some (.inl q4.1), none, none], [.inl q5.1], q5.2) (49, [some (.inr (.inr 92)), none, none, some (.inl q4.1), none, none], [.inl 1, .inl q5.1], q5.2) rfl ?_
      by_cases hc : ¬ q5.1 = 1
      · rw [if_pos hc] at h
        refine es (54, [some (.inr (.inr 92)), none, none, some (.inl q4.1), none, none], [], q5.2) (congrArg some (if_pos hc)) ?_
        refine ev_runs 1 (54, [some (.inr (.inr 92)), none, none, some (.inl q4.1), none, none], [], q5.2) (55, [some (.inr (.inr 92)), none, none, some (.inl q4.1), none, none], [.inr (.inr 92)], q5.2) rfl ?_
        obtain ⟨g6, hq, h⟩ := Option.bind_eq_some_iff.mp h
        refine ec 101 58 [.inr (.inr 92)] [] rfl (ev_Md_findLooks q5.2 g6 hq) ?_
        show Ev 231 58 [some (.inr (.inr 92)), none, none, some (.inl q4.1), none, none] [] g6 _ _
        refine ev_runs 4 (58, [some (.inr (.inr 92)), none, none, some (.inl q4.1), none, none], [], g6) (64, [some (.inr (.inr 92)), none, none, some (.inl q4.1), some (.inl 0), some (.inl 1)], [], g6) rfl ?_
        refine ev_le (L := [some (.inr (.inr 92)), none, none, some (.inl q4.1), some (.inl 0), some (.inl 1)]) (by simp [Lle]) ?_
        refine ev_Md_ask_l64 q4.1 _ ?_ fu 0 1 g6 r g' h
        · intro x9 g10 r g' h
          refine ev_runs 1 (103, [none, none, none, none, some (.inl x9), none], [], g10) (105, [none, none, none, none, some (.inl x9), none], [.inl x9], g10) rfl ?_
          cases h
          exact er rfl
      · rw [if_neg hc] at h
        refine es (52, [some (.inr (.inr 92)), none, none, some (.inl q4.1), none, none], [], q5.2) (congrArg some (if_neg hc)) ?_
        refine ev_runs 1 (52, [some (.inr (.inr 92)), none, none, some (.inl q4.1), none, none], [], q5.2) (53, [some (.inr (.inr 92)), none, none, some (.inl q4.1), none, none], [.inl (-1)], q5.2) rfl ?_
        cases h
        exact er rfl
    by_cases hc : ¬ q2.1 = (-1)
    · rw [if_pos hc] at hy3
      refine es (39, [some (.inr (.inr 92)), some (.inl q1.1), some (.inl q2.1), none, none, none], [.inr (.inr 92)], q2.2) (congrArg some (if_pos hc)) ?_
      refine ev_runs 1 (39, [some (.inr (.inr 92)), some (.inl q1.1), some (.inl q2.1), none, none, none], [.inr (.inr 92)], q2.2) (40, [some (.inr (.inr 92)), some (.inl q1.1), some (.inl q2.1), none, none, none], [.inl q2.1, .inr (.inr 92)], q2.2) rfl ?_
      rw [hy3] at hjy3
      exact ev_le (L := [some (.inr (.inr 92)), none, none, none, none, none]) (by simp [Lle]) hjy3
    · rw [if_neg hc] at hy3
      refine es (32, [some (.inr (.inr 92)), some (.inl q1.1), some (.inl q2.1), none, none, none], [.inr (.inr 92)], q2.2) (congrArg some (if_neg hc)) ?_
      refine ev_runs 3 (32, [some (.inr (.inr 92)), some (.inl q1.1), some (.inl q2.1), none, none, none], [.inr (.inr 92)], q2.2) (40, [some (.inr (.inr 92)), some (.inl q1.1), some (.inl q2.1), none, none, none], [.inl (q2.2 92 48), .inr (.inr 92)], q2.2) rfl ?_
      rw [hy3] at hjy3
      exact ev_le (L := [some (.inr (.inr 92)), none, none, none, none, none]) (by simp [Lle]) hjy3
  · rw [if_neg hc] at h
    refine es (9, [some (.inr (.inr 92)), some (.inl q1.1), none, none, none, none], [], q1.2) (congrArg some (if_neg hc)) ?_
    refine ev_runs 2 (9, [some (.inr (.inr 92)), some (.inl q1.1), none, none, none, none], [], q1.2) (12, [some (.inr (.inr 92)), some (.inl q1.1), none, none, none, none], [.inl (-4), .inl q1.1], q1.2) rfl ?_
    by_cases hc : ¬ q1.1 = (-4)
    · rw [if_pos hc] at h
      refine es (19, [some (.inr (.inr 92)), some (.inl q1.1), none, none, none, none], [], q1.2) (congrArg some (if_pos hc)) ?_
      refine ev_runs 1 (19, [some (.inr (.inr 92)), some (.inl q1.1), none, none, none, none], [], q1.2) (20, [some (.inr (.inr 92)), some (.inl q1.1), none, none, none, none], [.inl q1.1], q1.2) rfl ?_
      cases h
      exact er rfl
    · rw [if_neg hc] at h
      refine es (15, [some (.inr (.inr 92)), some (.inl q1.1), none, none, none, none], [], q1.2) (congrArg some (if_neg hc)) ?_
      refine ev_runs 2 (15, [some (.inr (.inr 92)), some (.inl q1.1), none, none, none, none], [], q1.2) (20, [some (.inr (.inr 92)), some (.inl q1.1), none, none, none, none], [.inl (-1)], q1.2) rfl ?_
      cases h
      exact er rfl
set_option maxRecDepth 100000 in
set_option maxHeartbeats 4000000 in
theorem ev_Op_isForm (a0 : Int) (g : Gx) (r : Int) (h : Op_isForm a0 = r) : Ev 232 0 [some (.inl a0)] [] g (some (.inl r)) g := by
  rw [Op_isForm] at h
  refine ev_runs 1 (0, [some (.inl a0)], [], g) (1, [some (.inl a0)], [.inl a0], g) rfl ?_
  by_cases hc : a0 < 0
  · rw [if_pos hc] at h
    refine es (13, [some (.inl a0)], [], g) (congrArg some (if_pos hc)) ?_
    refine ev_runs 1 (13, [some (.inl a0)], [], g) (14, [some (.inl a0)], [.inl 0], g) rfl ?_
    subst h
    exact er rfl
  · rw [if_neg hc] at h
    refine es (4, [some (.inl a0)], [], g) (congrArg some (if_neg hc)) ?_
    refine ev_runs 2 (4, [some (.inl a0)], [], g) (6, [some (.inl a0)], [.inl 3, .inl a0], g) rfl ?_
    by_cases hc : 3 ≤ a0
    · rw [if_pos hc] at h
      refine es (13, [some (.inl a0)], [], g) (congrArg some (if_pos hc)) ?_
      refine ev_runs 1 (13, [some (.inl a0)], [], g) (14, [some (.inl a0)], [.inl 0], g) rfl ?_
      subst h
      exact er rfl
    · rw [if_neg hc] at h
      refine es (9, [some (.inl a0)], [], g) (congrArg some (if_neg hc)) ?_
      refine ev_runs 2 (9, [some (.inl a0)], [], g) (14, [some (.inl a0)], [.inl 1], g) rfl ?_
      subst h
      exact er rfl
set_option maxRecDepth 100000 in
set_option maxHeartbeats 4000000 in
theorem ev_Sh_renew_l21 (c1 : Int) (c3 : Int) (K21_48 : Gx → Option Gx) (hK21_48 : ∀ (g : Gx) (g' : Gx), K21_48 g = some g' → Ev 233 48 [none, none, none, none, none] [] g none g') : ∀ (n21 : Nat) (v4 : Int) (g : Gx) (g' : Gx), Sh_renew_l21 c1 c3 K21_48 n21 v4 g = some g' → Ev 233 21 [some (.inr (.inr 85)), some (.inl c1), none, some (.inl c3), some (.inl v4)] [] g none g' := by
  intro n21
  induction n21 with
  | zero => intro v4 g g' h; cases h
  | succ n21 ih21 =>
    intro v4 g g' h
    rw [Sh_renew_l21] at h
    refine ev_runs 2 (21, [some (.inr (.inr 85)), some (.inl c1), none, some (.inl c3), some (.inl v4)], [], g) (24, [some (.inr (.inr 85)), some (.inl c1), none, some (.inl c3), some (.inl v4)], [.inl c3, .inl v4], g) rfl ?_
    by_cases hc : c3 ≤ v4
    · rw [if_pos hc] at h
      refine es (48, [some (.inr (.inr 85)), some (.inl c1), none, some (.inl c3), some (.inl v4)], [], g) (congrArg some (if_pos hc)) ?_
      exact ev_le (L := [none, none, none, none, none]) (by simp [Lle]) (hK21_48 g g' h)
    · rw [if_neg hc] at h
      refine es (27, [some (.inr (.inr 85)), some (.inl c1), none, some (.inl c3), some (.inl v4)], [], g) (congrArg some (if_neg hc)) ?_
      refine ev_runs 8 (27, [some (.inr (.inr 85)), some (.inl c1), none, some (.inl c3), some (.inl v4)], [], g) (39, [some (.inr (.inr 85)), some (.inl c1), none, some (.inl c3), some (.inl v4)], [.inl 0, .inl (wr ((wr (c1 * 60)) + v4)), .inr (.inr 86)], g) rfl ?_
      refine ec 0 42 [.inr (.inr 86), .inl (wr ((wr (c1 * 60)) + v4)), .inl 0] [] rfl (ev_Row_set rfl rfl _ _ _) ?_
      show Ev 233 42 [some (.inr (.inr 85)), some (.inl c1), none, some (.inl c3), some (.inl v4)] [] (rset g 87 240 (wr ((wr (c1 * 60)) + v4)) 0) _ _
      refine ev_runs 2 (42, [some (.inr (.inr 85)), some (.inl c1), none, some (.inl c3), some (.inl v4)], [], (rset g 87 240 (wr ((wr (c1 * 60)) + v4)) 0)) (21, [some (.inr (.inr 85)), some (.inl c1), none, some (.inl c3), some (.inl (wr (v4 + 1)))], [], (rset g 87 240 (wr ((wr (c1 * 60)) + v4)) 0)) rfl ?_
      exact ev_le (L := [some (.inr (.inr 85)), some (.inl c1), none, some (.inl c3), some (.inl (wr (v4 + 1)))]) (by simp [Lle]) (ih21 (wr (v4 + 1)) (rset g 87 240 (wr ((wr (c1 * 60)) + v4)) 0) g' h)
set_option maxRecDepth 100000 in
set_option maxHeartbeats 4000000 in
theorem ev_Sh_renew (a1 a2 a3 : Int) (g : Gx) (g' : Gx) (h : Sh_renew a1 a2 a3 g = some g') : Ev 233 0 [some (.inr (.inr 85)), some (.inl a1), some (.inl a2), some (.inl a3), none] [] g none g' := by
  rw [Sh_renew] at h
  refine ev_runs 4 (0, [some (.inr (.inr 85)), some (.inl a1), some (.inl a2), some (.inl a3), none], [], g) (6, [some (.inr (.inr 85)), some (.inl a1), some (.inl a2), some (.inl a3), none], [.inl a2, .inl a1, .inr (.inr 88)], g) rfl ?_
  refine ec 0 9 [.inr (.inr 88), .inl a1, .inl a2] [] rfl (ev_Row_set rfl rfl _ _ _) ?_
  show Ev 233 9 [some (.inr (.inr 85)), some (.inl a1), some (.inl a2), some (.inl a3), none] [] (rset g 89 4 a1 a2) _ _
  refine ev_runs 4 (9, [some (.inr (.inr 85)), some (.inl a1), some (.inl a2), some (.inl a3), none], [], (rset g 89 4 a1 a2)) (15, [some (.inr (.inr 85)), some (.inl a1), some (.inl a2), some (.inl a3), none], [.inl a3, .inl a1, .inr (.inr 90)], (rset g 89 4 a1 a2)) rfl ?_
  refine ec 0 18 [.inr (.inr 90), .inl a1, .inl a3] [] rfl (ev_Row_set rfl rfl _ _ _) ?_
  show Ev 233 18 [some (.inr (.inr 85)), some (.inl a1), some (.inl a2), some (.inl a3), none] [] (rset (rset g 89 4 a1 a2) 91 4 a1 a3) _ _
  refine ev_runs 2 (18, [some (.inr (.inr 85)), some (.inl a1), some (.inl a2), some (.inl a3), none], [], (rset (rset g 89 4 a1 a2) 91 4 a1 a3)) (21, [some (.inr (.inr 85)), some (.inl a1), some (.inl a2), some (.inl a3), some (.inl 0)], [], (rset (rset g 89 4 a1 a2) 91 4 a1 a3)) rfl ?_
  refine ev_le (L := [some (.inr (.inr 85)), some (.inl a1), none, some (.inl a3), some (.inl 0)]) (by simp [Lle]) ?_
  refine ev_Sh_renew_l21 a1 a3 _ ?_ fu 0 (rset (rset g 89 4 a1 a2) 91 4 a1 a3) g' h
  · intro g1 g' h
    cases h
    exact er rfl
set_option maxRecDepth 100000 in
set_option maxHeartbeats 4000000 in
theorem ev_Op_sheet (a1 a2 a3 : Int) (g : Gx) (r : Int) (g' : Gx) (h : Op_sheet a1 a2 a3 g = some (r, g')) : Ev 234 0 [some (.inr (.inr 0)), some (.inl a1), some (.inl a2), some (.inl a3)] [] g (some (.inl r)) g' := by
  rw [Op_sheet] at h
  refine ev_runs 1 (0, [some (.inr (.inr 0)), some (.inl a1), some (.inl a2), some (.inl a3)], [], g) (1, [some (.inr (.inr 0)), some (.inl a1), some (.inl a2), some (.inl a3)], [.inl a1], g) rfl ?_
  refine ec 200 4 [.inl a1] [] rfl (ev_Op_isSheet a1 g _ rfl) ?_
  show Ev 234 4 [some (.inr (.inr 0)), some (.inl a1), some (.inl a2), some (.inl a3)] [.inl (Op_isSheet a1)] g _ _
  by_cases hc : (Op_isSheet a1) = 0
  · rw [if_pos hc] at h
    refine es (20, [some (.inr (.inr 0)), some (.inl a1), some (.inl a2), some (.inl a3)], [], g) (congrArg some (if_pos hc)) ?_
    refine ev_runs 1 (20, [some (.inr (.inr 0)), some (.inl a1), some (.inl a2), some (.inl a3)], [], g) (22, [some (.inr (.inr 0)), some (.inl a1), some (.inl a2), some (.inl a3)], [.inl (-2)], g) rfl ?_
    cases h
    exact er rfl
  · rw [if_neg hc] at h
    refine es (7, [some (.inr (.inr 0)), some (.inl a1), some (.inl a2), some (.inl a3)], [], g) (congrArg some (if_neg hc)) ?_
    refine ev_runs 1 (7, [some (.inr (.inr 0)), some (.inl a1), some (.inl a2), some (.inl a3)], [], g) (8, [some (.inr (.inr 0)), some (.inl a1), some (.inl a2), some (.inl a3)], [.inl a2], g) rfl ?_
    refine ec 232 11 [.inl a2] [] rfl (ev_Op_isForm a2 g _ rfl) ?_
    show Ev 234 11 [some (.inr (.inr 0)), some (.inl a1), some (.inl a2), some (.inl a3)] [.inl (Op_isForm a2)] g _ _
    by_cases hc : (Op_isForm a2) = 0
    · rw [if_pos hc] at h
      refine es (20, [some (.inr (.inr 0)), some (.inl a1), some (.inl a2), some (.inl a3)], [], g) (congrArg some (if_pos hc)) ?_
      refine ev_runs 1 (20, [some (.inr (.inr 0)), some (.inl a1), some (.inl a2), some (.inl a3)], [], g) (22, [some (.inr (.inr 0)), some (.inl a1), some (.inl a2), some (.inl a3)], [.inl (-2)], g) rfl ?_
      cases h
      exact er rfl
    · rw [if_neg hc] at h
      refine es (14, [some (.inr (.inr 0)), some (.inl a1), some (.inl a2), some (.inl a3)], [], g) (congrArg some (if_neg hc)) ?_
      refine ev_runs 2 (14, [some (.inr (.inr 0)), some (.inl a1), some (.inl a2), some (.inl a3)], [], g) (17, [some (.inr (.inr 0)), some (.inl a1), some (.inl a2), some (.inl a3)], [.inl 60, .inl a3], g) rfl ?_
      by_cases hc : a3 ≤ 60
      · rw [if_pos hc] at h
        refine es (23, [some (.inr (.inr 0)), some (.inl a1), some (.inl a2), some (.inl a3)], [], g) (congrArg some (if_pos hc)) ?_
        refine ev_runs 1 (23, [some (.inr (.inr 0)), some (.inl a1), some (.inl a2), some (.inl a3)], [], g) (24, [some (.inr (.inr 0)), some (.inl a1), some (.inl a2), some (.inl a3)], [.inl a3], g) rfl ?_
        by_cases hc : 0 ≤ a3
        · rw [if_pos hc] at h
          refine es (33, [some (.inr (.inr 0)), some (.inl a1), some (.inl a2), some (.inl a3)], [], g) (congrArg some (if_pos hc)) ?_
          refine ev_runs 5 (33, [some (.inr (.inr 0)), some (.inl a1), some (.inl a2), some (.inl a3)], [], g) (40, [some (.inr (.inr 0)), some (.inl a1), some (.inl a2), some (.inl a3)], [.inl a3, .inl a2, .inl a1, .inr (.inr 85)], g) rfl ?_
          obtain ⟨g1, hq, h⟩ := Option.bind_eq_some_iff.mp h
          refine ec 233 43 [.inr (.inr 85), .inl a1, .inl a2, .inl a3] [] rfl (ev_Sh_renew a1 a2 a3 g g1 hq) ?_
          show Ev 234 43 [some (.inr (.inr 0)), some (.inl a1), some (.inl a2), some (.inl a3)] [] g1 _ _
          refine ev_runs 1 (43, [some (.inr (.inr 0)), some (.inl a1), some (.inl a2), some (.inl a3)], [], g1) (44, [some (.inr (.inr 0)), some (.inl a1), some (.inl a2), some (.inl a3)], [.inl a3], g1) rfl ?_
          cases h
          exact er rfl
        · rw [if_neg hc] at h
          refine es (27, [some (.inr (.inr 0)), some (.inl a1), some (.inl a2), some (.inl a3)], [], g) (congrArg some (if_neg hc)) ?_
          refine ev_runs 2 (27, [some (.inr (.inr 0)), some (.inl a1), some (.inl a2), some (.inl a3)], [], g) (29, [some (.inr (.inr 0)), some (.inl a1), some (.inl a2), some (.inl a3)], [.inl 5, .inr (.inr 0)], g) rfl ?_
          obtain ⟨q2, hq, h⟩ := lett_inv h
          refine ec 202 32 [.inr (.inr 0), .inl 5] [] rfl (ev_Op_found 5 g q2.1 q2.2 hq.symm) ?_
          show Ev 234 32 [some (.inr (.inr 0)), some (.inl a1), some (.inl a2), some (.inl a3)] [.inl q2.1] q2.2 _ _
          cases h
          exact er rfl
      · rw [if_neg hc] at h
        refine es (20, [some (.inr (.inr 0)), some (.inl a1), some (.inl a2), some (.inl a3)], [], g) (congrArg some (if_neg hc)) ?_
        refine ev_runs 1 (20, [some (.inr (.inr 0)), some (.inl a1), some (.inl a2), some (.inl a3)], [], g) (22, [some (.inr (.inr 0)), some (.inl a1), some (.inl a2), some (.inl a3)], [.inl (-2)], g) rfl ?_
        cases h
        exact er rfl
set_option maxRecDepth 100000 in
set_option maxHeartbeats 4000000 in
theorem ev_Md_sheet_l55 (c1 : Int) (c3 : Int) (K55_80 : Gx → Option (Int × Gx)) (hK55_80 : ∀ (g : Gx) (r : Int) (g' : Gx), K55_80 g = some (r, g') → Ev 235 80 [none, none, none, some (.inl c3), none] [] g (some (.inl r)) g') : ∀ (n55 : Nat) (v4 : Int) (g : Gx) (r : Int) (g' : Gx), Md_sheet_l55 c1 c3 K55_80 n55 v4 g = some (r, g') → Ev 235 55 [some (.inr (.inr 92)), some (.inl c1), none, some (.inl c3), some (.inl v4)] [] g (some (.inl r)) g' := by
  intro n55
  induction n55 with
  | zero => intro v4 g r g' h; cases h
  | succ n55 ih55 =>
    intro v4 g r g' h
    rw [Md_sheet_l55] at h
    refine ev_runs 2 (55, [some (.inr (.inr 92)), some (.inl c1), none, some (.inl c3), some (.inl v4)], [], g) (58, [some (.inr (.inr 92)), some (.inl c1), none, some (.inl c3), some (.inl v4)], [.inl c3, .inl v4], g) rfl ?_
    by_cases hc : c3 ≤ v4
    · rw [if_pos hc] at h
      refine es (80, [some (.inr (.inr 92)), some (.inl c1), none, some (.inl c3), some (.inl v4)], [], g) (congrArg some (if_pos hc)) ?_
      exact ev_le (L := [none, none, none, some (.inl c3), none]) (by simp [Lle]) (hK55_80 g r g' h)
    · rw [if_neg hc] at h
      refine es (61, [some (.inr (.inr 92)), some (.inl c1), none, some (.inl c3), some (.inl v4)], [], g) (congrArg some (if_neg hc)) ?_
      refine ev_runs 8 (61, [some (.inr (.inr 92)), some (.inl c1), none, some (.inl c3), some (.inl v4)], [], g) (73, [some (.inr (.inr 92)), some (.inl c1), none, some (.inl c3), some (.inl v4)], [.inl 0, .inl (wr ((wr (60 * c1)) + v4)), .inr (.inr 95)], g) rfl ?_
      by_cases hc : 0 ≤ (wr ((wr (60 * c1)) + v4)) ∧ (wr ((wr (60 * c1)) + v4)) < 240
      · rw [if_pos hc] at h
        refine es (74, [some (.inr (.inr 92)), some (.inl c1), none, some (.inl c3), some (.inl v4)], [], (gset g 95 ((wr ((wr (60 * c1)) + v4)).toNat) 0)) (if_pos hc) ?_
        refine ev_runs 2 (74, [some (.inr (.inr 92)), some (.inl c1), none, some (.inl c3), some (.inl v4)], [], (gset g 95 ((wr ((wr (60 * c1)) + v4)).toNat) 0)) (55, [some (.inr (.inr 92)), some (.inl c1), none, some (.inl c3), some (.inl (wr (v4 + 1)))], [], (gset g 95 ((wr ((wr (60 * c1)) + v4)).toNat) 0)) rfl ?_
        exact ev_le (L := [some (.inr (.inr 92)), some (.inl c1), none, some (.inl c3), some (.inl (wr (v4 + 1)))]) (by simp [Lle]) (ih55 (wr (v4 + 1)) (gset g 95 ((wr ((wr (60 * c1)) + v4)).toNat) 0) r g' h)
      · rw [if_neg hc] at h; cases h
set_option maxRecDepth 100000 in
set_option maxHeartbeats 4000000 in
theorem ev_Md_sheet (a1 a2 a3 : Int) (g : Gx) (r : Int) (g' : Gx) (h : Md_sheet a1 a2 a3 g = some (r, g')) : Ev 235 0 [some (.inr (.inr 92)), some (.inl a1), some (.inl a2), some (.inl a3), none] [] g (some (.inl r)) g' := by
  rw [Md_sheet] at h
  refine ev_runs 1 (0, [some (.inr (.inr 92)), some (.inl a1), some (.inl a2), some (.inl a3), none], [], g) (1, [some (.inr (.inr 92)), some (.inl a1), some (.inl a2), some (.inl a3), none], [.inl a1], g) rfl ?_
  refine ec 208 4 [.inl a1] [] rfl (ev_Md_isSheet a1 g _ rfl) ?_
  show Ev 235 4 [some (.inr (.inr 92)), some (.inl a1), some (.inl a2), some (.inl a3), none] [.inl (Md_isSheet a1)] g _ _
  by_cases hc : (Md_isSheet a1) = 0
  · rw [if_pos hc] at h
    refine es (25, [some (.inr (.inr 92)), some (.inl a1), some (.inl a2), some (.inl a3), none], [], g) (congrArg some (if_pos hc)) ?_
    refine ev_runs 1 (25, [some (.inr (.inr 92)), some (.inl a1), some (.inl a2), some (.inl a3), none], [], g) (27, [some (.inr (.inr 92)), some (.inl a1), some (.inl a2), some (.inl a3), none], [.inl (-2)], g) rfl ?_
    cases h
    exact er rfl
  · rw [if_neg hc] at h
    refine es (7, [some (.inr (.inr 92)), some (.inl a1), some (.inl a2), some (.inl a3), none], [], g) (congrArg some (if_neg hc)) ?_
    refine ev_runs 4 (7, [some (.inr (.inr 92)), some (.inl a1), some (.inl a2), some (.inl a3), none], [], g) (13, [some (.inr (.inr 92)), some (.inl a1), some (.inl a2), some (.inl a3), none], [.inr (.inl 2), .inr (.inl 0), .inr (.inl a2)], g) rfl ?_
    refine ec 4 16 [.inr (.inl a2), .inr (.inl 0), .inr (.inl 2)] [] rfl (ev_Md_in a2 0 2 g _ rfl) ?_
    show Ev 235 16 [some (.inr (.inr 92)), some (.inl a1), some (.inl a2), some (.inl a3), none] [.inl (Md_in a2 0 2)] g _ _
    by_cases hc : (Md_in a2 0 2) = 0
    · rw [if_pos hc] at h
      refine es (25, [some (.inr (.inr 92)), some (.inl a1), some (.inl a2), some (.inl a3), none], [], g) (congrArg some (if_pos hc)) ?_
      refine ev_runs 1 (25, [some (.inr (.inr 92)), some (.inl a1), some (.inl a2), some (.inl a3), none], [], g) (27, [some (.inr (.inr 92)), some (.inl a1), some (.inl a2), some (.inl a3), none], [.inl (-2)], g) rfl ?_
      cases h
      exact er rfl
    · rw [if_neg hc] at h
      refine es (19, [some (.inr (.inr 92)), some (.inl a1), some (.inl a2), some (.inl a3), none], [], g) (congrArg some (if_neg hc)) ?_
      refine ev_runs 2 (19, [some (.inr (.inr 92)), some (.inl a1), some (.inl a2), some (.inl a3), none], [], g) (22, [some (.inr (.inr 92)), some (.inl a1), some (.inl a2), some (.inl a3), none], [.inl 60, .inl a3], g) rfl ?_
      by_cases hc : a3 ≤ 60
      · rw [if_pos hc] at h
        refine es (28, [some (.inr (.inr 92)), some (.inl a1), some (.inl a2), some (.inl a3), none], [], g) (congrArg some (if_pos hc)) ?_
        refine ev_runs 1 (28, [some (.inr (.inr 92)), some (.inl a1), some (.inl a2), some (.inl a3), none], [], g) (29, [some (.inr (.inr 92)), some (.inl a1), some (.inl a2), some (.inl a3), none], [.inl a3], g) rfl ?_
        by_cases hc : 0 ≤ a3
        · rw [if_pos hc] at h
          refine es (38, [some (.inr (.inr 92)), some (.inl a1), some (.inl a2), some (.inl a3), none], [], g) (congrArg some (if_pos hc)) ?_
          refine ev_runs 4 (38, [some (.inr (.inr 92)), some (.inl a1), some (.inl a2), some (.inl a3), none], [], g) (44, [some (.inr (.inr 92)), some (.inl a1), some (.inl a2), some (.inl a3), none], [.inl a2, .inl a1, .inr (.inr 93)], g) rfl ?_
          by_cases hc : 0 ≤ a1 ∧ a1 < 4
          · rw [if_pos hc] at h
            refine es (45, [some (.inr (.inr 92)), some (.inl a1), some (.inl a2), some (.inl a3), none], [], (gset g 93 a1.toNat a2)) (if_pos hc) ?_
            refine ev_runs 4 (45, [some (.inr (.inr 92)), some (.inl a1), some (.inl a2), some (.inl a3), none], [], (gset g 93 a1.toNat a2)) (51, [some (.inr (.inr 92)), some (.inl a1), some (.inl a2), some (.inl a3), none], [.inl a3, .inl a1, .inr (.inr 94)], (gset g 93 a1.toNat a2)) rfl ?_
            by_cases hc : 0 ≤ a1 ∧ a1 < 4
            · rw [if_pos hc] at h
              refine es (52, [some (.inr (.inr 92)), some (.inl a1), some (.inl a2), some (.inl a3), none], [], (gset (gset g 93 a1.toNat a2) 94 a1.toNat a3)) (if_pos hc) ?_
              refine ev_runs 2 (52, [some (.inr (.inr 92)), some (.inl a1), some (.inl a2), some (.inl a3), none], [], (gset (gset g 93 a1.toNat a2) 94 a1.toNat a3)) (55, [some (.inr (.inr 92)), some (.inl a1), some (.inl a2), some (.inl a3), some (.inl 0)], [], (gset (gset g 93 a1.toNat a2) 94 a1.toNat a3)) rfl ?_
              refine ev_le (L := [some (.inr (.inr 92)), some (.inl a1), none, some (.inl a3), some (.inl 0)]) (by simp [Lle]) ?_
              refine ev_Md_sheet_l55 a1 a3 _ ?_ fu 0 (gset (gset g 93 a1.toNat a2) 94 a1.toNat a3) r g' h
              · intro g1 r g' h
                refine ev_runs 1 (80, [none, none, none, some (.inl a3), none], [], g1) (81, [none, none, none, some (.inl a3), none], [.inl a3], g1) rfl ?_
                cases h
                exact er rfl
            · rw [if_neg hc] at h; cases h
          · rw [if_neg hc] at h; cases h
        · rw [if_neg hc] at h
          refine es (32, [some (.inr (.inr 92)), some (.inl a1), some (.inl a2), some (.inl a3), none], [], g) (congrArg some (if_neg hc)) ?_
          refine ev_runs 2 (32, [some (.inr (.inr 92)), some (.inl a1), some (.inl a2), some (.inl a3), none], [], g) (34, [some (.inr (.inr 92)), some (.inl a1), some (.inl a2), some (.inl a3), none], [.inl 5, .inr (.inr 92)], g) rfl ?_
          obtain ⟨q2, hq, h⟩ := lett_inv h
          refine ec 209 37 [.inr (.inr 92), .inl 5] [] rfl (ev_Md_met 5 g q2.1 q2.2 hq.symm) ?_
          show Ev 235 37 [some (.inr (.inr 92)), some (.inl a1), some (.inl a2), some (.inl a3), none] [.inl q2.1] q2.2 _ _
          cases h
          exact er rfl
      · rw [if_neg hc] at h
        refine es (25, [some (.inr (.inr 92)), some (.inl a1), some (.inl a2), some (.inl a3), none], [], g) (congrArg some (if_neg hc)) ?_
        refine ev_runs 1 (25, [some (.inr (.inr 92)), some (.inl a1), some (.inl a2), some (.inl a3), none], [], g) (27, [some (.inr (.inr 92)), some (.inl a1), some (.inl a2), some (.inl a3), none], [.inl (-2)], g) rfl ?_
        cases h
        exact er rfl
set_option maxRecDepth 100000 in
set_option maxHeartbeats 4000000 in
theorem ev_Sh_drop (a1 : Int) (g : Gx) (r : Int) (g' : Gx) (h : Sh_drop a1 g = (r, g')) : Ev 236 0 [some (.inr (.inr 85)), some (.inl a1), none] [] g (some (.inl r)) g' := by
  rw [Sh_drop] at h
  refine ev_runs 3 (0, [some (.inr (.inr 85)), some (.inl a1), none], [], g) (5, [some (.inr (.inr 85)), some (.inl a1), none], [.inl a1, .inr (.inr 90)], g) rfl ?_
  refine ec 13 8 [.inr (.inr 90), .inl a1] [] rfl (ev_Row_at rfl rfl _ _) ?_
  show Ev 236 8 [some (.inr (.inr 85)), some (.inl a1), none] [.inl (rat g 91 4 a1)] g _ _
  refine ev_runs 5 (8, [some (.inr (.inr 85)), some (.inl a1), none], [.inl (rat g 91 4 a1)], g) (15, [some (.inr (.inr 85)), some (.inl a1), some (.inl (rat g 91 4 a1))], [.inl (-1), .inl a1, .inr (.inr 88)], g) rfl ?_
  refine ec 0 18 [.inr (.inr 88), .inl a1, .inl (-1)] [] rfl (ev_Row_set rfl rfl _ _ _) ?_
  show Ev 236 18 [some (.inr (.inr 85)), some (.inl a1), some (.inl (rat g 91 4 a1))] [] (rset g 89 4 a1 (-1)) _ _
  refine ev_runs 4 (18, [some (.inr (.inr 85)), some (.inl a1), some (.inl (rat g 91 4 a1))], [], (rset g 89 4 a1 (-1))) (24, [some (.inr (.inr 85)), some (.inl a1), some (.inl (rat g 91 4 a1))], [.inl 0, .inl a1, .inr (.inr 90)], (rset g 89 4 a1 (-1))) rfl ?_
  refine ec 0 27 [.inr (.inr 90), .inl a1, .inl 0] [] rfl (ev_Row_set rfl rfl _ _ _) ?_
  show Ev 236 27 [some (.inr (.inr 85)), some (.inl a1), some (.inl (rat g 91 4 a1))] [] (rset (rset g 89 4 a1 (-1)) 91 4 a1 0) _ _
  refine ev_runs 1 (27, [some (.inr (.inr 85)), some (.inl a1), some (.inl (rat g 91 4 a1))], [], (rset (rset g 89 4 a1 (-1)) 91 4 a1 0)) (28, [some (.inr (.inr 85)), some (.inl a1), some (.inl (rat g 91 4 a1))], [.inl (rat g 91 4 a1)], (rset (rset g 89 4 a1 (-1)) 91 4 a1 0)) rfl ?_
  cases h
  exact er rfl
set_option maxRecDepth 100000 in
set_option maxHeartbeats 4000000 in
theorem ev_Op_lose (a1 : Int) (g : Gx) (r : Int) (g' : Gx) (h : Op_lose a1 g = (r, g')) : Ev 237 0 [some (.inr (.inr 0)), some (.inl a1)] [] g (some (.inl r)) g' := by
  rw [Op_lose] at h
  refine ev_runs 1 (0, [some (.inr (.inr 0)), some (.inl a1)], [], g) (1, [some (.inr (.inr 0)), some (.inl a1)], [.inl a1], g) rfl ?_
  refine ec 200 4 [.inl a1] [] rfl (ev_Op_isSheet a1 g _ rfl) ?_
  show Ev 237 4 [some (.inr (.inr 0)), some (.inl a1)] [.inl (Op_isSheet a1)] g _ _
  by_cases hc : ¬ (Op_isSheet a1) = 0
  · rw [if_pos hc] at h
    refine es (10, [some (.inr (.inr 0)), some (.inl a1)], [], g) (congrArg some (if_pos hc)) ?_
    refine ev_runs 3 (10, [some (.inr (.inr 0)), some (.inl a1)], [], g) (15, [some (.inr (.inr 0)), some (.inl a1)], [.inl a1, .inr (.inr 85)], g) rfl ?_
    refine ec 201 18 [.inr (.inr 85), .inl a1] [] rfl (ev_Sh_isLost a1 g _ rfl) ?_
    show Ev 237 18 [some (.inr (.inr 0)), some (.inl a1)] [.inl (Sh_isLost a1 g)] g _ _
    by_cases hc : (Sh_isLost a1 g) = 0
    · rw [if_pos hc] at h
      refine es (27, [some (.inr (.inr 0)), some (.inl a1)], [], g) (congrArg some (if_pos hc)) ?_
      refine ev_runs 3 (27, [some (.inr (.inr 0)), some (.inl a1)], [], g) (32, [some (.inr (.inr 0)), some (.inl a1)], [.inl a1, .inr (.inr 85)], g) rfl ?_
      obtain ⟨q1, hq, h⟩ := lett_inv h
      refine ec 236 35 [.inr (.inr 85), .inl a1] [] rfl (ev_Sh_drop a1 g q1.1 q1.2 hq.symm) ?_
      show Ev 237 35 [some (.inr (.inr 0)), some (.inl a1)] [.inl q1.1] q1.2 _ _
      cases h
      exact er rfl
    · rw [if_neg hc] at h
      refine es (21, [some (.inr (.inr 0)), some (.inl a1)], [], g) (congrArg some (if_neg hc)) ?_
      refine ev_runs 2 (21, [some (.inr (.inr 0)), some (.inl a1)], [], g) (23, [some (.inr (.inr 0)), some (.inl a1)], [.inl 1, .inr (.inr 0)], g) rfl ?_
      obtain ⟨q2, hq, h⟩ := lett_inv h
      refine ec 202 26 [.inr (.inr 0), .inl 1] [] rfl (ev_Op_found 1 g q2.1 q2.2 hq.symm) ?_
      show Ev 237 26 [some (.inr (.inr 0)), some (.inl a1)] [.inl q2.1] q2.2 _ _
      cases h
      exact er rfl
  · rw [if_neg hc] at h
    refine es (7, [some (.inr (.inr 0)), some (.inl a1)], [], g) (congrArg some (if_neg hc)) ?_
    refine ev_runs 1 (7, [some (.inr (.inr 0)), some (.inl a1)], [], g) (9, [some (.inr (.inr 0)), some (.inl a1)], [.inl (-2)], g) rfl ?_
    cases h
    exact er rfl
set_option maxRecDepth 100000 in
set_option maxHeartbeats 4000000 in
theorem ev_Md_lose (a1 : Int) (g : Gx) (r : Int) (g' : Gx) (h : Md_lose a1 g = some (r, g')) : Ev 238 0 [some (.inr (.inr 92)), some (.inl a1)] [] g (some (.inl r)) g' := by
  rw [Md_lose] at h
  refine ev_runs 1 (0, [some (.inr (.inr 92)), some (.inl a1)], [], g) (1, [some (.inr (.inr 92)), some (.inl a1)], [.inl a1], g) rfl ?_
  refine ec 208 4 [.inl a1] [] rfl (ev_Md_isSheet a1 g _ rfl) ?_
  show Ev 238 4 [some (.inr (.inr 92)), some (.inl a1)] [.inl (Md_isSheet a1)] g _ _
  by_cases hc : ¬ (Md_isSheet a1) = 0
  · rw [if_pos hc] at h
    refine es (10, [some (.inr (.inr 92)), some (.inl a1)], [], g) (congrArg some (if_pos hc)) ?_
    refine ev_runs 3 (10, [some (.inr (.inr 92)), some (.inl a1)], [], g) (15, [some (.inr (.inr 92)), some (.inl a1)], [.inl a1, .inr (.inr 93)], g) rfl ?_
    by_cases hc : 0 ≤ a1 ∧ a1 < 4
    · rw [if_pos hc] at h
      refine es (16, [some (.inr (.inr 92)), some (.inl a1)], [.inl (g 93 a1.toNat)], g) (if_pos hc) ?_
      by_cases hc : 0 ≤ (g 93 a1.toNat)
      · rw [if_pos hc] at h
        refine es (25, [some (.inr (.inr 92)), some (.inl a1)], [], g) (congrArg some (if_pos hc)) ?_
        refine ev_runs 4 (25, [some (.inr (.inr 92)), some (.inl a1)], [], g) (31, [some (.inr (.inr 92)), some (.inl a1)], [.inl (-1), .inl a1, .inr (.inr 93)], g) rfl ?_
        by_cases hc : 0 ≤ a1 ∧ a1 < 4
        · rw [if_pos hc] at h
          refine es (32, [some (.inr (.inr 92)), some (.inl a1)], [], (gset g 93 a1.toNat (-1))) (if_pos hc) ?_
          refine ev_runs 3 (32, [some (.inr (.inr 92)), some (.inl a1)], [], (gset g 93 a1.toNat (-1))) (37, [some (.inr (.inr 92)), some (.inl a1)], [.inl a1, .inr (.inr 94)], (gset g 93 a1.toNat (-1))) rfl ?_
          by_cases hc : 0 ≤ a1 ∧ a1 < 4
          · rw [if_pos hc] at h
            refine es (38, [some (.inr (.inr 92)), some (.inl a1)], [.inl (g 94 a1.toNat)], (gset g 93 a1.toNat (-1))) (if_pos hc) ?_
            cases h
            exact er rfl
          · rw [if_neg hc] at h; cases h
        · rw [if_neg hc] at h; cases h
      · rw [if_neg hc] at h
        refine es (19, [some (.inr (.inr 92)), some (.inl a1)], [], g) (congrArg some (if_neg hc)) ?_
        refine ev_runs 2 (19, [some (.inr (.inr 92)), some (.inl a1)], [], g) (21, [some (.inr (.inr 92)), some (.inl a1)], [.inl 1, .inr (.inr 92)], g) rfl ?_
        obtain ⟨q1, hq, h⟩ := lett_inv h
        refine ec 209 24 [.inr (.inr 92), .inl 1] [] rfl (ev_Md_met 1 g q1.1 q1.2 hq.symm) ?_
        show Ev 238 24 [some (.inr (.inr 92)), some (.inl a1)] [.inl q1.1] q1.2 _ _
        cases h
        exact er rfl
    · rw [if_neg hc] at h; cases h
  · rw [if_neg hc] at h
    refine es (7, [some (.inr (.inr 92)), some (.inl a1)], [], g) (congrArg some (if_neg hc)) ?_
    refine ev_runs 1 (7, [some (.inr (.inr 92)), some (.inl a1)], [], g) (9, [some (.inr (.inr 92)), some (.inl a1)], [.inl (-2)], g) rfl ?_
    cases h
    exact er rfl
set_option maxRecDepth 100000 in
set_option maxHeartbeats 4000000 in
theorem ev_Sh_hasItems (a1 a2 a3 : Int) (g : Gx) (r : Int) (h : Sh_hasItems a1 a2 a3 g = r) : Ev 239 0 [some (.inr (.inr 85)), some (.inl a1), some (.inl a2), some (.inl a3)] [] g (some (.inl r)) g := by
  rw [Sh_hasItems] at h
  refine ev_runs 1 (0, [some (.inr (.inr 85)), some (.inl a1), some (.inl a2), some (.inl a3)], [], g) (1, [some (.inr (.inr 85)), some (.inl a1), some (.inl a2), some (.inl a3)], [.inl a2], g) rfl ?_
  by_cases hc : a2 < 0
  · rw [if_pos hc] at h
    refine es (32, [some (.inr (.inr 85)), some (.inl a1), some (.inl a2), some (.inl a3)], [], g) (congrArg some (if_pos hc)) ?_
    refine ev_runs 1 (32, [some (.inr (.inr 85)), some (.inl a1), some (.inl a2), some (.inl a3)], [], g) (33, [some (.inr (.inr 85)), some (.inl a1), some (.inl a2), some (.inl a3)], [.inl 0], g) rfl ?_
    subst h
    exact er rfl
  · rw [if_neg hc] at h
    refine es (4, [some (.inr (.inr 85)), some (.inl a1), some (.inl a2), some (.inl a3)], [], g) (congrArg some (if_neg hc)) ?_
    refine ev_runs 1 (4, [some (.inr (.inr 85)), some (.inl a1), some (.inl a2), some (.inl a3)], [], g) (5, [some (.inr (.inr 85)), some (.inl a1), some (.inl a2), some (.inl a3)], [.inl a3], g) rfl ?_
    by_cases hc : a3 < 0
    · rw [if_pos hc] at h
      refine es (32, [some (.inr (.inr 85)), some (.inl a1), some (.inl a2), some (.inl a3)], [], g) (congrArg some (if_pos hc)) ?_
      refine ev_runs 1 (32, [some (.inr (.inr 85)), some (.inl a1), some (.inl a2), some (.inl a3)], [], g) (33, [some (.inr (.inr 85)), some (.inl a1), some (.inl a2), some (.inl a3)], [.inl 0], g) rfl ?_
      subst h
      exact er rfl
    · rw [if_neg hc] at h
      refine es (8, [some (.inr (.inr 85)), some (.inl a1), some (.inl a2), some (.inl a3)], [], g) (congrArg some (if_neg hc)) ?_
      refine ev_runs 3 (8, [some (.inr (.inr 85)), some (.inl a1), some (.inl a2), some (.inl a3)], [], g) (11, [some (.inr (.inr 85)), some (.inl a1), some (.inl a2), some (.inl a3)], [.inl a1, .inr (.inr 85), .inl a2], g) rfl ?_
      refine ec 203 14 [.inr (.inr 85), .inl a1] [.inl a2] rfl (ev_Sh_size a1 g _ rfl) ?_
      show Ev 239 14 [some (.inr (.inr 85)), some (.inl a1), some (.inl a2), some (.inl a3)] [.inl (Sh_size a1 g), .inl a2] g _ _
      by_cases hc : (Sh_size a1 g) < a2
      · rw [if_pos hc] at h
        refine es (32, [some (.inr (.inr 85)), some (.inl a1), some (.inl a2), some (.inl a3)], [], g) (congrArg some (if_pos hc)) ?_
        refine ev_runs 1 (32, [some (.inr (.inr 85)), some (.inl a1), some (.inl a2), some (.inl a3)], [], g) (33, [some (.inr (.inr 85)), some (.inl a1), some (.inl a2), some (.inl a3)], [.inl 0], g) rfl ?_
        subst h
        exact er rfl
      · rw [if_neg hc] at h
        refine es (17, [some (.inr (.inr 85)), some (.inl a1), some (.inl a2), some (.inl a3)], [], g) (congrArg some (if_neg hc)) ?_
        refine ev_runs 3 (17, [some (.inr (.inr 85)), some (.inl a1), some (.inl a2), some (.inl a3)], [], g) (20, [some (.inr (.inr 85)), some (.inl a1), some (.inl a2), some (.inl a3)], [.inl a1, .inr (.inr 85), .inl a3], g) rfl ?_
        refine ec 203 23 [.inr (.inr 85), .inl a1] [.inl a3] rfl (ev_Sh_size a1 g _ rfl) ?_
        show Ev 239 23 [some (.inr (.inr 85)), some (.inl a1), some (.inl a2), some (.inl a3)] [.inl (Sh_size a1 g), .inl a3] g _ _
        refine ev_runs 2 (23, [some (.inr (.inr 85)), some (.inl a1), some (.inl a2), some (.inl a3)], [.inl (Sh_size a1 g), .inl a3], g) (25, [some (.inr (.inr 85)), some (.inl a1), some (.inl a2), some (.inl a3)], [.inl (wr ((Sh_size a1 g) - a2)), .inl a3], g) rfl ?_
        by_cases hc : (wr ((Sh_size a1 g) - a2)) < a3
        · rw [if_pos hc] at h
          refine es (32, [some (.inr (.inr 85)), some (.inl a1), some (.inl a2), some (.inl a3)], [], g) (congrArg some (if_pos hc)) ?_
          refine ev_runs 1 (32, [some (.inr (.inr 85)), some (.inl a1), some (.inl a2), some (.inl a3)], [], g) (33, [some (.inr (.inr 85)), some (.inl a1), some (.inl a2), some (.inl a3)], [.inl 0], g) rfl ?_
          subst h
          exact er rfl
        · rw [if_neg hc] at h
          refine es (28, [some (.inr (.inr 85)), some (.inl a1), some (.inl a2), some (.inl a3)], [], g) (congrArg some (if_neg hc)) ?_
          refine ev_runs 2 (28, [some (.inr (.inr 85)), some (.inl a1), some (.inl a2), some (.inl a3)], [], g) (33, [some (.inr (.inr 85)), some (.inl a1), some (.inl a2), some (.inl a3)], [.inl 1], g) rfl ?_
          subst h
          exact er rfl
set_option maxRecDepth 100000 in
set_option maxHeartbeats 4000000 in
theorem ev_Sh_wrongAbout (a1 a2 a3 : Int) (g : Gx) (r : Int) (h : Sh_wrongAbout a1 a2 a3 g = r) : Ev 240 0 [some (.inr (.inr 85)), some (.inl a1), some (.inl a2), some (.inl a3)] [] g (some (.inl r)) g := by
  rw [Sh_wrongAbout] at h
  refine ev_runs 2 (0, [some (.inr (.inr 85)), some (.inl a1), some (.inl a2), some (.inl a3)], [], g) (2, [some (.inr (.inr 85)), some (.inl a1), some (.inl a2), some (.inl a3)], [.inl a1, .inr (.inr 85)], g) rfl ?_
  refine ec 201 5 [.inr (.inr 85), .inl a1] [] rfl (ev_Sh_isLost a1 g _ rfl) ?_
  show Ev 240 5 [some (.inr (.inr 85)), some (.inl a1), some (.inl a2), some (.inl a3)] [.inl (Sh_isLost a1 g)] g _ _
  by_cases hc : (Sh_isLost a1 g) = 0
  · rw [if_pos hc] at h
    refine es (10, [some (.inr (.inr 85)), some (.inl a1), some (.inl a2), some (.inl a3)], [], g) (congrArg some (if_pos hc)) ?_
    refine ev_runs 3 (10, [some (.inr (.inr 85)), some (.inl a1), some (.inl a2), some (.inl a3)], [], g) (15, [some (.inr (.inr 85)), some (.inl a1), some (.inl a2), some (.inl a3)], [.inl a1, .inr (.inr 88)], g) rfl ?_
    refine ec 13 18 [.inr (.inr 88), .inl a1] [] rfl (ev_Row_at rfl rfl _ _) ?_
    show Ev 240 18 [some (.inr (.inr 85)), some (.inl a1), some (.inl a2), some (.inl a3)] [.inl (rat g 89 4 a1)] g _ _
    refine ev_runs 1 (18, [some (.inr (.inr 85)), some (.inl a1), some (.inl a2), some (.inl a3)], [.inl (rat g 89 4 a1)], g) (19, [some (.inr (.inr 85)), some (.inl a1), some (.inl a2), some (.inl a3)], [.inl a2, .inl (rat g 89 4 a1)], g) rfl ?_
    by_cases hc : (rat g 89 4 a1) = a2
    · rw [if_pos hc] at h
      refine es (24, [some (.inr (.inr 85)), some (.inl a1), some (.inl a2), some (.inl a3)], [], g) (congrArg some (if_pos hc)) ?_
      refine ev_runs 4 (24, [some (.inr (.inr 85)), some (.inl a1), some (.inl a2), some (.inl a3)], [], g) (28, [some (.inr (.inr 85)), some (.inl a1), some (.inl a2), some (.inl a3)], [.inl 1, .inl a3, .inl a1, .inr (.inr 85)], g) rfl ?_
      refine ec 239 31 [.inr (.inr 85), .inl a1, .inl a3, .inl 1] [] rfl (ev_Sh_hasItems a1 a3 1 g _ rfl) ?_
      show Ev 240 31 [some (.inr (.inr 85)), some (.inl a1), some (.inl a2), some (.inl a3)] [.inl (Sh_hasItems a1 a3 1 g)] g _ _
      by_cases hc : (Sh_hasItems a1 a3 1 g) = 0
      · rw [if_pos hc] at h
        refine es (38, [some (.inr (.inr 85)), some (.inl a1), some (.inl a2), some (.inl a3)], [], g) (congrArg some (if_pos hc)) ?_
        refine ev_runs 1 (38, [some (.inr (.inr 85)), some (.inl a1), some (.inl a2), some (.inl a3)], [], g) (39, [some (.inr (.inr 85)), some (.inl a1), some (.inl a2), some (.inl a3)], [.inl 2], g) rfl ?_
        subst h
        exact er rfl
      · rw [if_neg hc] at h
        refine es (34, [some (.inr (.inr 85)), some (.inl a1), some (.inl a2), some (.inl a3)], [], g) (congrArg some (if_neg hc)) ?_
        refine ev_runs 2 (34, [some (.inr (.inr 85)), some (.inl a1), some (.inl a2), some (.inl a3)], [], g) (39, [some (.inr (.inr 85)), some (.inl a1), some (.inl a2), some (.inl a3)], [.inl 0], g) rfl ?_
        subst h
        exact er rfl
    · rw [if_neg hc] at h
      refine es (22, [some (.inr (.inr 85)), some (.inl a1), some (.inl a2), some (.inl a3)], [], g) (congrArg some (if_neg hc)) ?_
      refine ev_runs 1 (22, [some (.inr (.inr 85)), some (.inl a1), some (.inl a2), some (.inl a3)], [], g) (23, [some (.inr (.inr 85)), some (.inl a1), some (.inl a2), some (.inl a3)], [.inl 3], g) rfl ?_
      subst h
      exact er rfl
  · rw [if_neg hc] at h
    refine es (8, [some (.inr (.inr 85)), some (.inl a1), some (.inl a2), some (.inl a3)], [], g) (congrArg some (if_neg hc)) ?_
    refine ev_runs 1 (8, [some (.inr (.inr 85)), some (.inl a1), some (.inl a2), some (.inl a3)], [], g) (9, [some (.inr (.inr 85)), some (.inl a1), some (.inl a2), some (.inl a3)], [.inl 1], g) rfl ?_
    subst h
    exact er rfl
set_option maxRecDepth 100000 in
set_option maxHeartbeats 4000000 in
theorem ev_Sh_change (a1 a2 a3 : Int) (g : Gx) (g' : Gx) (h : Sh_change a1 a2 a3 g = g') : Ev 241 0 [some (.inr (.inr 85)), some (.inl a1), some (.inl a2), some (.inl a3), none] [] g none g' := by
  rw [Sh_change] at h
  refine ev_runs 5 (0, [some (.inr (.inr 85)), some (.inl a1), some (.inl a2), some (.inl a3), none], [], g) (8, [some (.inr (.inr 85)), some (.inl a1), some (.inl a2), some (.inl a3), some (.inl a3)], [.inl a1, .inr (.inr 88)], g) rfl ?_
  refine ec 13 11 [.inr (.inr 88), .inl a1] [] rfl (ev_Row_at rfl rfl _ _) ?_
  show Ev 241 11 [some (.inr (.inr 85)), some (.inl a1), some (.inl a2), some (.inl a3), some (.inl a3)] [.inl (rat g 89 4 a1)] g _ _
  by_cases hc : ¬ (rat g 89 4 a1) = 0
  · rw [if_pos hc] at h
    refine es (21, [some (.inr (.inr 85)), some (.inl a1), some (.inl a2), some (.inl a3), some (.inl a3)], [], g) (congrArg some (if_pos hc)) ?_
    refine ev_runs 3 (21, [some (.inr (.inr 85)), some (.inl a1), some (.inl a2), some (.inl a3), some (.inl a3)], [], g) (26, [some (.inr (.inr 85)), some (.inl a1), some (.inl a2), some (.inl a3), some (.inl a3)], [.inl a1, .inr (.inr 88)], g) rfl ?_
    refine ec 13 29 [.inr (.inr 88), .inl a1] [] rfl (ev_Row_at rfl rfl _ _) ?_
    show Ev 241 29 [some (.inr (.inr 85)), some (.inl a1), some (.inl a2), some (.inl a3), some (.inl a3)] [.inl (rat g 89 4 a1)] g _ _
    refine ev_runs 1 (29, [some (.inr (.inr 85)), some (.inl a1), some (.inl a2), some (.inl a3), some (.inl a3)], [.inl (rat g 89 4 a1)], g) (30, [some (.inr (.inr 85)), some (.inl a1), some (.inl a2), some (.inl a3), some (.inl a3)], [.inl 1, .inl (rat g 89 4 a1)], g) rfl ?_
    by_cases hc : ¬ (rat g 89 4 a1) = 1
    · rw [if_pos hc] at h
      refine es (37, [some (.inr (.inr 85)), some (.inl a1), some (.inl a2), some (.inl a3), some (.inl a3)], [], g) (congrArg some (if_pos hc)) ?_
      refine ev_runs 8 (37, [some (.inr (.inr 85)), some (.inl a1), some (.inl a2), some (.inl a3), some (.inl a3)], [], g) (49, [some (.inr (.inr 85)), some (.inl a1), some (.inl a2), some (.inl a3), some (.inl a3)], [.inl a3, .inl (wr ((wr (a1 * 60)) + a2)), .inr (.inr 86)], g) rfl ?_
      refine ec 0 52 [.inr (.inr 86), .inl (wr ((wr (a1 * 60)) + a2)), .inl a3] [] rfl (ev_Row_set rfl rfl _ _ _) ?_
      show Ev 241 52 [some (.inr (.inr 85)), some (.inl a1), some (.inl a2), some (.inl a3), some (.inl a3)] [] (rset g 87 240 (wr ((wr (a1 * 60)) + a2)) a3) _ _
      subst h
      exact er rfl
    · rw [if_neg hc] at h
      refine es (33, [some (.inr (.inr 85)), some (.inl a1), some (.inl a2), some (.inl a3), some (.inl a3)], [], g) (congrArg some (if_neg hc)) ?_
      refine ev_runs 11 (33, [some (.inr (.inr 85)), some (.inl a1), some (.inl a2), some (.inl a3), some (.inl a3)], [], g) (49, [some (.inr (.inr 85)), some (.inl a1), some (.inl a2), some (.inl a3), some (.inl (js a3))], [.inl (js a3), .inl (wr ((wr (a1 * 60)) + a2)), .inr (.inr 86)], g) rfl ?_
      refine ec 0 52 [.inr (.inr 86), .inl (wr ((wr (a1 * 60)) + a2)), .inl (js a3)] [] rfl (ev_Row_set rfl rfl _ _ _) ?_
      show Ev 241 52 [some (.inr (.inr 85)), some (.inl a1), some (.inl a2), some (.inl a3), some (.inl (js a3))] [] (rset g 87 240 (wr ((wr (a1 * 60)) + a2)) (js a3)) _ _
      subst h
      exact er rfl
  · rw [if_neg hc] at h
    refine es (14, [some (.inr (.inr 85)), some (.inl a1), some (.inl a2), some (.inl a3), some (.inl a3)], [], g) (congrArg some (if_neg hc)) ?_
    refine ev_runs 12 (14, [some (.inr (.inr 85)), some (.inl a1), some (.inl a2), some (.inl a3), some (.inl a3)], [], g) (49, [some (.inr (.inr 85)), some (.inl a1), some (.inl a2), some (.inl a3), some (.inl (jb a3))], [.inl (jb a3), .inl (wr ((wr (a1 * 60)) + a2)), .inr (.inr 86)], g) rfl ?_
    refine ec 0 52 [.inr (.inr 86), .inl (wr ((wr (a1 * 60)) + a2)), .inl (jb a3)] [] rfl (ev_Row_set rfl rfl _ _ _) ?_
    show Ev 241 52 [some (.inr (.inr 85)), some (.inl a1), some (.inl a2), some (.inl a3), some (.inl (jb a3))] [] (rset g 87 240 (wr ((wr (a1 * 60)) + a2)) (jb a3)) _ _
    subst h
    exact er rfl
set_option maxRecDepth 100000 in
set_option maxHeartbeats 4000000 in
theorem ev_Op_put (a1 a2 a3 a4 : Int) (g : Gx) (r : Int) (g' : Gx) (h : Op_put a1 a2 a3 a4 g = (r, g')) : Ev 242 0 [some (.inr (.inr 0)), some (.inl a1), some (.inl a2), some (.inl a3), some (.inl a4), none] [] g (some (.inl r)) g' := by
  rw [Op_put] at h
  refine ev_runs 1 (0, [some (.inr (.inr 0)), some (.inl a1), some (.inl a2), some (.inl a3), some (.inl a4), none], [], g) (1, [some (.inr (.inr 0)), some (.inl a1), some (.inl a2), some (.inl a3), some (.inl a4), none], [.inl a1], g) rfl ?_
  refine ec 200 4 [.inl a1] [] rfl (ev_Op_isSheet a1 g _ rfl) ?_
  show Ev 242 4 [some (.inr (.inr 0)), some (.inl a1), some (.inl a2), some (.inl a3), some (.inl a4), none] [.inl (Op_isSheet a1)] g _ _
  by_cases hc : (Op_isSheet a1) = 0
  · rw [if_pos hc] at h
    refine es (14, [some (.inr (.inr 0)), some (.inl a1), some (.inl a2), some (.inl a3), some (.inl a4), none], [], g) (congrArg some (if_pos hc)) ?_
    refine ev_runs 1 (14, [some (.inr (.inr 0)), some (.inl a1), some (.inl a2), some (.inl a3), some (.inl a4), none], [], g) (16, [some (.inr (.inr 0)), some (.inl a1), some (.inl a2), some (.inl a3), some (.inl a4), none], [.inl (-2)], g) rfl ?_
    cases h
    exact er rfl
  · rw [if_neg hc] at h
    refine es (7, [some (.inr (.inr 0)), some (.inl a1), some (.inl a2), some (.inl a3), some (.inl a4), none], [], g) (congrArg some (if_neg hc)) ?_
    refine ev_runs 1 (7, [some (.inr (.inr 0)), some (.inl a1), some (.inl a2), some (.inl a3), some (.inl a4), none], [], g) (8, [some (.inr (.inr 0)), some (.inl a1), some (.inl a2), some (.inl a3), some (.inl a4), none], [.inl a2], g) rfl ?_
    refine ec 232 11 [.inl a2] [] rfl (ev_Op_isForm a2 g _ rfl) ?_
    show Ev 242 11 [some (.inr (.inr 0)), some (.inl a1), some (.inl a2), some (.inl a3), some (.inl a4), none] [.inl (Op_isForm a2)] g _ _
    by_cases hc : ¬ (Op_isForm a2) = 0
    · rw [if_pos hc] at h
      refine es (17, [some (.inr (.inr 0)), some (.inl a1), some (.inl a2), some (.inl a3), some (.inl a4), none], [], g) (congrArg some (if_pos hc)) ?_
      refine ev_runs 5 (17, [some (.inr (.inr 0)), some (.inl a1), some (.inl a2), some (.inl a3), some (.inl a4), none], [], g) (24, [some (.inr (.inr 0)), some (.inl a1), some (.inl a2), some (.inl a3), some (.inl a4), none], [.inl a3, .inl a2, .inl a1, .inr (.inr 85)], g) rfl ?_
      refine ec 240 27 [.inr (.inr 85), .inl a1, .inl a2, .inl a3] [] rfl (ev_Sh_wrongAbout a1 a2 a3 g _ rfl) ?_
      show Ev 242 27 [some (.inr (.inr 0)), some (.inl a1), some (.inl a2), some (.inl a3), some (.inl a4), none] [.inl (Sh_wrongAbout a1 a2 a3 g)] g _ _
      refine ev_runs 2 (27, [some (.inr (.inr 0)), some (.inl a1), some (.inl a2), some (.inl a3), some (.inl a4), none], [.inl (Sh_wrongAbout a1 a2 a3 g)], g) (31, [some (.inr (.inr 0)), some (.inl a1), some (.inl a2), some (.inl a3), some (.inl a4), some (.inl (Sh_wrongAbout a1 a2 a3 g))], [.inl (Sh_wrongAbout a1 a2 a3 g)], g) rfl ?_
      by_cases hc : (Sh_wrongAbout a1 a2 a3 g) = 0
      · rw [if_pos hc] at h
        refine es (41, [some (.inr (.inr 0)), some (.inl a1), some (.inl a2), some (.inl a3), some (.inl a4), some (.inl (Sh_wrongAbout a1 a2 a3 g))], [], g) (congrArg some (if_pos hc)) ?_
        refine ev_runs 5 (41, [some (.inr (.inr 0)), some (.inl a1), some (.inl a2), some (.inl a3), some (.inl a4), some (.inl (Sh_wrongAbout a1 a2 a3 g))], [], g) (49, [some (.inr (.inr 0)), some (.inl a1), some (.inl a2), some (.inl a3), some (.inl a4), some (.inl (Sh_wrongAbout a1 a2 a3 g))], [.inl a4, .inl a3, .inl a1, .inr (.inr 85)], g) rfl ?_
        obtain ⟨g1, hq, h⟩ := lett_inv h
        refine ec 241 52 [.inr (.inr 85), .inl a1, .inl a3, .inl a4] [] rfl (ev_Sh_change a1 a3 a4 g g1 hq.symm) ?_
        show Ev 242 52 [some (.inr (.inr 0)), some (.inl a1), some (.inl a2), some (.inl a3), some (.inl a4), some (.inl (Sh_wrongAbout a1 a2 a3 g))] [] g1 _ _
        refine ev_runs 1 (52, [some (.inr (.inr 0)), some (.inl a1), some (.inl a2), some (.inl a3), some (.inl a4), some (.inl (Sh_wrongAbout a1 a2 a3 g))], [], g1) (53, [some (.inr (.inr 0)), some (.inl a1), some (.inl a2), some (.inl a3), some (.inl a4), some (.inl (Sh_wrongAbout a1 a2 a3 g))], [.inl 1], g1) rfl ?_
        cases h
        exact er rfl
      · rw [if_neg hc] at h
        refine es (34, [some (.inr (.inr 0)), some (.inl a1), some (.inl a2), some (.inl a3), some (.inl a4), some (.inl (Sh_wrongAbout a1 a2 a3 g))], [], g) (congrArg some (if_neg hc)) ?_
        refine ev_runs 2 (34, [some (.inr (.inr 0)), some (.inl a1), some (.inl a2), some (.inl a3), some (.inl a4), some (.inl (Sh_wrongAbout a1 a2 a3 g))], [], g) (37, [some (.inr (.inr 0)), some (.inl a1), some (.inl a2), some (.inl a3), some (.inl a4), some (.inl (Sh_wrongAbout a1 a2 a3 g))], [.inl (Sh_wrongAbout a1 a2 a3 g), .inr (.inr 0)], g) rfl ?_
        obtain ⟨q2, hq, h⟩ := lett_inv h
        refine ec 202 40 [.inr (.inr 0), .inl (Sh_wrongAbout a1 a2 a3 g)] [] rfl (ev_Op_found (Sh_wrongAbout a1 a2 a3 g) g q2.1 q2.2 hq.symm) ?_
        show Ev 242 40 [some (.inr (.inr 0)), some (.inl a1), some (.inl a2), some (.inl a3), some (.inl a4), some (.inl (Sh_wrongAbout a1 a2 a3 g))] [.inl q2.1] q2.2 _ _
        cases h
        exact er rfl
    · rw [if_neg hc] at h
      refine es (14, [some (.inr (.inr 0)), some (.inl a1), some (.inl a2), some (.inl a3), some (.inl a4), none], [], g) (congrArg some (if_neg hc)) ?_
      refine ev_runs 1 (14, [some (.inr (.inr 0)), some (.inl a1), some (.inl a2), some (.inl a3), some (.inl a4), none], [], g) (16, [some (.inr (.inr 0)), some (.inl a1), some (.inl a2), some (.inl a3), some (.inl a4), none], [.inl (-2)], g) rfl ?_
      cases h
      exact er rfl
set_option maxRecDepth 100000 in
set_option maxHeartbeats 4000000 in
theorem ev_Md_lacks (a1 a2 a3 : Int) (g : Gx) (r : Int) (g' : Gx) (h : Md_lacks a1 a2 a3 g = some (r, g')) : Ev 243 0 [some (.inr (.inr 92)), some (.inl a1), some (.inl a2), some (.inl a3)] [] g (some (.inl r)) g' := by
  rw [Md_lacks] at h
  refine ev_runs 3 (0, [some (.inr (.inr 92)), some (.inl a1), some (.inl a2), some (.inl a3)], [], g) (5, [some (.inr (.inr 92)), some (.inl a1), some (.inl a2), some (.inl a3)], [.inl a1, .inr (.inr 93)], g) rfl ?_
  by_cases hc : 0 ≤ a1 ∧ a1 < 4
  · rw [if_pos hc] at h
    refine es (6, [some (.inr (.inr 92)), some (.inl a1), some (.inl a2), some (.inl a3)], [.inl (g 93 a1.toNat)], g) (if_pos hc) ?_
    by_cases hc : 0 ≤ (g 93 a1.toNat)
    · rw [if_pos hc] at h
      refine es (15, [some (.inr (.inr 92)), some (.inl a1), some (.inl a2), some (.inl a3)], [], g) (congrArg some (if_pos hc)) ?_
      refine ev_runs 3 (15, [some (.inr (.inr 92)), some (.inl a1), some (.inl a2), some (.inl a3)], [], g) (20, [some (.inr (.inr 92)), some (.inl a1), some (.inl a2), some (.inl a3)], [.inl a1, .inr (.inr 93)], g) rfl ?_
      by_cases hc : 0 ≤ a1 ∧ a1 < 4
      · rw [if_pos hc] at h
        refine es (21, [some (.inr (.inr 92)), some (.inl a1), some (.inl a2), some (.inl a3)], [.inl (g 93 a1.toNat)], g) (if_pos hc) ?_
        refine ev_runs 1 (21, [some (.inr (.inr 92)), some (.inl a1), some (.inl a2), some (.inl a3)], [.inl (g 93 a1.toNat)], g) (22, [some (.inr (.inr 92)), some (.inl a1), some (.inl a2), some (.inl a3)], [.inl a2, .inl (g 93 a1.toNat)], g) rfl ?_
        by_cases hc : (g 93 a1.toNat) = a2
        · rw [if_pos hc] at h
          refine es (31, [some (.inr (.inr 92)), some (.inl a1), some (.inl a2), some (.inl a3)], [], g) (congrArg some (if_pos hc)) ?_
          refine ev_runs 6 (31, [some (.inr (.inr 92)), some (.inl a1), some (.inl a2), some (.inl a3)], [], g) (39, [some (.inr (.inr 92)), some (.inl a1), some (.inl a2), some (.inl a3)], [.inl a1, .inr (.inr 94), .inr (.inl 0), .inr (.inl a3)], g) rfl ?_
          by_cases hc : 0 ≤ a1 ∧ a1 < 4
          · rw [if_pos hc] at h
            refine es (40, [some (.inr (.inr 92)), some (.inl a1), some (.inl a2), some (.inl a3)], [.inl (g 94 a1.toNat), .inr (.inl 0), .inr (.inl a3)], g) (if_pos hc) ?_
            refine ev_runs 3 (40, [some (.inr (.inr 92)), some (.inl a1), some (.inl a2), some (.inl a3)], [.inl (g 94 a1.toNat), .inr (.inl 0), .inr (.inl a3)], g) (43, [some (.inr (.inr 92)), some (.inl a1), some (.inl a2), some (.inl a3)], [.inr (.inl (wr ((g 94 a1.toNat) - 1))), .inr (.inl 0), .inr (.inl a3)], g) rfl ?_
            refine ec 4 46 [.inr (.inl a3), .inr (.inl 0), .inr (.inl (wr ((g 94 a1.toNat) - 1)))] [] rfl (ev_Md_in a3 0 (wr ((g 94 a1.toNat) - 1)) g _ rfl) ?_
            show Ev 243 46 [some (.inr (.inr 92)), some (.inl a1), some (.inl a2), some (.inl a3)] [.inl (Md_in a3 0 (wr ((g 94 a1.toNat) - 1)))] g _ _
            by_cases hc : (Md_in a3 0 (wr ((g 94 a1.toNat) - 1))) = 0
            · rw [if_pos hc] at h
              refine es (53, [some (.inr (.inr 92)), some (.inl a1), some (.inl a2), some (.inl a3)], [], g) (congrArg some (if_pos hc)) ?_
              refine ev_runs 2 (53, [some (.inr (.inr 92)), some (.inl a1), some (.inl a2), some (.inl a3)], [], g) (55, [some (.inr (.inr 92)), some (.inl a1), some (.inl a2), some (.inl a3)], [.inl 2, .inr (.inr 92)], g) rfl ?_
              obtain ⟨q1, hq, h⟩ := lett_inv h
              refine ec 209 58 [.inr (.inr 92), .inl 2] [] rfl (ev_Md_met 2 g q1.1 q1.2 hq.symm) ?_
              show Ev 243 58 [some (.inr (.inr 92)), some (.inl a1), some (.inl a2), some (.inl a3)] [.inl q1.1] q1.2 _ _
              cases h
              exact er rfl
            · rw [if_neg hc] at h
              refine es (49, [some (.inr (.inr 92)), some (.inl a1), some (.inl a2), some (.inl a3)], [], g) (congrArg some (if_neg hc)) ?_
              refine ev_runs 2 (49, [some (.inr (.inr 92)), some (.inl a1), some (.inl a2), some (.inl a3)], [], g) (58, [some (.inr (.inr 92)), some (.inl a1), some (.inl a2), some (.inl a3)], [.inl 0], g) rfl ?_
              cases h
              exact er rfl
          · rw [if_neg hc] at h; cases h
        · rw [if_neg hc] at h
          refine es (25, [some (.inr (.inr 92)), some (.inl a1), some (.inl a2), some (.inl a3)], [], g) (congrArg some (if_neg hc)) ?_
          refine ev_runs 2 (25, [some (.inr (.inr 92)), some (.inl a1), some (.inl a2), some (.inl a3)], [], g) (27, [some (.inr (.inr 92)), some (.inl a1), some (.inl a2), some (.inl a3)], [.inl 3, .inr (.inr 92)], g) rfl ?_
          obtain ⟨q2, hq, h⟩ := lett_inv h
          refine ec 209 30 [.inr (.inr 92), .inl 3] [] rfl (ev_Md_met 3 g q2.1 q2.2 hq.symm) ?_
          show Ev 243 30 [some (.inr (.inr 92)), some (.inl a1), some (.inl a2), some (.inl a3)] [.inl q2.1] q2.2 _ _
          cases h
          exact er rfl
      · rw [if_neg hc] at h; cases h
    · rw [if_neg hc] at h
      refine es (9, [some (.inr (.inr 92)), some (.inl a1), some (.inl a2), some (.inl a3)], [], g) (congrArg some (if_neg hc)) ?_
      refine ev_runs 2 (9, [some (.inr (.inr 92)), some (.inl a1), some (.inl a2), some (.inl a3)], [], g) (11, [some (.inr (.inr 92)), some (.inl a1), some (.inl a2), some (.inl a3)], [.inl 1, .inr (.inr 92)], g) rfl ?_
      obtain ⟨q3, hq, h⟩ := lett_inv h
      refine ec 209 14 [.inr (.inr 92), .inl 1] [] rfl (ev_Md_met 1 g q3.1 q3.2 hq.symm) ?_
      show Ev 243 14 [some (.inr (.inr 92)), some (.inl a1), some (.inl a2), some (.inl a3)] [.inl q3.1] q3.2 _ _
      cases h
      exact er rfl
  · rw [if_neg hc] at h; cases h
set_option maxRecDepth 100000 in
set_option maxHeartbeats 4000000 in
theorem ev_Md_cut (a0 a1 : Int) (g : Gx) (r : Int) (h : Md_cut a0 a1 = r) : Ev 244 0 [some (.inl a0), some (.inl a1)] [] g (some (.inl r)) g := by
  rw [Md_cut] at h
  refine ev_runs 1 (0, [some (.inl a0), some (.inl a1)], [], g) (1, [some (.inl a0), some (.inl a1)], [.inl a0], g) rfl ?_
  by_cases hc : ¬ a0 = 0
  · rw [if_pos hc] at h
    refine es (9, [some (.inl a0), some (.inl a1)], [], g) (congrArg some (if_pos hc)) ?_
    refine ev_runs 2 (9, [some (.inl a0), some (.inl a1)], [], g) (11, [some (.inl a0), some (.inl a1)], [.inl 1, .inl a0], g) rfl ?_
    by_cases hc : ¬ a0 = 1
    · rw [if_pos hc] at h
      refine es (19, [some (.inl a0), some (.inl a1)], [], g) (congrArg some (if_pos hc)) ?_
      refine ev_runs 1 (19, [some (.inl a0), some (.inl a1)], [], g) (20, [some (.inl a0), some (.inl a1)], [.inl a1], g) rfl ?_
      subst h
      exact er rfl
    · rw [if_neg hc] at h
      refine es (14, [some (.inl a0), some (.inl a1)], [], g) (congrArg some (if_neg hc)) ?_
      refine ev_runs 3 (14, [some (.inl a0), some (.inl a1)], [], g) (20, [some (.inl a0), some (.inl a1)], [.inl (js a1)], g) rfl ?_
      subst h
      exact er rfl
  · rw [if_neg hc] at h
    refine es (4, [some (.inl a0), some (.inl a1)], [], g) (congrArg some (if_neg hc)) ?_
    refine ev_runs 3 (4, [some (.inl a0), some (.inl a1)], [], g) (20, [some (.inl a0), some (.inl a1)], [.inl (jb a1)], g) rfl ?_
    subst h
    exact er rfl
set_option maxRecDepth 100000 in
set_option maxHeartbeats 4000000 in
theorem ev_Md_put (a1 a2 a3 a4 : Int) (g : Gx) (r : Int) (g' : Gx) (h : Md_put a1 a2 a3 a4 g = some (r, g')) : Ev 245 0 [some (.inr (.inr 92)), some (.inl a1), some (.inl a2), some (.inl a3), some (.inl a4), none] [] g (some (.inl r)) g' := by
  rw [Md_put] at h
  refine ev_runs 1 (0, [some (.inr (.inr 92)), some (.inl a1), some (.inl a2), some (.inl a3), some (.inl a4), none], [], g) (1, [some (.inr (.inr 92)), some (.inl a1), some (.inl a2), some (.inl a3), some (.inl a4), none], [.inl a1], g) rfl ?_
  refine ec 208 4 [.inl a1] [] rfl (ev_Md_isSheet a1 g _ rfl) ?_
  show Ev 245 4 [some (.inr (.inr 92)), some (.inl a1), some (.inl a2), some (.inl a3), some (.inl a4), none] [.inl (Md_isSheet a1)] g _ _
  by_cases hc : (Md_isSheet a1) = 0
  · rw [if_pos hc] at h
    refine es (19, [some (.inr (.inr 92)), some (.inl a1), some (.inl a2), some (.inl a3), some (.inl a4), none], [], g) (congrArg some (if_pos hc)) ?_
    refine ev_runs 1 (19, [some (.inr (.inr 92)), some (.inl a1), some (.inl a2), some (.inl a3), some (.inl a4), none], [], g) (21, [some (.inr (.inr 92)), some (.inl a1), some (.inl a2), some (.inl a3), some (.inl a4), none], [.inl (-2)], g) rfl ?_
    cases h
    exact er rfl
  · rw [if_neg hc] at h
    refine es (7, [some (.inr (.inr 92)), some (.inl a1), some (.inl a2), some (.inl a3), some (.inl a4), none], [], g) (congrArg some (if_neg hc)) ?_
    refine ev_runs 4 (7, [some (.inr (.inr 92)), some (.inl a1), some (.inl a2), some (.inl a3), some (.inl a4), none], [], g) (13, [some (.inr (.inr 92)), some (.inl a1), some (.inl a2), some (.inl a3), some (.inl a4), none], [.inr (.inl 2), .inr (.inl 0), .inr (.inl a2)], g) rfl ?_
    refine ec 4 16 [.inr (.inl a2), .inr (.inl 0), .inr (.inl 2)] [] rfl (ev_Md_in a2 0 2 g _ rfl) ?_
    show Ev 245 16 [some (.inr (.inr 92)), some (.inl a1), some (.inl a2), some (.inl a3), some (.inl a4), none] [.inl (Md_in a2 0 2)] g _ _
    by_cases hc : ¬ (Md_in a2 0 2) = 0
    · rw [if_pos hc] at h
      refine es (22, [some (.inr (.inr 92)), some (.inl a1), some (.inl a2), some (.inl a3), some (.inl a4), none], [], g) (congrArg some (if_pos hc)) ?_
      refine ev_runs 4 (22, [some (.inr (.inr 92)), some (.inl a1), some (.inl a2), some (.inl a3), some (.inl a4), none], [], g) (26, [some (.inr (.inr 92)), some (.inl a1), some (.inl a2), some (.inl a3), some (.inl a4), none], [.inl a3, .inl a2, .inl a1, .inr (.inr 92)], g) rfl ?_
      obtain ⟨q1, hq, h⟩ := Option.bind_eq_some_iff.mp h
      refine ec 243 29 [.inr (.inr 92), .inl a1, .inl a2, .inl a3] [] rfl (ev_Md_lacks a1 a2 a3 g q1.1 q1.2 hq) ?_
      show Ev 245 29 [some (.inr (.inr 92)), some (.inl a1), some (.inl a2), some (.inl a3), some (.inl a4), none] [.inl q1.1] q1.2 _ _
      refine ev_runs 2 (29, [some (.inr (.inr 92)), some (.inl a1), some (.inl a2), some (.inl a3), some (.inl a4), none], [.inl q1.1], q1.2) (33, [some (.inr (.inr 92)), some (.inl a1), some (.inl a2), some (.inl a3), some (.inl a4), some (.inl q1.1)], [.inl q1.1], q1.2) rfl ?_
      by_cases hc : q1.1 = 0
      · rw [if_pos hc] at h
        refine es (39, [some (.inr (.inr 92)), some (.inl a1), some (.inl a2), some (.inl a3), some (.inl a4), some (.inl q1.1)], [], q1.2) (congrArg some (if_pos hc)) ?_
        refine ev_runs 9 (39, [some (.inr (.inr 92)), some (.inl a1), some (.inl a2), some (.inl a3), some (.inl a4), some (.inl q1.1)], [], q1.2) (52, [some (.inr (.inr 92)), some (.inl a1), some (.inl a2), some (.inl a3), some (.inl a4), some (.inl q1.1)], [.inl a4, .inl a2, .inl (wr ((wr (60 * a1)) + a3)), .inr (.inr 95)], q1.2) rfl ?_
        refine ec 244 55 [.inl a2, .inl a4] [.inl (wr ((wr (60 * a1)) + a3)), .inr (.inr 95)] rfl (ev_Md_cut a2 a4 q1.2 _ rfl) ?_
        show Ev 245 55 [some (.inr (.inr 92)), some (.inl a1), some (.inl a2), some (.inl a3), some (.inl a4), some (.inl q1.1)] [.inl (Md_cut a2 a4), .inl (wr ((wr (60 * a1)) + a3)), .inr (.inr 95)] q1.2 _ _
        by_cases hc : 0 ≤ (wr ((wr (60 * a1)) + a3)) ∧ (wr ((wr (60 * a1)) + a3)) < 240
        · rw [if_pos hc] at h
          refine es (56, [some (.inr (.inr 92)), some (.inl a1), some (.inl a2), some (.inl a3), some (.inl a4), some (.inl q1.1)], [], (gset q1.2 95 ((wr ((wr (60 * a1)) + a3)).toNat) (Md_cut a2 a4))) (if_pos hc) ?_
          refine ev_runs 1 (56, [some (.inr (.inr 92)), some (.inl a1), some (.inl a2), some (.inl a3), some (.inl a4), some (.inl q1.1)], [], (gset q1.2 95 ((wr ((wr (60 * a1)) + a3)).toNat) (Md_cut a2 a4))) (57, [some (.inr (.inr 92)), some (.inl a1), some (.inl a2), some (.inl a3), some (.inl a4), some (.inl q1.1)], [.inl 1], (gset q1.2 95 ((wr ((wr (60 * a1)) + a3)).toNat) (Md_cut a2 a4))) rfl ?_
          cases h
          exact er rfl
        · rw [if_neg hc] at h; cases h
      · rw [if_neg hc] at h
        refine es (36, [some (.inr (.inr 92)), some (.inl a1), some (.inl a2), some (.inl a3), some (.inl a4), some (.inl q1.1)], [], q1.2) (congrArg some (if_neg hc)) ?_
        refine ev_runs 1 (36, [some (.inr (.inr 92)), some (.inl a1), some (.inl a2), some (.inl a3), some (.inl a4), some (.inl q1.1)], [], q1.2) (38, [some (.inr (.inr 92)), some (.inl a1), some (.inl a2), some (.inl a3), some (.inl a4), some (.inl q1.1)], [.inl q1.1], q1.2) rfl ?_
        cases h
        exact er rfl
    · rw [if_neg hc] at h
      refine es (19, [some (.inr (.inr 92)), some (.inl a1), some (.inl a2), some (.inl a3), some (.inl a4), none], [], g) (congrArg some (if_neg hc)) ?_
      refine ev_runs 1 (19, [some (.inr (.inr 92)), some (.inl a1), some (.inl a2), some (.inl a3), some (.inl a4), none], [], g) (21, [some (.inr (.inr 92)), some (.inl a1), some (.inl a2), some (.inl a3), some (.inl a4), none], [.inl (-2)], g) rfl ?_
      cases h
      exact er rfl
set_option maxRecDepth 100000 in
set_option maxHeartbeats 4000000 in
theorem ev_Op_get (a1 a2 a3 : Int) (g : Gx) (r : Int) (g' : Gx) (h : Op_get a1 a2 a3 g = (r, g')) : Ev 246 0 [some (.inr (.inr 0)), some (.inl a1), some (.inl a2), some (.inl a3), none] [] g (some (.inl r)) g' := by
  rw [Op_get] at h
  refine ev_runs 1 (0, [some (.inr (.inr 0)), some (.inl a1), some (.inl a2), some (.inl a3), none], [], g) (1, [some (.inr (.inr 0)), some (.inl a1), some (.inl a2), some (.inl a3), none], [.inl a1], g) rfl ?_
  refine ec 200 4 [.inl a1] [] rfl (ev_Op_isSheet a1 g _ rfl) ?_
  show Ev 246 4 [some (.inr (.inr 0)), some (.inl a1), some (.inl a2), some (.inl a3), none] [.inl (Op_isSheet a1)] g _ _
  by_cases hc : (Op_isSheet a1) = 0
  · rw [if_pos hc] at h
    refine es (14, [some (.inr (.inr 0)), some (.inl a1), some (.inl a2), some (.inl a3), none], [], g) (congrArg some (if_pos hc)) ?_
    refine ev_runs 1 (14, [some (.inr (.inr 0)), some (.inl a1), some (.inl a2), some (.inl a3), none], [], g) (17, [some (.inr (.inr 0)), some (.inl a1), some (.inl a2), some (.inl a3), none], [.inl (-2147483648)], g) rfl ?_
    cases h
    exact er rfl
  · rw [if_neg hc] at h
    refine es (7, [some (.inr (.inr 0)), some (.inl a1), some (.inl a2), some (.inl a3), none], [], g) (congrArg some (if_neg hc)) ?_
    refine ev_runs 1 (7, [some (.inr (.inr 0)), some (.inl a1), some (.inl a2), some (.inl a3), none], [], g) (8, [some (.inr (.inr 0)), some (.inl a1), some (.inl a2), some (.inl a3), none], [.inl a2], g) rfl ?_
    refine ec 232 11 [.inl a2] [] rfl (ev_Op_isForm a2 g _ rfl) ?_
    show Ev 246 11 [some (.inr (.inr 0)), some (.inl a1), some (.inl a2), some (.inl a3), none] [.inl (Op_isForm a2)] g _ _
    by_cases hc : ¬ (Op_isForm a2) = 0
    · rw [if_pos hc] at h
      refine es (18, [some (.inr (.inr 0)), some (.inl a1), some (.inl a2), some (.inl a3), none], [], g) (congrArg some (if_pos hc)) ?_
      refine ev_runs 5 (18, [some (.inr (.inr 0)), some (.inl a1), some (.inl a2), some (.inl a3), none], [], g) (25, [some (.inr (.inr 0)), some (.inl a1), some (.inl a2), some (.inl a3), none], [.inl a3, .inl a2, .inl a1, .inr (.inr 85)], g) rfl ?_
      refine ec 240 28 [.inr (.inr 85), .inl a1, .inl a2, .inl a3] [] rfl (ev_Sh_wrongAbout a1 a2 a3 g _ rfl) ?_
      show Ev 246 28 [some (.inr (.inr 0)), some (.inl a1), some (.inl a2), some (.inl a3), none] [.inl (Sh_wrongAbout a1 a2 a3 g)] g _ _
      refine ev_runs 2 (28, [some (.inr (.inr 0)), some (.inl a1), some (.inl a2), some (.inl a3), none], [.inl (Sh_wrongAbout a1 a2 a3 g)], g) (32, [some (.inr (.inr 0)), some (.inl a1), some (.inl a2), some (.inl a3), some (.inl (Sh_wrongAbout a1 a2 a3 g))], [.inl (Sh_wrongAbout a1 a2 a3 g)], g) rfl ?_
      by_cases hc : (Sh_wrongAbout a1 a2 a3 g) = 0
      · rw [if_pos hc] at h
        refine es (45, [some (.inr (.inr 0)), some (.inl a1), some (.inl a2), some (.inl a3), some (.inl (Sh_wrongAbout a1 a2 a3 g))], [], g) (congrArg some (if_pos hc)) ?_
        refine ev_runs 4 (45, [some (.inr (.inr 0)), some (.inl a1), some (.inl a2), some (.inl a3), some (.inl (Sh_wrongAbout a1 a2 a3 g))], [], g) (51, [some (.inr (.inr 0)), some (.inl a1), some (.inl a2), some (.inl a3), some (.inl (Sh_wrongAbout a1 a2 a3 g))], [.inl a3, .inl a1, .inr (.inr 85)], g) rfl ?_
        refine ec 204 54 [.inr (.inr 85), .inl a1, .inl a3] [] rfl (ev_Sh_item a1 a3 g _ rfl) ?_
        show Ev 246 54 [some (.inr (.inr 0)), some (.inl a1), some (.inl a2), some (.inl a3), some (.inl (Sh_wrongAbout a1 a2 a3 g))] [.inl (Sh_item a1 a3 g)] g _ _
        cases h
        exact er rfl
      · rw [if_neg hc] at h
        refine es (35, [some (.inr (.inr 0)), some (.inl a1), some (.inl a2), some (.inl a3), some (.inl (Sh_wrongAbout a1 a2 a3 g))], [], g) (congrArg some (if_neg hc)) ?_
        refine ev_runs 4 (35, [some (.inr (.inr 0)), some (.inl a1), some (.inl a2), some (.inl a3), some (.inl (Sh_wrongAbout a1 a2 a3 g))], [], g) (44, [some (.inr (.inr 0)), some (.inl a1), some (.inl a2), some (.inl a3), some (.inl (Sh_wrongAbout a1 a2 a3 g))], [.inl (-2147483648)], (gset g 0 12 (Sh_wrongAbout a1 a2 a3 g))) rfl ?_
        cases h
        exact er rfl
    · rw [if_neg hc] at h
      refine es (14, [some (.inr (.inr 0)), some (.inl a1), some (.inl a2), some (.inl a3), none], [], g) (congrArg some (if_neg hc)) ?_
      refine ev_runs 1 (14, [some (.inr (.inr 0)), some (.inl a1), some (.inl a2), some (.inl a3), none], [], g) (17, [some (.inr (.inr 0)), some (.inl a1), some (.inl a2), some (.inl a3), none], [.inl (-2147483648)], g) rfl ?_
      cases h
      exact er rfl
set_option maxRecDepth 100000 in
set_option maxHeartbeats 4000000 in
theorem ev_Md_get (a1 a2 a3 : Int) (g : Gx) (r : Int) (g' : Gx) (h : Md_get a1 a2 a3 g = some (r, g')) : Ev 247 0 [some (.inr (.inr 92)), some (.inl a1), some (.inl a2), some (.inl a3)] [] g (some (.inl r)) g' := by
  rw [Md_get] at h
  refine ev_runs 1 (0, [some (.inr (.inr 92)), some (.inl a1), some (.inl a2), some (.inl a3)], [], g) (1, [some (.inr (.inr 92)), some (.inl a1), some (.inl a2), some (.inl a3)], [.inl a1], g) rfl ?_
  refine ec 208 4 [.inl a1] [] rfl (ev_Md_isSheet a1 g _ rfl) ?_
  show Ev 247 4 [some (.inr (.inr 92)), some (.inl a1), some (.inl a2), some (.inl a3)] [.inl (Md_isSheet a1)] g _ _
  by_cases hc : (Md_isSheet a1) = 0
  · rw [if_pos hc] at h
    refine es (29, [some (.inr (.inr 92)), some (.inl a1), some (.inl a2), some (.inl a3)], [], g) (congrArg some (if_pos hc)) ?_
    refine ev_runs 1 (29, [some (.inr (.inr 92)), some (.inl a1), some (.inl a2), some (.inl a3)], [], g) (31, [some (.inr (.inr 92)), some (.inl a1), some (.inl a2), some (.inl a3)], [.inl (-2147483648)], g) rfl ?_
    cases h
    exact er rfl
  · rw [if_neg hc] at h
    refine es (7, [some (.inr (.inr 92)), some (.inl a1), some (.inl a2), some (.inl a3)], [], g) (congrArg some (if_neg hc)) ?_
    refine ev_runs 4 (7, [some (.inr (.inr 92)), some (.inl a1), some (.inl a2), some (.inl a3)], [], g) (13, [some (.inr (.inr 92)), some (.inl a1), some (.inl a2), some (.inl a3)], [.inr (.inl 2), .inr (.inl 0), .inr (.inl a2)], g) rfl ?_
    refine ec 4 16 [.inr (.inl a2), .inr (.inl 0), .inr (.inl 2)] [] rfl (ev_Md_in a2 0 2 g _ rfl) ?_
    show Ev 247 16 [some (.inr (.inr 92)), some (.inl a1), some (.inl a2), some (.inl a3)] [.inl (Md_in a2 0 2)] g _ _
    by_cases hc : (Md_in a2 0 2) = 0
    · rw [if_pos hc] at h
      refine es (29, [some (.inr (.inr 92)), some (.inl a1), some (.inl a2), some (.inl a3)], [], g) (congrArg some (if_pos hc)) ?_
      refine ev_runs 1 (29, [some (.inr (.inr 92)), some (.inl a1), some (.inl a2), some (.inl a3)], [], g) (31, [some (.inr (.inr 92)), some (.inl a1), some (.inl a2), some (.inl a3)], [.inl (-2147483648)], g) rfl ?_
      cases h
      exact er rfl
    · rw [if_neg hc] at h
      refine es (19, [some (.inr (.inr 92)), some (.inl a1), some (.inl a2), some (.inl a3)], [], g) (congrArg some (if_neg hc)) ?_
      refine ev_runs 4 (19, [some (.inr (.inr 92)), some (.inl a1), some (.inl a2), some (.inl a3)], [], g) (23, [some (.inr (.inr 92)), some (.inl a1), some (.inl a2), some (.inl a3)], [.inl a3, .inl a2, .inl a1, .inr (.inr 92)], g) rfl ?_
      obtain ⟨q1, hq, h⟩ := Option.bind_eq_some_iff.mp h
      refine ec 243 26 [.inr (.inr 92), .inl a1, .inl a2, .inl a3] [] rfl (ev_Md_lacks a1 a2 a3 g q1.1 q1.2 hq) ?_
      show Ev 247 26 [some (.inr (.inr 92)), some (.inl a1), some (.inl a2), some (.inl a3)] [.inl q1.1] q1.2 _ _
      by_cases hc : q1.1 = 0
      · rw [if_pos hc] at h
        refine es (32, [some (.inr (.inr 92)), some (.inl a1), some (.inl a2), some (.inl a3)], [], q1.2) (congrArg some (if_pos hc)) ?_
        refine ev_runs 7 (32, [some (.inr (.inr 92)), some (.inl a1), some (.inl a2), some (.inl a3)], [], q1.2) (42, [some (.inr (.inr 92)), some (.inl a1), some (.inl a2), some (.inl a3)], [.inl (wr ((wr (60 * a1)) + a3)), .inr (.inr 95)], q1.2) rfl ?_
        by_cases hc : 0 ≤ (wr ((wr (60 * a1)) + a3)) ∧ (wr ((wr (60 * a1)) + a3)) < 240
        · rw [if_pos hc] at h
          refine es (43, [some (.inr (.inr 92)), some (.inl a1), some (.inl a2), some (.inl a3)], [.inl (q1.2 95 (wr ((wr (60 * a1)) + a3)).toNat)], q1.2) (if_pos hc) ?_
          cases h
          exact er rfl
        · rw [if_neg hc] at h; cases h
      · rw [if_neg hc] at h
        refine es (29, [some (.inr (.inr 92)), some (.inl a1), some (.inl a2), some (.inl a3)], [], q1.2) (congrArg some (if_neg hc)) ?_
        refine ev_runs 1 (29, [some (.inr (.inr 92)), some (.inl a1), some (.inl a2), some (.inl a3)], [], q1.2) (31, [some (.inr (.inr 92)), some (.inl a1), some (.inl a2), some (.inl a3)], [.inl (-2147483648)], q1.2) rfl ?_
        cases h
        exact er rfl
set_option maxRecDepth 100000 in
set_option maxHeartbeats 4000000 in
theorem ev_Sh_form (a1 : Int) (g : Gx) (r : Int) (h : Sh_form a1 g = r) : Ev 248 0 [some (.inr (.inr 85)), some (.inl a1)] [] g (some (.inl r)) g := by
  rw [Sh_form] at h
  refine ev_runs 3 (0, [some (.inr (.inr 85)), some (.inl a1)], [], g) (5, [some (.inr (.inr 85)), some (.inl a1)], [.inl a1, .inr (.inr 88)], g) rfl ?_
  refine ec 13 8 [.inr (.inr 88), .inl a1] [] rfl (ev_Row_at rfl rfl _ _) ?_
  show Ev 248 8 [some (.inr (.inr 85)), some (.inl a1)] [.inl (rat g 89 4 a1)] g _ _
  subst h
  exact er rfl
set_option maxRecDepth 100000 in
set_option maxHeartbeats 4000000 in
theorem ev_Sh_move_l3 (c1 : Int) (c2 : Int) (c3 : Int) (c4 : Int) (c5 : Int) (K3_62 : Gx → Option Gx) (hK3_62 : ∀ (g : Gx) (g' : Gx), K3_62 g = some g' → Ev 249 62 [none, none, none, none, none, none, none, none] [] g none g') : ∀ (n3 : Nat) (v6 : Int) (g : Gx) (g' : Gx), Sh_move_l3 c1 c2 c3 c4 c5 K3_62 n3 v6 g = some g' → Ev 249 3 [some (.inr (.inr 85)), some (.inl c1), some (.inl c2), some (.inl c3), some (.inl c4), some (.inl c5), some (.inl v6), none] [] g none g' := by
  intro n3
  induction n3 with
  | zero => intro v6 g g' h; cases h
  | succ n3 ih3 =>
    intro v6 g g' h
    rw [Sh_move_l3] at h
    refine ev_runs 2 (3, [some (.inr (.inr 85)), some (.inl c1), some (.inl c2), some (.inl c3), some (.inl c4), some (.inl c5), some (.inl v6), none], [], g) (7, [some (.inr (.inr 85)), some (.inl c1), some (.inl c2), some (.inl c3), some (.inl c4), some (.inl c5), some (.inl v6), none], [.inl c5, .inl v6], g) rfl ?_
    by_cases hc : c5 ≤ v6
    · rw [if_pos hc] at h
      refine es (62, [some (.inr (.inr 85)), some (.inl c1), some (.inl c2), some (.inl c3), some (.inl c4), some (.inl c5), some (.inl v6), none], [], g) (congrArg some (if_pos hc)) ?_
      exact ev_le (L := [none, none, none, none, none, none, none, none]) (by simp [Lle]) (hK3_62 g g' h)
    · rw [if_neg hc] at h
      refine es (10, [some (.inr (.inr 85)), some (.inl c1), some (.inl c2), some (.inl c3), some (.inl c4), some (.inl c5), some (.inl v6), none], [], g) (congrArg some (if_neg hc)) ?_
      refine ev_runs 2 (10, [some (.inr (.inr 85)), some (.inl c1), some (.inl c2), some (.inl c3), some (.inl c4), some (.inl c5), some (.inl v6), none], [], g) (13, [some (.inr (.inr 85)), some (.inl c1), some (.inl c2), some (.inl c3), some (.inl c4), some (.inl c5), some (.inl v6), none], [.inl c2, .inl c4], g) rfl ?_
      obtain ⟨y1, hy1, h⟩ := lett_inv h
      have hjy1 : Ev 249 28 [some (.inr (.inr 85)), some (.inl c1), some (.inl c2), some (.inl c3), some (.inl c4), some (.inl c5), some (.inl v6), none] [.inl y1] g none g' := by
        refine ev_runs 15 (28, [some (.inr (.inr 85)), some (.inl c1), some (.inl c2), some (.inl c3), some (.inl c4), some (.inl c5), some (.inl v6), none], [.inl y1], g) (50, [some (.inr (.inr 85)), some (.inl c1), some (.inl c2), some (.inl c3), some (.inl c4), some (.inl c5), some (.inl v6), some (.inl y1)], [.inl (wr (c2 + y1)), .inl c1, .inr (.inr 85), .inl (wr ((wr ((wr (c3 * 60)) + c4)) + y1)), .inr (.inr 86)], g) rfl ?_
        refine ec 204 53 [.inr (.inr 85), .inl c1, .inl (wr (c2 + y1))] [.inl (wr ((wr ((wr (c3 * 60)) + c4)) + y1)), .inr (.inr 86)] rfl (ev_Sh_item c1 (wr (c2 + y1)) g _ rfl) ?_
        show Ev 249 53 [some (.inr (.inr 85)), some (.inl c1), some (.inl c2), some (.inl c3), some (.inl c4), some (.inl c5), some (.inl v6), some (.inl y1)] [.inl (Sh_item c1 (wr (c2 + y1)) g), .inl (wr ((wr ((wr (c3 * 60)) + c4)) + y1)), .inr (.inr 86)] g _ _
        refine ec 0 56 [.inr (.inr 86), .inl (wr ((wr ((wr (c3 * 60)) + c4)) + y1)), .inl (Sh_item c1 (wr (c2 + y1)) g)] [] rfl (ev_Row_set rfl rfl _ _ _) ?_
        show Ev 249 56 [some (.inr (.inr 85)), some (.inl c1), some (.inl c2), some (.inl c3), some (.inl c4), some (.inl c5), some (.inl v6), some (.inl y1)] [] (rset g 87 240 (wr ((wr ((wr (c3 * 60)) + c4)) + y1)) (Sh_item c1 (wr (c2 + y1)) g)) _ _
        refine ev_runs 2 (56, [some (.inr (.inr 85)), some (.inl c1), some (.inl c2), some (.inl c3), some (.inl c4), some (.inl c5), some (.inl v6), some (.inl y1)], [], (rset g 87 240 (wr ((wr ((wr (c3 * 60)) + c4)) + y1)) (Sh_item c1 (wr (c2 + y1)) g))) (3, [some (.inr (.inr 85)), some (.inl c1), some (.inl c2), some (.inl c3), some (.inl c4), some (.inl c5), some (.inl (wr (v6 + 1))), some (.inl y1)], [], (rset g 87 240 (wr ((wr ((wr (c3 * 60)) + c4)) + y1)) (Sh_item c1 (wr (c2 + y1)) g))) rfl ?_
        exact ev_le (L := [some (.inr (.inr 85)), some (.inl c1), some (.inl c2), some (.inl c3), some (.inl c4), some (.inl c5), some (.inl (wr (v6 + 1))), none]) (by simp [Lle]) (ih3 (wr (v6 + 1)) (rset g 87 240 (wr ((wr ((wr (c3 * 60)) + c4)) + y1)) (Sh_item c1 (wr (c2 + y1)) g)) g' h)
      by_cases hc : c4 ≤ c2
      · rw [if_pos hc] at hy1
        refine es (26, [some (.inr (.inr 85)), some (.inl c1), some (.inl c2), some (.inl c3), some (.inl c4), some (.inl c5), some (.inl v6), none], [], g) (congrArg some (if_pos hc)) ?_
        refine ev_runs 1 (26, [some (.inr (.inr 85)), some (.inl c1), some (.inl c2), some (.inl c3), some (.inl c4), some (.inl c5), some (.inl v6), none], [], g) (28, [some (.inr (.inr 85)), some (.inl c1), some (.inl c2), some (.inl c3), some (.inl c4), some (.inl c5), some (.inl v6), none], [.inl v6], g) rfl ?_
        rw [hy1] at hjy1
        exact ev_le (L := [some (.inr (.inr 85)), some (.inl c1), some (.inl c2), some (.inl c3), some (.inl c4), some (.inl c5), some (.inl v6), none]) (by simp [Lle]) hjy1
      · rw [if_neg hc] at hy1
        refine es (16, [some (.inr (.inr 85)), some (.inl c1), some (.inl c2), some (.inl c3), some (.inl c4), some (.inl c5), some (.inl v6), none], [], g) (congrArg some (if_neg hc)) ?_
        refine ev_runs 6 (16, [some (.inr (.inr 85)), some (.inl c1), some (.inl c2), some (.inl c3), some (.inl c4), some (.inl c5), some (.inl v6), none], [], g) (28, [some (.inr (.inr 85)), some (.inl c1), some (.inl c2), some (.inl c3), some (.inl c4), some (.inl c5), some (.inl v6), none], [.inl (wr ((wr (c5 - 1)) - v6))], g) rfl ?_
        rw [hy1] at hjy1
        exact ev_le (L := [some (.inr (.inr 85)), some (.inl c1), some (.inl c2), some (.inl c3), some (.inl c4), some (.inl c5), some (.inl v6), none]) (by simp [Lle]) hjy1
set_option maxRecDepth 100000 in
set_option maxHeartbeats 4000000 in
theorem ev_Sh_move (a1 a2 a3 a4 a5 : Int) (g : Gx) (g' : Gx) (h : Sh_move a1 a2 a3 a4 a5 g = some g') : Ev 249 0 [some (.inr (.inr 85)), some (.inl a1), some (.inl a2), some (.inl a3), some (.inl a4), some (.inl a5), none, none] [] g none g' := by
  rw [Sh_move] at h
  refine ev_runs 2 (0, [some (.inr (.inr 85)), some (.inl a1), some (.inl a2), some (.inl a3), some (.inl a4), some (.inl a5), none, none], [], g) (3, [some (.inr (.inr 85)), some (.inl a1), some (.inl a2), some (.inl a3), some (.inl a4), some (.inl a5), some (.inl 0), none], [], g) rfl ?_
  refine ev_le (L := [some (.inr (.inr 85)), some (.inl a1), some (.inl a2), some (.inl a3), some (.inl a4), some (.inl a5), some (.inl 0), none]) (by simp [Lle]) ?_
  refine ev_Sh_move_l3 a1 a2 a3 a4 a5 _ ?_ fu 0 g g' h
  · intro g2 g' h
    cases h
    exact er rfl
set_option maxRecDepth 100000 in
set_option maxHeartbeats 4000000 in
theorem ev_Op_copy (a1 a2 a3 a4 a5 : Int) (g : Gx) (r : Int) (g' : Gx) (h : Op_copy a1 a2 a3 a4 a5 g = some (r, g')) : Ev 250 0 [some (.inr (.inr 0)), some (.inl a1), some (.inl a2), some (.inl a3), some (.inl a4), some (.inl a5)] [] g (some (.inl r)) g' := by
  rw [Op_copy] at h
  refine ev_runs 1 (0, [some (.inr (.inr 0)), some (.inl a1), some (.inl a2), some (.inl a3), some (.inl a4), some (.inl a5)], [], g) (1, [some (.inr (.inr 0)), some (.inl a1), some (.inl a2), some (.inl a3), some (.inl a4), some (.inl a5)], [.inl a1], g) rfl ?_
  refine ec 200 4 [.inl a1] [] rfl (ev_Op_isSheet a1 g _ rfl) ?_
  show Ev 250 4 [some (.inr (.inr 0)), some (.inl a1), some (.inl a2), some (.inl a3), some (.inl a4), some (.inl a5)] [.inl (Op_isSheet a1)] g _ _
  by_cases hc : (Op_isSheet a1) = 0
  · rw [if_pos hc] at h
    refine es (14, [some (.inr (.inr 0)), some (.inl a1), some (.inl a2), some (.inl a3), some (.inl a4), some (.inl a5)], [], g) (congrArg some (if_pos hc)) ?_
    refine ev_runs 1 (14, [some (.inr (.inr 0)), some (.inl a1), some (.inl a2), some (.inl a3), some (.inl a4), some (.inl a5)], [], g) (16, [some (.inr (.inr 0)), some (.inl a1), some (.inl a2), some (.inl a3), some (.inl a4), some (.inl a5)], [.inl (-2)], g) rfl ?_
    cases h
    exact er rfl
  · rw [if_neg hc] at h
    refine es (7, [some (.inr (.inr 0)), some (.inl a1), some (.inl a2), some (.inl a3), some (.inl a4), some (.inl a5)], [], g) (congrArg some (if_neg hc)) ?_
    refine ev_runs 1 (7, [some (.inr (.inr 0)), some (.inl a1), some (.inl a2), some (.inl a3), some (.inl a4), some (.inl a5)], [], g) (8, [some (.inr (.inr 0)), some (.inl a1), some (.inl a2), some (.inl a3), some (.inl a4), some (.inl a5)], [.inl a3], g) rfl ?_
    refine ec 200 11 [.inl a3] [] rfl (ev_Op_isSheet a3 g _ rfl) ?_
    show Ev 250 11 [some (.inr (.inr 0)), some (.inl a1), some (.inl a2), some (.inl a3), some (.inl a4), some (.inl a5)] [.inl (Op_isSheet a3)] g _ _
    by_cases hc : ¬ (Op_isSheet a3) = 0
    · rw [if_pos hc] at h
      refine es (17, [some (.inr (.inr 0)), some (.inl a1), some (.inl a2), some (.inl a3), some (.inl a4), some (.inl a5)], [], g) (congrArg some (if_pos hc)) ?_
      refine ev_runs 3 (17, [some (.inr (.inr 0)), some (.inl a1), some (.inl a2), some (.inl a3), some (.inl a4), some (.inl a5)], [], g) (22, [some (.inr (.inr 0)), some (.inl a1), some (.inl a2), some (.inl a3), some (.inl a4), some (.inl a5)], [.inl a1, .inr (.inr 85)], g) rfl ?_
      refine ec 201 25 [.inr (.inr 85), .inl a1] [] rfl (ev_Sh_isLost a1 g _ rfl) ?_
      show Ev 250 25 [some (.inr (.inr 0)), some (.inl a1), some (.inl a2), some (.inl a3), some (.inl a4), some (.inl a5)] [.inl (Sh_isLost a1 g)] g _ _
      by_cases hc : ¬ (Sh_isLost a1 g) = 0
      · rw [if_pos hc] at h
        refine es (39, [some (.inr (.inr 0)), some (.inl a1), some (.inl a2), some (.inl a3), some (.inl a4), some (.inl a5)], [], g) (congrArg some (if_pos hc)) ?_
        refine ev_runs 2 (39, [some (.inr (.inr 0)), some (.inl a1), some (.inl a2), some (.inl a3), some (.inl a4), some (.inl a5)], [], g) (41, [some (.inr (.inr 0)), some (.inl a1), some (.inl a2), some (.inl a3), some (.inl a4), some (.inl a5)], [.inl 1, .inr (.inr 0)], g) rfl ?_
        obtain ⟨q1, hq, h⟩ := lett_inv h
        refine ec 202 44 [.inr (.inr 0), .inl 1] [] rfl (ev_Op_found 1 g q1.1 q1.2 hq.symm) ?_
        show Ev 250 44 [some (.inr (.inr 0)), some (.inl a1), some (.inl a2), some (.inl a3), some (.inl a4), some (.inl a5)] [.inl q1.1] q1.2 _ _
        cases h
        exact er rfl
      · rw [if_neg hc] at h
        refine es (28, [some (.inr (.inr 0)), some (.inl a1), some (.inl a2), some (.inl a3), some (.inl a4), some (.inl a5)], [], g) (congrArg some (if_neg hc)) ?_
        refine ev_runs 3 (28, [some (.inr (.inr 0)), some (.inl a1), some (.inl a2), some (.inl a3), some (.inl a4), some (.inl a5)], [], g) (33, [some (.inr (.inr 0)), some (.inl a1), some (.inl a2), some (.inl a3), some (.inl a4), some (.inl a5)], [.inl a3, .inr (.inr 85)], g) rfl ?_
        refine ec 201 36 [.inr (.inr 85), .inl a3] [] rfl (ev_Sh_isLost a3 g _ rfl) ?_
        show Ev 250 36 [some (.inr (.inr 0)), some (.inl a1), some (.inl a2), some (.inl a3), some (.inl a4), some (.inl a5)] [.inl (Sh_isLost a3 g)] g _ _
        by_cases hc : (Sh_isLost a3 g) = 0
        · rw [if_pos hc] at h
          refine es (45, [some (.inr (.inr 0)), some (.inl a1), some (.inl a2), some (.inl a3), some (.inl a4), some (.inl a5)], [], g) (congrArg some (if_pos hc)) ?_
          refine ev_runs 3 (45, [some (.inr (.inr 0)), some (.inl a1), some (.inl a2), some (.inl a3), some (.inl a4), some (.inl a5)], [], g) (50, [some (.inr (.inr 0)), some (.inl a1), some (.inl a2), some (.inl a3), some (.inl a4), some (.inl a5)], [.inl a1, .inr (.inr 85)], g) rfl ?_
          refine ec 248 53 [.inr (.inr 85), .inl a1] [] rfl (ev_Sh_form a1 g _ rfl) ?_
          show Ev 250 53 [some (.inr (.inr 0)), some (.inl a1), some (.inl a2), some (.inl a3), some (.inl a4), some (.inl a5)] [.inl (Sh_form a1 g)] g _ _
          refine ev_runs 3 (53, [some (.inr (.inr 0)), some (.inl a1), some (.inl a2), some (.inl a3), some (.inl a4), some (.inl a5)], [.inl (Sh_form a1 g)], g) (58, [some (.inr (.inr 0)), some (.inl a1), some (.inl a2), some (.inl a3), some (.inl a4), some (.inl a5)], [.inl a3, .inr (.inr 85), .inl (Sh_form a1 g)], g) rfl ?_
          refine ec 248 61 [.inr (.inr 85), .inl a3] [.inl (Sh_form a1 g)] rfl (ev_Sh_form a3 g _ rfl) ?_
          show Ev 250 61 [some (.inr (.inr 0)), some (.inl a1), some (.inl a2), some (.inl a3), some (.inl a4), some (.inl a5)] [.inl (Sh_form a3 g), .inl (Sh_form a1 g)] g _ _
          by_cases hc : (Sh_form a1 g) = (Sh_form a3 g)
          · rw [if_pos hc] at h
            refine es (70, [some (.inr (.inr 0)), some (.inl a1), some (.inl a2), some (.inl a3), some (.inl a4), some (.inl a5)], [], g) (congrArg some (if_pos hc)) ?_
            refine ev_runs 5 (70, [some (.inr (.inr 0)), some (.inl a1), some (.inl a2), some (.inl a3), some (.inl a4), some (.inl a5)], [], g) (78, [some (.inr (.inr 0)), some (.inl a1), some (.inl a2), some (.inl a3), some (.inl a4), some (.inl a5)], [.inl a5, .inl a2, .inl a1, .inr (.inr 85)], g) rfl ?_
            refine ec 239 81 [.inr (.inr 85), .inl a1, .inl a2, .inl a5] [] rfl (ev_Sh_hasItems a1 a2 a5 g _ rfl) ?_
            show Ev 250 81 [some (.inr (.inr 0)), some (.inl a1), some (.inl a2), some (.inl a3), some (.inl a4), some (.inl a5)] [.inl (Sh_hasItems a1 a2 a5 g)] g _ _
            by_cases hc : (Sh_hasItems a1 a2 a5 g) = 0
            · rw [if_pos hc] at h
              refine es (99, [some (.inr (.inr 0)), some (.inl a1), some (.inl a2), some (.inl a3), some (.inl a4), some (.inl a5)], [], g) (congrArg some (if_pos hc)) ?_
              refine ev_runs 2 (99, [some (.inr (.inr 0)), some (.inl a1), some (.inl a2), some (.inl a3), some (.inl a4), some (.inl a5)], [], g) (101, [some (.inr (.inr 0)), some (.inl a1), some (.inl a2), some (.inl a3), some (.inl a4), some (.inl a5)], [.inl 2, .inr (.inr 0)], g) rfl ?_
              obtain ⟨q2, hq, h⟩ := lett_inv h
              refine ec 202 104 [.inr (.inr 0), .inl 2] [] rfl (ev_Op_found 2 g q2.1 q2.2 hq.symm) ?_
              show Ev 250 104 [some (.inr (.inr 0)), some (.inl a1), some (.inl a2), some (.inl a3), some (.inl a4), some (.inl a5)] [.inl q2.1] q2.2 _ _
              cases h
              exact er rfl
            · rw [if_neg hc] at h
              refine es (84, [some (.inr (.inr 0)), some (.inl a1), some (.inl a2), some (.inl a3), some (.inl a4), some (.inl a5)], [], g) (congrArg some (if_neg hc)) ?_
              refine ev_runs 5 (84, [some (.inr (.inr 0)), some (.inl a1), some (.inl a2), some (.inl a3), some (.inl a4), some (.inl a5)], [], g) (93, [some (.inr (.inr 0)), some (.inl a1), some (.inl a2), some (.inl a3), some (.inl a4), some (.inl a5)], [.inl a5, .inl a4, .inl a3, .inr (.inr 85)], g) rfl ?_
              refine ec 239 96 [.inr (.inr 85), .inl a3, .inl a4, .inl a5] [] rfl (ev_Sh_hasItems a3 a4 a5 g _ rfl) ?_
              show Ev 250 96 [some (.inr (.inr 0)), some (.inl a1), some (.inl a2), some (.inl a3), some (.inl a4), some (.inl a5)] [.inl (Sh_hasItems a3 a4 a5 g)] g _ _
              by_cases hc : ¬ (Sh_hasItems a3 a4 a5 g) = 0
              · rw [if_pos hc] at h
                refine es (105, [some (.inr (.inr 0)), some (.inl a1), some (.inl a2), some (.inl a3), some (.inl a4), some (.inl a5)], [], g) (congrArg some (if_pos hc)) ?_
                refine ev_runs 7 (105, [some (.inr (.inr 0)), some (.inl a1), some (.inl a2), some (.inl a3), some (.inl a4), some (.inl a5)], [], g) (116, [some (.inr (.inr 0)), some (.inl a1), some (.inl a2), some (.inl a3), some (.inl a4), some (.inl a5)], [.inl a5, .inl a4, .inl a3, .inl a2, .inl a1, .inr (.inr 85)], g) rfl ?_
                obtain ⟨g3, hq, h⟩ := Option.bind_eq_some_iff.mp h
                refine ec 249 119 [.inr (.inr 85), .inl a1, .inl a2, .inl a3, .inl a4, .inl a5] [] rfl (ev_Sh_move a1 a2 a3 a4 a5 g g3 hq) ?_
                show Ev 250 119 [some (.inr (.inr 0)), some (.inl a1), some (.inl a2), some (.inl a3), some (.inl a4), some (.inl a5)] [] g3 _ _
                refine ev_runs 1 (119, [some (.inr (.inr 0)), some (.inl a1), some (.inl a2), some (.inl a3), some (.inl a4), some (.inl a5)], [], g3) (120, [some (.inr (.inr 0)), some (.inl a1), some (.inl a2), some (.inl a3), some (.inl a4), some (.inl a5)], [.inl 1], g3) rfl ?_
                cases h
                exact er rfl
              · rw [if_neg hc] at h
                refine es (99, [some (.inr (.inr 0)), some (.inl a1), some (.inl a2), some (.inl a3), some (.inl a4), some (.inl a5)], [], g) (congrArg some (if_neg hc)) ?_
                refine ev_runs 2 (99, [some (.inr (.inr 0)), some (.inl a1), some (.inl a2), some (.inl a3), some (.inl a4), some (.inl a5)], [], g) (101, [some (.inr (.inr 0)), some (.inl a1), some (.inl a2), some (.inl a3), some (.inl a4), some (.inl a5)], [.inl 2, .inr (.inr 0)], g) rfl ?_
                obtain ⟨q4, hq, h⟩ := lett_inv h
                refine ec 202 104 [.inr (.inr 0), .inl 2] [] rfl (ev_Op_found 2 g q4.1 q4.2 hq.symm) ?_
                show Ev 250 104 [some (.inr (.inr 0)), some (.inl a1), some (.inl a2), some (.inl a3), some (.inl a4), some (.inl a5)] [.inl q4.1] q4.2 _ _
                cases h
                exact er rfl
          · rw [if_neg hc] at h
            refine es (64, [some (.inr (.inr 0)), some (.inl a1), some (.inl a2), some (.inl a3), some (.inl a4), some (.inl a5)], [], g) (congrArg some (if_neg hc)) ?_
            refine ev_runs 2 (64, [some (.inr (.inr 0)), some (.inl a1), some (.inl a2), some (.inl a3), some (.inl a4), some (.inl a5)], [], g) (66, [some (.inr (.inr 0)), some (.inl a1), some (.inl a2), some (.inl a3), some (.inl a4), some (.inl a5)], [.inl 4, .inr (.inr 0)], g) rfl ?_
            obtain ⟨q5, hq, h⟩ := lett_inv h
            refine ec 202 69 [.inr (.inr 0), .inl 4] [] rfl (ev_Op_found 4 g q5.1 q5.2 hq.symm) ?_
            show Ev 250 69 [some (.inr (.inr 0)), some (.inl a1), some (.inl a2), some (.inl a3), some (.inl a4), some (.inl a5)] [.inl q5.1] q5.2 _ _
            cases h
            exact er rfl
        · rw [if_neg hc] at h
          refine es (39, [some (.inr (.inr 0)), some (.inl a1), some (.inl a2), some (.inl a3), some (.inl a4), some (.inl a5)], [], g) (congrArg some (if_neg hc)) ?_
          refine ev_runs 2 (39, [some (.inr (.inr 0)), some (.inl a1), some (.inl a2), some (.inl a3), some (.inl a4), some (.inl a5)], [], g) (41, [some (.inr (.inr 0)), some (.inl a1), some (.inl a2), some (.inl a3), some (.inl a4), some (.inl a5)], [.inl 1, .inr (.inr 0)], g) rfl ?_
          obtain ⟨q6, hq, h⟩ := lett_inv h
          refine ec 202 44 [.inr (.inr 0), .inl 1] [] rfl (ev_Op_found 1 g q6.1 q6.2 hq.symm) ?_
          show Ev 250 44 [some (.inr (.inr 0)), some (.inl a1), some (.inl a2), some (.inl a3), some (.inl a4), some (.inl a5)] [.inl q6.1] q6.2 _ _
          cases h
          exact er rfl
    · rw [if_neg hc] at h
      refine es (14, [some (.inr (.inr 0)), some (.inl a1), some (.inl a2), some (.inl a3), some (.inl a4), some (.inl a5)], [], g) (congrArg some (if_neg hc)) ?_
      refine ev_runs 1 (14, [some (.inr (.inr 0)), some (.inl a1), some (.inl a2), some (.inl a3), some (.inl a4), some (.inl a5)], [], g) (16, [some (.inr (.inr 0)), some (.inl a1), some (.inl a2), some (.inl a3), some (.inl a4), some (.inl a5)], [.inl (-2)], g) rfl ?_
      cases h
      exact er rfl
set_option maxRecDepth 100000 in
set_option maxHeartbeats 4000000 in
theorem ev_Md_copy_l120 (c1 : Int) (c2 : Int) (c3 : Int) (c4 : Int) (c5 : Int) (K120_154 : Gx → Option (Int × Gx)) (hK120_154 : ∀ (g : Gx) (r : Int) (g' : Gx), K120_154 g = some (r, g') → Ev 251 154 [some (.inr (.inr 92)), none, none, some (.inl c3), some (.inl c4), some (.inl c5), none] [] g (some (.inl r)) g') : ∀ (n120 : Nat) (v6 : Int) (g : Gx) (r : Int) (g' : Gx), Md_copy_l120 c1 c2 c3 c4 c5 K120_154 n120 v6 g = some (r, g') → Ev 251 120 [some (.inr (.inr 92)), some (.inl c1), some (.inl c2), some (.inl c3), some (.inl c4), some (.inl c5), some (.inl v6)] [] g (some (.inl r)) g' := by
  intro n120
  induction n120 with
  | zero => intro v6 g r g' h; cases h
  | succ n120 ih120 =>
    intro v6 g r g' h
    rw [Md_copy_l120] at h
    refine ev_runs 2 (120, [some (.inr (.inr 92)), some (.inl c1), some (.inl c2), some (.inl c3), some (.inl c4), some (.inl c5), some (.inl v6)], [], g) (124, [some (.inr (.inr 92)), some (.inl c1), some (.inl c2), some (.inl c3), some (.inl c4), some (.inl c5), some (.inl v6)], [.inl c5, .inl v6], g) rfl ?_
    by_cases hc : c5 ≤ v6
    · rw [if_pos hc] at h
      refine es (154, [some (.inr (.inr 92)), some (.inl c1), some (.inl c2), some (.inl c3), some (.inl c4), some (.inl c5), some (.inl v6)], [], g) (congrArg some (if_pos hc)) ?_
      exact ev_le (L := [some (.inr (.inr 92)), none, none, some (.inl c3), some (.inl c4), some (.inl c5), none]) (by simp [Lle]) (hK120_154 g r g' h)
    · rw [if_neg hc] at h
      refine es (127, [some (.inr (.inr 92)), some (.inl c1), some (.inl c2), some (.inl c3), some (.inl c4), some (.inl c5), some (.inl v6)], [], g) (congrArg some (if_neg hc)) ?_
      refine ev_runs 12 (127, [some (.inr (.inr 92)), some (.inl c1), some (.inl c2), some (.inl c3), some (.inl c4), some (.inl c5), some (.inl v6)], [], g) (146, [some (.inr (.inr 92)), some (.inl c1), some (.inl c2), some (.inl c3), some (.inl c4), some (.inl c5), some (.inl v6)], [.inl (wr ((wr ((wr (60 * c1)) + c2)) + v6)), .inr (.inr 95), .inl v6, .inr (.inr 96)], g) rfl ?_
      by_cases hc : 0 ≤ (wr ((wr ((wr (60 * c1)) + c2)) + v6)) ∧ (wr ((wr ((wr (60 * c1)) + c2)) + v6)) < 240
      · rw [if_pos hc] at h
        refine es (147, [some (.inr (.inr 92)), some (.inl c1), some (.inl c2), some (.inl c3), some (.inl c4), some (.inl c5), some (.inl v6)], [.inl (g 95 (wr ((wr ((wr (60 * c1)) + c2)) + v6)).toNat), .inl v6, .inr (.inr 96)], g) (if_pos hc) ?_
        by_cases hc : 0 ≤ v6 ∧ v6 < 60
        · rw [if_pos hc] at h
          refine es (148, [some (.inr (.inr 92)), some (.inl c1), some (.inl c2), some (.inl c3), some (.inl c4), some (.inl c5), some (.inl v6)], [], (gset g 96 v6.toNat (g 95 (wr ((wr ((wr (60 * c1)) + c2)) + v6)).toNat))) (if_pos hc) ?_
          refine ev_runs 2 (148, [some (.inr (.inr 92)), some (.inl c1), some (.inl c2), some (.inl c3), some (.inl c4), some (.inl c5), some (.inl v6)], [], (gset g 96 v6.toNat (g 95 (wr ((wr ((wr (60 * c1)) + c2)) + v6)).toNat))) (120, [some (.inr (.inr 92)), some (.inl c1), some (.inl c2), some (.inl c3), some (.inl c4), some (.inl c5), some (.inl (wr (v6 + 1)))], [], (gset g 96 v6.toNat (g 95 (wr ((wr ((wr (60 * c1)) + c2)) + v6)).toNat))) rfl ?_
          exact ev_le (L := [some (.inr (.inr 92)), some (.inl c1), some (.inl c2), some (.inl c3), some (.inl c4), some (.inl c5), some (.inl (wr (v6 + 1)))]) (by simp [Lle]) (ih120 (wr (v6 + 1)) (gset g 96 v6.toNat (g 95 (wr ((wr ((wr (60 * c1)) + c2)) + v6)).toNat)) r g' h)
        · rw [if_neg hc] at h; cases h
      · rw [if_neg hc] at h; cases h
set_option maxRecDepth 100000 in
set_option maxHeartbeats 4000000 in
theorem ev_Md_copy_l157 (c3 : Int) (c4 : Int) (c5 : Int) (K157_192 : Gx → Option (Int × Gx)) (hK157_192 : ∀ (g : Gx) (r : Int) (g' : Gx), K157_192 g = some (r, g') → Ev 251 192 [none, none, none, none, none, none, none] [] g (some (.inl r)) g') : ∀ (n157 : Nat) (v6 : Int) (g : Gx) (r : Int) (g' : Gx), Md_copy_l157 c3 c4 c5 K157_192 n157 v6 g = some (r, g') → Ev 251 157 [some (.inr (.inr 92)), none, none, some (.inl c3), some (.inl c4), some (.inl c5), some (.inl v6)] [] g (some (.inl r)) g' := by
  intro n157
  induction n157 with
  | zero => intro v6 g r g' h; cases h
  | succ n157 ih157 =>
    intro v6 g r g' h
    rw [Md_copy_l157] at h
    refine ev_runs 2 (157, [some (.inr (.inr 92)), none, none, some (.inl c3), some (.inl c4), some (.inl c5), some (.inl v6)], [], g) (161, [some (.inr (.inr 92)), none, none, some (.inl c3), some (.inl c4), some (.inl c5), some (.inl v6)], [.inl c5, .inl v6], g) rfl ?_
    by_cases hc : c5 ≤ v6
    · rw [if_pos hc] at h
      refine es (192, [some (.inr (.inr 92)), none, none, some (.inl c3), some (.inl c4), some (.inl c5), some (.inl v6)], [], g) (congrArg some (if_pos hc)) ?_
      exact ev_le (L := [none, none, none, none, none, none, none]) (by simp [Lle]) (hK157_192 g r g' h)
    · rw [if_neg hc] at h
      refine es (164, [some (.inr (.inr 92)), none, none, some (.inl c3), some (.inl c4), some (.inl c5), some (.inl v6)], [], g) (congrArg some (if_neg hc)) ?_
      refine ev_runs 12 (164, [some (.inr (.inr 92)), none, none, some (.inl c3), some (.inl c4), some (.inl c5), some (.inl v6)], [], g) (184, [some (.inr (.inr 92)), none, none, some (.inl c3), some (.inl c4), some (.inl c5), some (.inl v6)], [.inl v6, .inr (.inr 96), .inl (wr ((wr ((wr (60 * c3)) + c4)) + v6)), .inr (.inr 95)], g) rfl ?_
      by_cases hc : 0 ≤ v6 ∧ v6 < 60
      · rw [if_pos hc] at h
        refine es (185, [some (.inr (.inr 92)), none, none, some (.inl c3), some (.inl c4), some (.inl c5), some (.inl v6)], [.inl (g 96 v6.toNat), .inl (wr ((wr ((wr (60 * c3)) + c4)) + v6)), .inr (.inr 95)], g) (if_pos hc) ?_
        by_cases hc : 0 ≤ (wr ((wr ((wr (60 * c3)) + c4)) + v6)) ∧ (wr ((wr ((wr (60 * c3)) + c4)) + v6)) < 240
        · rw [if_pos hc] at h
          refine es (186, [some (.inr (.inr 92)), none, none, some (.inl c3), some (.inl c4), some (.inl c5), some (.inl v6)], [], (gset g 95 ((wr ((wr ((wr (60 * c3)) + c4)) + v6)).toNat) (g 96 v6.toNat))) (if_pos hc) ?_
          refine ev_runs 2 (186, [some (.inr (.inr 92)), none, none, some (.inl c3), some (.inl c4), some (.inl c5), some (.inl v6)], [], (gset g 95 ((wr ((wr ((wr (60 * c3)) + c4)) + v6)).toNat) (g 96 v6.toNat))) (157, [some (.inr (.inr 92)), none, none, some (.inl c3), some (.inl c4), some (.inl c5), some (.inl (wr (v6 + 1)))], [], (gset g 95 ((wr ((wr ((wr (60 * c3)) + c4)) + v6)).toNat) (g 96 v6.toNat))) rfl ?_
          exact ev_le (L := [some (.inr (.inr 92)), none, none, some (.inl c3), some (.inl c4), some (.inl c5), some (.inl (wr (v6 + 1)))]) (by simp [Lle]) (ih157 (wr (v6 + 1)) (gset g 95 ((wr ((wr ((wr (60 * c3)) + c4)) + v6)).toNat) (g 96 v6.toNat)) r g' h)
        · rw [if_neg hc] at h; cases h
      · rw [if_neg hc] at h; cases h
set_option maxRecDepth 100000 in
set_option maxHeartbeats 4000000 in
theorem ev_Md_copy (a1 a2 a3 a4 a5 : Int) (g : Gx) (r : Int) (g' : Gx) (h : Md_copy a1 a2 a3 a4 a5 g = some (r, g')) : Ev 251 0 [some (.inr (.inr 92)), some (.inl a1), some (.inl a2), some (.inl a3), some (.inl a4), some (.inl a5), none] [] g (some (.inl r)) g' := by
  rw [Md_copy] at h
  refine ev_runs 1 (0, [some (.inr (.inr 92)), some (.inl a1), some (.inl a2), some (.inl a3), some (.inl a4), some (.inl a5), none], [], g) (1, [some (.inr (.inr 92)), some (.inl a1), some (.inl a2), some (.inl a3), some (.inl a4), some (.inl a5), none], [.inl a1], g) rfl ?_
  refine ec 208 4 [.inl a1] [] rfl (ev_Md_isSheet a1 g _ rfl) ?_
  show Ev 251 4 [some (.inr (.inr 92)), some (.inl a1), some (.inl a2), some (.inl a3), some (.inl a4), some (.inl a5), none] [.inl (Md_isSheet a1)] g _ _
  by_cases hc : (Md_isSheet a1) = 0
  · rw [if_pos hc] at h
    refine es (14, [some (.inr (.inr 92)), some (.inl a1), some (.inl a2), some (.inl a3), some (.inl a4), some (.inl a5), none], [], g) (congrArg some (if_pos hc)) ?_
    refine ev_runs 1 (14, [some (.inr (.inr 92)), some (.inl a1), some (.inl a2), some (.inl a3), some (.inl a4), some (.inl a5), none], [], g) (16, [some (.inr (.inr 92)), some (.inl a1), some (.inl a2), some (.inl a3), some (.inl a4), some (.inl a5), none], [.inl (-2)], g) rfl ?_
    cases h
    exact er rfl
  · rw [if_neg hc] at h
    refine es (7, [some (.inr (.inr 92)), some (.inl a1), some (.inl a2), some (.inl a3), some (.inl a4), some (.inl a5), none], [], g) (congrArg some (if_neg hc)) ?_
    refine ev_runs 1 (7, [some (.inr (.inr 92)), some (.inl a1), some (.inl a2), some (.inl a3), some (.inl a4), some (.inl a5), none], [], g) (8, [some (.inr (.inr 92)), some (.inl a1), some (.inl a2), some (.inl a3), some (.inl a4), some (.inl a5), none], [.inl a3], g) rfl ?_
    refine ec 208 11 [.inl a3] [] rfl (ev_Md_isSheet a3 g _ rfl) ?_
    show Ev 251 11 [some (.inr (.inr 92)), some (.inl a1), some (.inl a2), some (.inl a3), some (.inl a4), some (.inl a5), none] [.inl (Md_isSheet a3)] g _ _
    by_cases hc : ¬ (Md_isSheet a3) = 0
    · rw [if_pos hc] at h
      refine es (17, [some (.inr (.inr 92)), some (.inl a1), some (.inl a2), some (.inl a3), some (.inl a4), some (.inl a5), none], [], g) (congrArg some (if_pos hc)) ?_
      refine ev_runs 3 (17, [some (.inr (.inr 92)), some (.inl a1), some (.inl a2), some (.inl a3), some (.inl a4), some (.inl a5), none], [], g) (22, [some (.inr (.inr 92)), some (.inl a1), some (.inl a2), some (.inl a3), some (.inl a4), some (.inl a5), none], [.inl a1, .inr (.inr 93)], g) rfl ?_
      by_cases hc : 0 ≤ a1 ∧ a1 < 4
      · rw [if_pos hc] at h
        refine es (23, [some (.inr (.inr 92)), some (.inl a1), some (.inl a2), some (.inl a3), some (.inl a4), some (.inl a5), none], [.inl (g 93 a1.toNat)], g) (if_pos hc) ?_
        by_cases hc : (g 93 a1.toNat) < 0
        · rw [if_pos hc] at h
          refine es (35, [some (.inr (.inr 92)), some (.inl a1), some (.inl a2), some (.inl a3), some (.inl a4), some (.inl a5), none], [], g) (congrArg some (if_pos hc)) ?_
          refine ev_runs 2 (35, [some (.inr (.inr 92)), some (.inl a1), some (.inl a2), some (.inl a3), some (.inl a4), some (.inl a5), none], [], g) (37, [some (.inr (.inr 92)), some (.inl a1), some (.inl a2), some (.inl a3), some (.inl a4), some (.inl a5), none], [.inl 1, .inr (.inr 92)], g) rfl ?_
          obtain ⟨q1, hq, h⟩ := lett_inv h
          refine ec 209 40 [.inr (.inr 92), .inl 1] [] rfl (ev_Md_met 1 g q1.1 q1.2 hq.symm) ?_
          show Ev 251 40 [some (.inr (.inr 92)), some (.inl a1), some (.inl a2), some (.inl a3), some (.inl a4), some (.inl a5), none] [.inl q1.1] q1.2 _ _
          cases h
          exact er rfl
        · rw [if_neg hc] at h
          refine es (26, [some (.inr (.inr 92)), some (.inl a1), some (.inl a2), some (.inl a3), some (.inl a4), some (.inl a5), none], [], g) (congrArg some (if_neg hc)) ?_
          refine ev_runs 3 (26, [some (.inr (.inr 92)), some (.inl a1), some (.inl a2), some (.inl a3), some (.inl a4), some (.inl a5), none], [], g) (31, [some (.inr (.inr 92)), some (.inl a1), some (.inl a2), some (.inl a3), some (.inl a4), some (.inl a5), none], [.inl a3, .inr (.inr 93)], g) rfl ?_
          by_cases hc : 0 ≤ a3 ∧ a3 < 4
          · rw [if_pos hc] at h
            refine es (32, [some (.inr (.inr 92)), some (.inl a1), some (.inl a2), some (.inl a3), some (.inl a4), some (.inl a5), none], [.inl (g 93 a3.toNat)], g) (if_pos hc) ?_
            by_cases hc : 0 ≤ (g 93 a3.toNat)
            · rw [if_pos hc] at h
              refine es (41, [some (.inr (.inr 92)), some (.inl a1), some (.inl a2), some (.inl a3), some (.inl a4), some (.inl a5), none], [], g) (congrArg some (if_pos hc)) ?_
              refine ev_runs 3 (41, [some (.inr (.inr 92)), some (.inl a1), some (.inl a2), some (.inl a3), some (.inl a4), some (.inl a5), none], [], g) (46, [some (.inr (.inr 92)), some (.inl a1), some (.inl a2), some (.inl a3), some (.inl a4), some (.inl a5), none], [.inl a1, .inr (.inr 93)], g) rfl ?_
              by_cases hc : 0 ≤ a1 ∧ a1 < 4
              · rw [if_pos hc] at h
                refine es (47, [some (.inr (.inr 92)), some (.inl a1), some (.inl a2), some (.inl a3), some (.inl a4), some (.inl a5), none], [.inl (g 93 a1.toNat)], g) (if_pos hc) ?_
                refine ev_runs 3 (47, [some (.inr (.inr 92)), some (.inl a1), some (.inl a2), some (.inl a3), some (.inl a4), some (.inl a5), none], [.inl (g 93 a1.toNat)], g) (52, [some (.inr (.inr 92)), some (.inl a1), some (.inl a2), some (.inl a3), some (.inl a4), some (.inl a5), none], [.inl a3, .inr (.inr 93), .inl (g 93 a1.toNat)], g) rfl ?_
                by_cases hc : 0 ≤ a3 ∧ a3 < 4
                · rw [if_pos hc] at h
                  refine es (53, [some (.inr (.inr 92)), some (.inl a1), some (.inl a2), some (.inl a3), some (.inl a4), some (.inl a5), none], [.inl (g 93 a3.toNat), .inl (g 93 a1.toNat)], g) (if_pos hc) ?_
                  by_cases hc : (g 93 a1.toNat) = (g 93 a3.toNat)
                  · rw [if_pos hc] at h
                    refine es (62, [some (.inr (.inr 92)), some (.inl a1), some (.inl a2), some (.inl a3), some (.inl a4), some (.inl a5), none], [], g) (congrArg some (if_pos hc)) ?_
                    refine ev_runs 1 (62, [some (.inr (.inr 92)), some (.inl a1), some (.inl a2), some (.inl a3), some (.inl a4), some (.inl a5), none], [], g) (63, [some (.inr (.inr 92)), some (.inl a1), some (.inl a2), some (.inl a3), some (.inl a4), some (.inl a5), none], [.inl a2], g) rfl ?_
                    by_cases hc : a2 < 0
                    · rw [if_pos hc] at h
                      refine es (111, [some (.inr (.inr 92)), some (.inl a1), some (.inl a2), some (.inl a3), some (.inl a4), some (.inl a5), none], [], g) (congrArg some (if_pos hc)) ?_
                      refine ev_runs 2 (111, [some (.inr (.inr 92)), some (.inl a1), some (.inl a2), some (.inl a3), some (.inl a4), some (.inl a5), none], [], g) (113, [some (.inr (.inr 92)), some (.inl a1), some (.inl a2), some (.inl a3), some (.inl a4), some (.inl a5), none], [.inl 2, .inr (.inr 92)], g) rfl ?_
                      obtain ⟨q2, hq, h⟩ := lett_inv h
                      refine ec 209 116 [.inr (.inr 92), .inl 2] [] rfl (ev_Md_met 2 g q2.1 q2.2 hq.symm) ?_
                      show Ev 251 116 [some (.inr (.inr 92)), some (.inl a1), some (.inl a2), some (.inl a3), some (.inl a4), some (.inl a5), none] [.inl q2.1] q2.2 _ _
                      cases h
                      exact er rfl
                    · rw [if_neg hc] at h
                      refine es (66, [some (.inr (.inr 92)), some (.inl a1), some (.inl a2), some (.inl a3), some (.inl a4), some (.inl a5), none], [], g) (congrArg some (if_neg hc)) ?_
                      refine ev_runs 1 (66, [some (.inr (.inr 92)), some (.inl a1), some (.inl a2), some (.inl a3), some (.inl a4), some (.inl a5), none], [], g) (68, [some (.inr (.inr 92)), some (.inl a1), some (.inl a2), some (.inl a3), some (.inl a4), some (.inl a5), none], [.inl a4], g) rfl ?_
                      by_cases hc : a4 < 0
                      · rw [if_pos hc] at h
                        refine es (111, [some (.inr (.inr 92)), some (.inl a1), some (.inl a2), some (.inl a3), some (.inl a4), some (.inl a5), none], [], g) (congrArg some (if_pos hc)) ?_
                        refine ev_runs 2 (111, [some (.inr (.inr 92)), some (.inl a1), some (.inl a2), some (.inl a3), some (.inl a4), some (.inl a5), none], [], g) (113, [some (.inr (.inr 92)), some (.inl a1), some (.inl a2), some (.inl a3), some (.inl a4), some (.inl a5), none], [.inl 2, .inr (.inr 92)], g) rfl ?_
                        obtain ⟨q3, hq, h⟩ := lett_inv h
                        refine ec 209 116 [.inr (.inr 92), .inl 2] [] rfl (ev_Md_met 2 g q3.1 q3.2 hq.symm) ?_
                        show Ev 251 116 [some (.inr (.inr 92)), some (.inl a1), some (.inl a2), some (.inl a3), some (.inl a4), some (.inl a5), none] [.inl q3.1] q3.2 _ _
                        cases h
                        exact er rfl
                      · rw [if_neg hc] at h
                        refine es (71, [some (.inr (.inr 92)), some (.inl a1), some (.inl a2), some (.inl a3), some (.inl a4), some (.inl a5), none], [], g) (congrArg some (if_neg hc)) ?_
                        refine ev_runs 1 (71, [some (.inr (.inr 92)), some (.inl a1), some (.inl a2), some (.inl a3), some (.inl a4), some (.inl a5), none], [], g) (73, [some (.inr (.inr 92)), some (.inl a1), some (.inl a2), some (.inl a3), some (.inl a4), some (.inl a5), none], [.inl a5], g) rfl ?_
                        by_cases hc : a5 < 0
                        · rw [if_pos hc] at h
                          refine es (111, [some (.inr (.inr 92)), some (.inl a1), some (.inl a2), some (.inl a3), some (.inl a4), some (.inl a5), none], [], g) (congrArg some (if_pos hc)) ?_
                          refine ev_runs 2 (111, [some (.inr (.inr 92)), some (.inl a1), some (.inl a2), some (.inl a3), some (.inl a4), some (.inl a5), none], [], g) (113, [some (.inr (.inr 92)), some (.inl a1), some (.inl a2), some (.inl a3), some (.inl a4), some (.inl a5), none], [.inl 2, .inr (.inr 92)], g) rfl ?_
                          obtain ⟨q4, hq, h⟩ := lett_inv h
                          refine ec 209 116 [.inr (.inr 92), .inl 2] [] rfl (ev_Md_met 2 g q4.1 q4.2 hq.symm) ?_
                          show Ev 251 116 [some (.inr (.inr 92)), some (.inl a1), some (.inl a2), some (.inl a3), some (.inl a4), some (.inl a5), none] [.inl q4.1] q4.2 _ _
                          cases h
                          exact er rfl
                        · rw [if_neg hc] at h
                          refine es (76, [some (.inr (.inr 92)), some (.inl a1), some (.inl a2), some (.inl a3), some (.inl a4), some (.inl a5), none], [], g) (congrArg some (if_neg hc)) ?_
                          refine ev_runs 8 (76, [some (.inr (.inr 92)), some (.inl a1), some (.inl a2), some (.inl a3), some (.inl a4), some (.inl a5), none], [], g) (87, [some (.inr (.inr 92)), some (.inl a1), some (.inl a2), some (.inl a3), some (.inl a4), some (.inl a5), none], [.inl a1, .inr (.inr 94), .inr (.inl (wl (a2 + a5)))], g) rfl ?_
                          by_cases hc : 0 ≤ a1 ∧ a1 < 4
                          · rw [if_pos hc] at h
                            refine es (88, [some (.inr (.inr 92)), some (.inl a1), some (.inl a2), some (.inl a3), some (.inl a4), some (.inl a5), none], [.inl (g 94 a1.toNat), .inr (.inl (wl (a2 + a5)))], g) (if_pos hc) ?_
                            refine ev_runs 2 (88, [some (.inr (.inr 92)), some (.inl a1), some (.inl a2), some (.inl a3), some (.inl a4), some (.inl a5), none], [.inl (g 94 a1.toNat), .inr (.inl (wl (a2 + a5)))], g) (90, [some (.inr (.inr 92)), some (.inl a1), some (.inl a2), some (.inl a3), some (.inl a4), some (.inl a5), none], [.inl (mcmp (wl (a2 + a5)) (g 94 a1.toNat))], g) rfl ?_
                            by_cases hc : 0 < (mcmp (wl (a2 + a5)) (g 94 a1.toNat))
                            · rw [if_pos hc] at h
                              refine es (111, [some (.inr (.inr 92)), some (.inl a1), some (.inl a2), some (.inl a3), some (.inl a4), some (.inl a5), none], [], g) (congrArg some (if_pos hc)) ?_
                              refine ev_runs 2 (111, [some (.inr (.inr 92)), some (.inl a1), some (.inl a2), some (.inl a3), some (.inl a4), some (.inl a5), none], [], g) (113, [some (.inr (.inr 92)), some (.inl a1), some (.inl a2), some (.inl a3), some (.inl a4), some (.inl a5), none], [.inl 2, .inr (.inr 92)], g) rfl ?_
                              obtain ⟨q5, hq, h⟩ := lett_inv h
                              refine ec 209 116 [.inr (.inr 92), .inl 2] [] rfl (ev_Md_met 2 g q5.1 q5.2 hq.symm) ?_
                              show Ev 251 116 [some (.inr (.inr 92)), some (.inl a1), some (.inl a2), some (.inl a3), some (.inl a4), some (.inl a5), none] [.inl q5.1] q5.2 _ _
                              cases h
                              exact er rfl
                            · rw [if_neg hc] at h
                              refine es (93, [some (.inr (.inr 92)), some (.inl a1), some (.inl a2), some (.inl a3), some (.inl a4), some (.inl a5), none], [], g) (congrArg some (if_neg hc)) ?_
                              refine ev_runs 8 (93, [some (.inr (.inr 92)), some (.inl a1), some (.inl a2), some (.inl a3), some (.inl a4), some (.inl a5), none], [], g) (105, [some (.inr (.inr 92)), some (.inl a1), some (.inl a2), some (.inl a3), some (.inl a4), some (.inl a5), none], [.inl a3, .inr (.inr 94), .inr (.inl (wl (a4 + a5)))], g) rfl ?_
                              by_cases hc : 0 ≤ a3 ∧ a3 < 4
                              · rw [if_pos hc] at h
                                refine es (106, [some (.inr (.inr 92)), some (.inl a1), some (.inl a2), some (.inl a3), some (.inl a4), some (.inl a5), none], [.inl (g 94 a3.toNat), .inr (.inl (wl (a4 + a5)))], g) (if_pos hc) ?_
                                refine ev_runs 2 (106, [some (.inr (.inr 92)), some (.inl a1), some (.inl a2), some (.inl a3), some (.inl a4), some (.inl a5), none], [.inl (g 94 a3.toNat), .inr (.inl (wl (a4 + a5)))], g) (108, [some (.inr (.inr 92)), some (.inl a1), some (.inl a2), some (.inl a3), some (.inl a4), some (.inl a5), none], [.inl (mcmp (wl (a4 + a5)) (g 94 a3.toNat))], g) rfl ?_
                                by_cases hc : (mcmp (wl (a4 + a5)) (g 94 a3.toNat)) ≤ 0
                                · rw [if_pos hc] at h
                                  refine es (117, [some (.inr (.inr 92)), some (.inl a1), some (.inl a2), some (.inl a3), some (.inl a4), some (.inl a5), none], [], g) (congrArg some (if_pos hc)) ?_
                                  refine ev_runs 2 (117, [some (.inr (.inr 92)), some (.inl a1), some (.inl a2), some (.inl a3), some (.inl a4), some (.inl a5), none], [], g) (120, [some (.inr (.inr 92)), some (.inl a1), some (.inl a2), some (.inl a3), some (.inl a4), some (.inl a5), some (.inl 0)], [], g) rfl ?_
                                  refine ev_le (L := [some (.inr (.inr 92)), some (.inl a1), some (.inl a2), some (.inl a3), some (.inl a4), some (.inl a5), some (.inl 0)]) (by simp [Lle]) ?_
                                  refine ev_Md_copy_l120 a1 a2 a3 a4 a5 _ ?_ fu 0 g r g' h
                                  · intro g6 r g' h
                                    refine ev_runs 2 (154, [some (.inr (.inr 92)), none, none, some (.inl a3), some (.inl a4), some (.inl a5), none], [], g6) (157, [some (.inr (.inr 92)), none, none, some (.inl a3), some (.inl a4), some (.inl a5), some (.inl 0)], [], g6) rfl ?_
                                    refine ev_le (L := [some (.inr (.inr 92)), none, none, some (.inl a3), some (.inl a4), some (.inl a5), some (.inl 0)]) (by simp [Lle]) ?_
                                    refine ev_Md_copy_l157 a3 a4 a5 _ ?_ fu 0 g6 r g' h
                                    · intro g7 r g' h
                                      refine ev_runs 1 (192, [none, none, none, none, none, none, none], [], g7) (193, [none, none, none, none, none, none, none], [.inl 1], g7) rfl ?_
                                      cases h
                                      exact er rfl
                                · rw [if_neg hc] at h
                                  refine es (111, [some (.inr (.inr 92)), some (.inl a1), some (.inl a2), some (.inl a3), some (.inl a4), some (.inl a5), none], [], g) (congrArg some (if_neg hc)) ?_
                                  refine ev_runs 2 (111, [some (.inr (.inr 92)), some (.inl a1), some (.inl a2), some (.inl a3), some (.inl a4), some (.inl a5), none], [], g) (113, [some (.inr (.inr 92)), some (.inl a1), some (.inl a2), some (.inl a3), some (.inl a4), some (.inl a5), none], [.inl 2, .inr (.inr 92)], g) rfl ?_
                                  obtain ⟨q8, hq, h⟩ := lett_inv h
                                  refine ec 209 116 [.inr (.inr 92), .inl 2] [] rfl (ev_Md_met 2 g q8.1 q8.2 hq.symm) ?_
                                  show Ev 251 116 [some (.inr (.inr 92)), some (.inl a1), some (.inl a2), some (.inl a3), some (.inl a4), some (.inl a5), none] [.inl q8.1] q8.2 _ _
                                  cases h
                                  exact er rfl
                              · rw [if_neg hc] at h; cases h
                          · rw [if_neg hc] at h; cases h
                  · rw [if_neg hc] at h
                    refine es (56, [some (.inr (.inr 92)), some (.inl a1), some (.inl a2), some (.inl a3), some (.inl a4), some (.inl a5), none], [], g) (congrArg some (if_neg hc)) ?_
                    refine ev_runs 2 (56, [some (.inr (.inr 92)), some (.inl a1), some (.inl a2), some (.inl a3), some (.inl a4), some (.inl a5), none], [], g) (58, [some (.inr (.inr 92)), some (.inl a1), some (.inl a2), some (.inl a3), some (.inl a4), some (.inl a5), none], [.inl 4, .inr (.inr 92)], g) rfl ?_
                    obtain ⟨q9, hq, h⟩ := lett_inv h
                    refine ec 209 61 [.inr (.inr 92), .inl 4] [] rfl (ev_Md_met 4 g q9.1 q9.2 hq.symm) ?_
                    show Ev 251 61 [some (.inr (.inr 92)), some (.inl a1), some (.inl a2), some (.inl a3), some (.inl a4), some (.inl a5), none] [.inl q9.1] q9.2 _ _
                    cases h
                    exact er rfl
                · rw [if_neg hc] at h; cases h
              · rw [if_neg hc] at h; cases h
            · rw [if_neg hc] at h
              refine es (35, [some (.inr (.inr 92)), some (.inl a1), some (.inl a2), some (.inl a3), some (.inl a4), some (.inl a5), none], [], g) (congrArg some (if_neg hc)) ?_
              refine ev_runs 2 (35, [some (.inr (.inr 92)), some (.inl a1), some (.inl a2), some (.inl a3), some (.inl a4), some (.inl a5), none], [], g) (37, [some (.inr (.inr 92)), some (.inl a1), some (.inl a2), some (.inl a3), some (.inl a4), some (.inl a5), none], [.inl 1, .inr (.inr 92)], g) rfl ?_
              obtain ⟨q10, hq, h⟩ := lett_inv h
              refine ec 209 40 [.inr (.inr 92), .inl 1] [] rfl (ev_Md_met 1 g q10.1 q10.2 hq.symm) ?_
              show Ev 251 40 [some (.inr (.inr 92)), some (.inl a1), some (.inl a2), some (.inl a3), some (.inl a4), some (.inl a5), none] [.inl q10.1] q10.2 _ _
              cases h
              exact er rfl
          · rw [if_neg hc] at h; cases h
      · rw [if_neg hc] at h; cases h
    · rw [if_neg hc] at h
      refine es (14, [some (.inr (.inr 92)), some (.inl a1), some (.inl a2), some (.inl a3), some (.inl a4), some (.inl a5), none], [], g) (congrArg some (if_neg hc)) ?_
      refine ev_runs 1 (14, [some (.inr (.inr 92)), some (.inl a1), some (.inl a2), some (.inl a3), some (.inl a4), some (.inl a5), none], [], g) (16, [some (.inr (.inr 92)), some (.inl a1), some (.inl a2), some (.inl a3), some (.inl a4), some (.inl a5), none], [.inl (-2)], g) rfl ?_
      cases h
      exact er rfl
set_option maxRecDepth 100000 in
set_option maxHeartbeats 4000000 in
theorem ev_Op_write_l70 (c1 : Int) (c2 : Int) (c4 : Int) (K70_103 : Gx → Option (Int × Gx)) (hK70_103 : ∀ (g : Gx) (r : Int) (g' : Gx), K70_103 g = some (r, g') → Ev 252 103 [none, none, none, none, some (.inl c4), none] [] g (some (.inl r)) g') : ∀ (n70 : Nat) (v5 : Int) (g : Gx) (r : Int) (g' : Gx), Op_write_l70 c1 c2 c4 K70_103 n70 v5 g = some (r, g') → Ev 252 70 [some (.inr (.inr 0)), some (.inl c1), some (.inl c2), none, some (.inl c4), some (.inl v5)] [] g (some (.inl r)) g' := by
  intro n70
  induction n70 with
  | zero => intro v5 g r g' h; cases h
  | succ n70 ih70 =>
    intro v5 g r g' h
    rw [Op_write_l70] at h
    refine ev_runs 2 (70, [some (.inr (.inr 0)), some (.inl c1), some (.inl c2), none, some (.inl c4), some (.inl v5)], [], g) (74, [some (.inr (.inr 0)), some (.inl c1), some (.inl c2), none, some (.inl c4), some (.inl v5)], [.inl c4, .inl v5], g) rfl ?_
    by_cases hc : c4 ≤ v5
    · rw [if_pos hc] at h
      refine es (103, [some (.inr (.inr 0)), some (.inl c1), some (.inl c2), none, some (.inl c4), some (.inl v5)], [], g) (congrArg some (if_pos hc)) ?_
      exact ev_le (L := [none, none, none, none, some (.inl c4), none]) (by simp [Lle]) (hK70_103 g r g' h)
    · rw [if_neg hc] at h
      refine es (77, [some (.inr (.inr 0)), some (.inl c1), some (.inl c2), none, some (.inl c4), some (.inl v5)], [], g) (congrArg some (if_neg hc)) ?_
      refine ev_runs 8 (77, [some (.inr (.inr 0)), some (.inl c1), some (.inl c2), none, some (.inl c4), some (.inl v5)], [], g) (91, [some (.inr (.inr 0)), some (.inl c1), some (.inl c2), none, some (.inl c4), some (.inl v5)], [.inl v5, .inl c2, .inr (.inr 33), .inl v5, .inl c1, .inr (.inr 85)], g) rfl ?_
      refine ec 85 94 [.inr (.inr 33), .inl c2, .inl v5] [.inl v5, .inl c1, .inr (.inr 85)] rfl (ev_Hi_word c2 v5 g _ rfl) ?_
      show Ev 252 94 [some (.inr (.inr 0)), some (.inl c1), some (.inl c2), none, some (.inl c4), some (.inl v5)] [.inl (Hi_word c2 v5 g), .inl v5, .inl c1, .inr (.inr 85)] g _ _
      obtain ⟨g2, hq, h⟩ := lett_inv h
      refine ec 241 97 [.inr (.inr 85), .inl c1, .inl v5, .inl (Hi_word c2 v5 g)] [] rfl (ev_Sh_change c1 v5 (Hi_word c2 v5 g) g g2 hq.symm) ?_
      show Ev 252 97 [some (.inr (.inr 0)), some (.inl c1), some (.inl c2), none, some (.inl c4), some (.inl v5)] [] g2 _ _
      refine ev_runs 2 (97, [some (.inr (.inr 0)), some (.inl c1), some (.inl c2), none, some (.inl c4), some (.inl v5)], [], g2) (70, [some (.inr (.inr 0)), some (.inl c1), some (.inl c2), none, some (.inl c4), some (.inl (wr (v5 + 1)))], [], g2) rfl ?_
      exact ev_le (L := [some (.inr (.inr 0)), some (.inl c1), some (.inl c2), none, some (.inl c4), some (.inl (wr (v5 + 1)))]) (by simp [Lle]) (ih70 (wr (v5 + 1)) g2 r g' h)
set_option maxRecDepth 100000 in
set_option maxHeartbeats 4000000 in
theorem ev_Op_write (a1 a2 : Int) (g : Gx) (r : Int) (g' : Gx) (h : Op_write a1 a2 g = some (r, g')) : Ev 252 0 [some (.inr (.inr 0)), some (.inl a1), some (.inl a2), none, none, none] [] g (some (.inl r)) g' := by
  rw [Op_write] at h
  refine ev_runs 1 (0, [some (.inr (.inr 0)), some (.inl a1), some (.inl a2), none, none, none], [], g) (1, [some (.inr (.inr 0)), some (.inl a1), some (.inl a2), none, none, none], [.inl a1], g) rfl ?_
  refine ec 200 4 [.inl a1] [] rfl (ev_Op_isSheet a1 g _ rfl) ?_
  show Ev 252 4 [some (.inr (.inr 0)), some (.inl a1), some (.inl a2), none, none, none] [.inl (Op_isSheet a1)] g _ _
  by_cases hc : (Op_isSheet a1) = 0
  · rw [if_pos hc] at h
    refine es (14, [some (.inr (.inr 0)), some (.inl a1), some (.inl a2), none, none, none], [], g) (congrArg some (if_pos hc)) ?_
    refine ev_runs 1 (14, [some (.inr (.inr 0)), some (.inl a1), some (.inl a2), none, none, none], [], g) (16, [some (.inr (.inr 0)), some (.inl a1), some (.inl a2), none, none, none], [.inl (-2)], g) rfl ?_
    cases h
    exact er rfl
  · rw [if_neg hc] at h
    refine es (7, [some (.inr (.inr 0)), some (.inl a1), some (.inl a2), none, none, none], [], g) (congrArg some (if_neg hc)) ?_
    refine ev_runs 1 (7, [some (.inr (.inr 0)), some (.inl a1), some (.inl a2), none, none, none], [], g) (8, [some (.inr (.inr 0)), some (.inl a1), some (.inl a2), none, none, none], [.inl a2], g) rfl ?_
    refine ec 83 11 [.inl a2] [] rfl (ev_Op_isHistory a2 g _ rfl) ?_
    show Ev 252 11 [some (.inr (.inr 0)), some (.inl a1), some (.inl a2), none, none, none] [.inl (Op_isHistory a2)] g _ _
    by_cases hc : ¬ (Op_isHistory a2) = 0
    · rw [if_pos hc] at h
      refine es (17, [some (.inr (.inr 0)), some (.inl a1), some (.inl a2), none, none, none], [], g) (congrArg some (if_pos hc)) ?_
      refine ev_runs 3 (17, [some (.inr (.inr 0)), some (.inl a1), some (.inl a2), none, none, none], [], g) (22, [some (.inr (.inr 0)), some (.inl a1), some (.inl a2), none, none, none], [.inl a1, .inr (.inr 85)], g) rfl ?_
      refine ec 201 25 [.inr (.inr 85), .inl a1] [] rfl (ev_Sh_isLost a1 g _ rfl) ?_
      show Ev 252 25 [some (.inr (.inr 0)), some (.inl a1), some (.inl a2), none, none, none] [.inl (Sh_isLost a1 g)] g _ _
      by_cases hc : (Sh_isLost a1 g) = 0
      · rw [if_pos hc] at h
        refine es (34, [some (.inr (.inr 0)), some (.inl a1), some (.inl a2), none, none, none], [], g) (congrArg some (if_pos hc)) ?_
        refine ev_runs 2 (34, [some (.inr (.inr 0)), some (.inl a1), some (.inl a2), none, none, none], [], g) (36, [some (.inr (.inr 0)), some (.inl a1), some (.inl a2), none, none, none], [.inl a2, .inr (.inr 0)], g) rfl ?_
        obtain ⟨q1, hq, h⟩ := Option.bind_eq_some_iff.mp h
        refine ec 75 39 [.inr (.inr 0), .inl a2] [] rfl (ev_Op_hindrance a2 g q1.1 q1.2 hq) ?_
        show Ev 252 39 [some (.inr (.inr 0)), some (.inl a1), some (.inl a2), none, none, none] [.inl q1.1] q1.2 _ _
        refine ev_runs 2 (39, [some (.inr (.inr 0)), some (.inl a1), some (.inl a2), none, none, none], [.inl q1.1], q1.2) (41, [some (.inr (.inr 0)), some (.inl a1), some (.inl a2), some (.inl q1.1), none, none], [.inl q1.1], q1.2) rfl ?_
        by_cases hc : q1.1 = 0
        · rw [if_pos hc] at h
          refine es (46, [some (.inr (.inr 0)), some (.inl a1), some (.inl a2), some (.inl q1.1), none, none], [], q1.2) (congrArg some (if_pos hc)) ?_
          refine ev_runs 3 (46, [some (.inr (.inr 0)), some (.inl a1), some (.inl a2), some (.inl q1.1), none, none], [], q1.2) (51, [some (.inr (.inr 0)), some (.inl a1), some (.inl a2), some (.inl q1.1), none, none], [.inl a1, .inr (.inr 85)], q1.2) rfl ?_
          refine ec 203 54 [.inr (.inr 85), .inl a1] [] rfl (ev_Sh_size a1 q1.2 _ rfl) ?_
          show Ev 252 54 [some (.inr (.inr 0)), some (.inl a1), some (.inl a2), some (.inl q1.1), none, none] [.inl (Sh_size a1 q1.2)] q1.2 _ _
          refine ev_runs 3 (54, [some (.inr (.inr 0)), some (.inl a1), some (.inl a2), some (.inl q1.1), none, none], [.inl (Sh_size a1 q1.2)], q1.2) (59, [some (.inr (.inr 0)), some (.inl a1), some (.inl a2), some (.inl q1.1), none, none], [.inl a2, .inr (.inr 33), .inl (Sh_size a1 q1.2)], q1.2) rfl ?_
          refine ec 84 62 [.inr (.inr 33), .inl a2] [.inl (Sh_size a1 q1.2)] rfl (ev_Hi_length a2 q1.2 _ rfl) ?_
          show Ev 252 62 [some (.inr (.inr 0)), some (.inl a1), some (.inl a2), some (.inl q1.1), none, none] [.inl (Hi_length a2 q1.2), .inl (Sh_size a1 q1.2)] q1.2 _ _
          refine ev_runs 4 (62, [some (.inr (.inr 0)), some (.inl a1), some (.inl a2), some (.inl q1.1), none, none], [.inl (Hi_length a2 q1.2), .inl (Sh_size a1 q1.2)], q1.2) (70, [some (.inr (.inr 0)), some (.inl a1), some (.inl a2), some (.inl q1.1), some (.inl (imin (Sh_size a1 q1.2) (Hi_length a2 q1.2))), some (.inl 0)], [], q1.2) rfl ?_
          refine ev_le (L := [some (.inr (.inr 0)), some (.inl a1), some (.inl a2), none, some (.inl (imin (Sh_size a1 q1.2) (Hi_length a2 q1.2))), some (.inl 0)]) (by simp [Lle]) ?_
          refine ev_Op_write_l70 a1 a2 (imin (Sh_size a1 q1.2) (Hi_length a2 q1.2)) _ ?_ fu 0 q1.2 r g' h
          · intro g3 r g' h
            refine ev_runs 1 (103, [none, none, none, none, some (.inl (imin (Sh_size a1 q1.2) (Hi_length a2 q1.2))), none], [], g3) (105, [none, none, none, none, some (.inl (imin (Sh_size a1 q1.2) (Hi_length a2 q1.2))), none], [.inl (imin (Sh_size a1 q1.2) (Hi_length a2 q1.2))], g3) rfl ?_
            cases h
            exact er rfl
        · rw [if_neg hc] at h
          refine es (44, [some (.inr (.inr 0)), some (.inl a1), some (.inl a2), some (.inl q1.1), none, none], [], q1.2) (congrArg some (if_neg hc)) ?_
          refine ev_runs 1 (44, [some (.inr (.inr 0)), some (.inl a1), some (.inl a2), some (.inl q1.1), none, none], [], q1.2) (45, [some (.inr (.inr 0)), some (.inl a1), some (.inl a2), some (.inl q1.1), none, none], [.inl q1.1], q1.2) rfl ?_
          cases h
          exact er rfl
      · rw [if_neg hc] at h
        refine es (28, [some (.inr (.inr 0)), some (.inl a1), some (.inl a2), none, none, none], [], g) (congrArg some (if_neg hc)) ?_
        refine ev_runs 2 (28, [some (.inr (.inr 0)), some (.inl a1), some (.inl a2), none, none, none], [], g) (30, [some (.inr (.inr 0)), some (.inl a1), some (.inl a2), none, none, none], [.inl 1, .inr (.inr 0)], g) rfl ?_
        obtain ⟨q4, hq, h⟩ := lett_inv h
        refine ec 202 33 [.inr (.inr 0), .inl 1] [] rfl (ev_Op_found 1 g q4.1 q4.2 hq.symm) ?_
        show Ev 252 33 [some (.inr (.inr 0)), some (.inl a1), some (.inl a2), none, none, none] [.inl q4.1] q4.2 _ _
        cases h
        exact er rfl
    · rw [if_neg hc] at h
      refine es (14, [some (.inr (.inr 0)), some (.inl a1), some (.inl a2), none, none, none], [], g) (congrArg some (if_neg hc)) ?_
      refine ev_runs 1 (14, [some (.inr (.inr 0)), some (.inl a1), some (.inl a2), none, none, none], [], g) (16, [some (.inr (.inr 0)), some (.inl a1), some (.inl a2), none, none, none], [.inl (-2)], g) rfl ?_
      cases h
      exact er rfl
set_option maxRecDepth 100000 in
set_option maxHeartbeats 4000000 in
theorem ev_Md_write_l79 (c1 : Int) (c2 : Int) (c4 : Int) (K79_120 : Gx → Option (Int × Gx)) (hK79_120 : ∀ (g : Gx) (r : Int) (g' : Gx), K79_120 g = some (r, g') → Ev 253 120 [none, none, none, none, some (.inl c4), none] [] g (some (.inl r)) g') : ∀ (n79 : Nat) (v5 : Int) (g : Gx) (r : Int) (g' : Gx), Md_write_l79 c1 c2 c4 K79_120 n79 v5 g = some (r, g') → Ev 253 79 [some (.inr (.inr 92)), some (.inl c1), some (.inl c2), none, some (.inl c4), some (.inl v5)] [] g (some (.inl r)) g' := by
  intro n79
  induction n79 with
  | zero => intro v5 g r g' h; cases h
  | succ n79 ih79 =>
    intro v5 g r g' h
    rw [Md_write_l79] at h
    refine ev_runs 2 (79, [some (.inr (.inr 92)), some (.inl c1), some (.inl c2), none, some (.inl c4), some (.inl v5)], [], g) (83, [some (.inr (.inr 92)), some (.inl c1), some (.inl c2), none, some (.inl c4), some (.inl v5)], [.inl c4, .inl v5], g) rfl ?_
    by_cases hc : c4 ≤ v5
    · rw [if_pos hc] at h
      refine es (120, [some (.inr (.inr 92)), some (.inl c1), some (.inl c2), none, some (.inl c4), some (.inl v5)], [], g) (congrArg some (if_pos hc)) ?_
      exact ev_le (L := [none, none, none, none, some (.inl c4), none]) (by simp [Lle]) (hK79_120 g r g' h)
    · rw [if_neg hc] at h
      refine es (86, [some (.inr (.inr 92)), some (.inl c1), some (.inl c2), none, some (.inl c4), some (.inl v5)], [], g) (congrArg some (if_neg hc)) ?_
      refine ev_runs 10 (86, [some (.inr (.inr 92)), some (.inl c1), some (.inl c2), none, some (.inl c4), some (.inl v5)], [], g) (102, [some (.inr (.inr 92)), some (.inl c1), some (.inl c2), none, some (.inl c4), some (.inl v5)], [.inl c1, .inr (.inr 93), .inl (wr ((wr (60 * c1)) + v5)), .inr (.inr 95)], g) rfl ?_
      by_cases hc : 0 ≤ c1 ∧ c1 < 4
      · rw [if_pos hc] at h
        refine es (103, [some (.inr (.inr 92)), some (.inl c1), some (.inl c2), none, some (.inl c4), some (.inl v5)], [.inl (g 93 c1.toNat), .inl (wr ((wr (60 * c1)) + v5)), .inr (.inr 95)], g) (if_pos hc) ?_
        refine ev_runs 3 (103, [some (.inr (.inr 92)), some (.inl c1), some (.inl c2), none, some (.inl c4), some (.inl v5)], [.inl (g 93 c1.toNat), .inl (wr ((wr (60 * c1)) + v5)), .inr (.inr 95)], g) (107, [some (.inr (.inr 92)), some (.inl c1), some (.inl c2), none, some (.inl c4), some (.inl v5)], [.inl v5, .inl c2, .inr (.inr 92), .inl (g 93 c1.toNat), .inl (wr ((wr (60 * c1)) + v5)), .inr (.inr 95)], g) rfl ?_
        obtain ⟨q2, hq, h⟩ := Option.bind_eq_some_iff.mp h
        refine ec 89 110 [.inr (.inr 92), .inl c2, .inl v5] [.inl (g 93 c1.toNat), .inl (wr ((wr (60 * c1)) + v5)), .inr (.inr 95)] rfl (ev_Md_code c2 v5 g q2.1 q2.2 hq) ?_
        show Ev 253 110 [some (.inr (.inr 92)), some (.inl c1), some (.inl c2), none, some (.inl c4), some (.inl v5)] [.inl q2.1, .inl (g 93 c1.toNat), .inl (wr ((wr (60 * c1)) + v5)), .inr (.inr 95)] q2.2 _ _
        refine ec 244 113 [.inl (g 93 c1.toNat), .inl q2.1] [.inl (wr ((wr (60 * c1)) + v5)), .inr (.inr 95)] rfl (ev_Md_cut (g 93 c1.toNat) q2.1 q2.2 _ rfl) ?_
        show Ev 253 113 [some (.inr (.inr 92)), some (.inl c1), some (.inl c2), none, some (.inl c4), some (.inl v5)] [.inl (Md_cut (g 93 c1.toNat) q2.1), .inl (wr ((wr (60 * c1)) + v5)), .inr (.inr 95)] q2.2 _ _
        by_cases hc : 0 ≤ (wr ((wr (60 * c1)) + v5)) ∧ (wr ((wr (60 * c1)) + v5)) < 240
        · rw [if_pos hc] at h
          refine es (114, [some (.inr (.inr 92)), some (.inl c1), some (.inl c2), none, some (.inl c4), some (.inl v5)], [], (gset q2.2 95 ((wr ((wr (60 * c1)) + v5)).toNat) (Md_cut (g 93 c1.toNat) q2.1))) (if_pos hc) ?_
          refine ev_runs 2 (114, [some (.inr (.inr 92)), some (.inl c1), some (.inl c2), none, some (.inl c4), some (.inl v5)], [], (gset q2.2 95 ((wr ((wr (60 * c1)) + v5)).toNat) (Md_cut (g 93 c1.toNat) q2.1))) (79, [some (.inr (.inr 92)), some (.inl c1), some (.inl c2), none, some (.inl c4), some (.inl (wr (v5 + 1)))], [], (gset q2.2 95 ((wr ((wr (60 * c1)) + v5)).toNat) (Md_cut (g 93 c1.toNat) q2.1))) rfl ?_
          exact ev_le (L := [some (.inr (.inr 92)), some (.inl c1), some (.inl c2), none, some (.inl c4), some (.inl (wr (v5 + 1)))]) (by simp [Lle]) (ih79 (wr (v5 + 1)) (gset q2.2 95 ((wr ((wr (60 * c1)) + v5)).toNat) (Md_cut (g 93 c1.toNat) q2.1)) r g' h)
        · rw [if_neg hc] at h; cases h
      · rw [if_neg hc] at h; cases h
set_option maxRecDepth 100000 in
set_option maxHeartbeats 4000000 in
theorem ev_Md_write (a1 a2 : Int) (g : Gx) (r : Int) (g' : Gx) (h : Md_write a1 a2 g = some (r, g')) : Ev 253 0 [some (.inr (.inr 92)), some (.inl a1), some (.inl a2), none, none, none] [] g (some (.inl r)) g' := by
  rw [Md_write] at h
  refine ev_runs 1 (0, [some (.inr (.inr 92)), some (.inl a1), some (.inl a2), none, none, none], [], g) (1, [some (.inr (.inr 92)), some (.inl a1), some (.inl a2), none, none, none], [.inl a1], g) rfl ?_
  refine ec 208 4 [.inl a1] [] rfl (ev_Md_isSheet a1 g _ rfl) ?_
  show Ev 253 4 [some (.inr (.inr 92)), some (.inl a1), some (.inl a2), none, none, none] [.inl (Md_isSheet a1)] g _ _
  by_cases hc : (Md_isSheet a1) = 0
  · rw [if_pos hc] at h
    refine es (14, [some (.inr (.inr 92)), some (.inl a1), some (.inl a2), none, none, none], [], g) (congrArg some (if_pos hc)) ?_
    refine ev_runs 1 (14, [some (.inr (.inr 92)), some (.inl a1), some (.inl a2), none, none, none], [], g) (16, [some (.inr (.inr 92)), some (.inl a1), some (.inl a2), none, none, none], [.inl (-2)], g) rfl ?_
    cases h
    exact er rfl
  · rw [if_neg hc] at h
    refine es (7, [some (.inr (.inr 92)), some (.inl a1), some (.inl a2), none, none, none], [], g) (congrArg some (if_neg hc)) ?_
    refine ev_runs 1 (7, [some (.inr (.inr 92)), some (.inl a1), some (.inl a2), none, none, none], [], g) (8, [some (.inr (.inr 92)), some (.inl a1), some (.inl a2), none, none, none], [.inl a2], g) rfl ?_
    refine ec 87 11 [.inl a2] [] rfl (ev_Md_isHistory a2 g _ rfl) ?_
    show Ev 253 11 [some (.inr (.inr 92)), some (.inl a1), some (.inl a2), none, none, none] [.inl (Md_isHistory a2)] g _ _
    by_cases hc : ¬ (Md_isHistory a2) = 0
    · rw [if_pos hc] at h
      refine es (17, [some (.inr (.inr 92)), some (.inl a1), some (.inl a2), none, none, none], [], g) (congrArg some (if_pos hc)) ?_
      refine ev_runs 3 (17, [some (.inr (.inr 92)), some (.inl a1), some (.inl a2), none, none, none], [], g) (22, [some (.inr (.inr 92)), some (.inl a1), some (.inl a2), none, none, none], [.inl a1, .inr (.inr 93)], g) rfl ?_
      by_cases hc : 0 ≤ a1 ∧ a1 < 4
      · rw [if_pos hc] at h
        refine es (23, [some (.inr (.inr 92)), some (.inl a1), some (.inl a2), none, none, none], [.inl (g 93 a1.toNat)], g) (if_pos hc) ?_
        by_cases hc : 0 ≤ (g 93 a1.toNat)
        · rw [if_pos hc] at h
          refine es (32, [some (.inr (.inr 92)), some (.inl a1), some (.inl a2), none, none, none], [], g) (congrArg some (if_pos hc)) ?_
          refine ev_runs 2 (32, [some (.inr (.inr 92)), some (.inl a1), some (.inl a2), none, none, none], [], g) (34, [some (.inr (.inr 92)), some (.inl a1), some (.inl a2), none, none, none], [.inl a2, .inr (.inr 92)], g) rfl ?_
          obtain ⟨q1, hq, h⟩ := Option.bind_eq_some_iff.mp h
          refine ec 88 37 [.inr (.inr 92), .inl a2] [] rfl (ev_Md_lacksOne a2 g q1.1 q1.2 hq) ?_
          show Ev 253 37 [some (.inr (.inr 92)), some (.inl a1), some (.inl a2), none, none, none] [.inl q1.1] q1.2 _ _
          refine ev_runs 2 (37, [some (.inr (.inr 92)), some (.inl a1), some (.inl a2), none, none, none], [.inl q1.1], q1.2) (39, [some (.inr (.inr 92)), some (.inl a1), some (.inl a2), some (.inl q1.1), none, none], [.inl q1.1], q1.2) rfl ?_
          by_cases hc : q1.1 = 0
          · rw [if_pos hc] at h
            refine es (44, [some (.inr (.inr 92)), some (.inl a1), some (.inl a2), some (.inl q1.1), none, none], [], q1.2) (congrArg some (if_pos hc)) ?_
            refine ev_runs 3 (44, [some (.inr (.inr 92)), some (.inl a1), some (.inl a2), some (.inl q1.1), none, none], [], q1.2) (49, [some (.inr (.inr 92)), some (.inl a1), some (.inl a2), some (.inl q1.1), none, none], [.inl a2, .inr (.inr 110)], q1.2) rfl ?_
            by_cases hc : 0 ≤ a2 ∧ a2 < 30
            · rw [if_pos hc] at h
              refine es (50, [some (.inr (.inr 92)), some (.inl a1), some (.inl a2), some (.inl q1.1), none, none], [.inl (q1.2 110 a2.toNat)], q1.2) (if_pos hc) ?_
              refine ev_runs 3 (50, [some (.inr (.inr 92)), some (.inl a1), some (.inl a2), some (.inl q1.1), none, none], [.inl (q1.2 110 a2.toNat)], q1.2) (55, [some (.inr (.inr 92)), some (.inl a1), some (.inl a2), some (.inl q1.1), none, none], [.inl a1, .inr (.inr 94), .inl (q1.2 110 a2.toNat)], q1.2) rfl ?_
              by_cases hc : 0 ≤ a1 ∧ a1 < 4
              · rw [if_pos hc] at h
                refine es (56, [some (.inr (.inr 92)), some (.inl a1), some (.inl a2), some (.inl q1.1), none, none], [.inl (q1.2 94 a1.toNat), .inl (q1.2 110 a2.toNat)], q1.2) (if_pos hc) ?_
                by_cases hc : (q1.2 94 a1.toNat) ≤ (q1.2 110 a2.toNat)
                · rw [if_pos hc] at h
                  refine es (68, [some (.inr (.inr 92)), some (.inl a1), some (.inl a2), some (.inl q1.1), none, none], [], q1.2) (congrArg some (if_pos hc)) ?_
                  refine ev_runs 3 (68, [some (.inr (.inr 92)), some (.inl a1), some (.inl a2), some (.inl q1.1), none, none], [], q1.2) (73, [some (.inr (.inr 92)), some (.inl a1), some (.inl a2), some (.inl q1.1), none, none], [.inl a1, .inr (.inr 94)], q1.2) rfl ?_
                  by_cases hc : 0 ≤ a1 ∧ a1 < 4
                  · rw [if_pos hc] at h
                    refine es (74, [some (.inr (.inr 92)), some (.inl a1), some (.inl a2), some (.inl q1.1), none, none], [.inl (q1.2 94 a1.toNat)], q1.2) (if_pos hc) ?_
                    refine ev_runs 3 (74, [some (.inr (.inr 92)), some (.inl a1), some (.inl a2), some (.inl q1.1), none, none], [.inl (q1.2 94 a1.toNat)], q1.2) (79, [some (.inr (.inr 92)), some (.inl a1), some (.inl a2), some (.inl q1.1), some (.inl (q1.2 94 a1.toNat)), some (.inl 0)], [], q1.2) rfl ?_
                    refine ev_le (L := [some (.inr (.inr 92)), some (.inl a1), some (.inl a2), none, some (.inl (q1.2 94 a1.toNat)), some (.inl 0)]) (by simp [Lle]) ?_
                    refine ev_Md_write_l79 a1 a2 (q1.2 94 a1.toNat) _ ?_ fu 0 q1.2 r g' h
                    · intro g3 r g' h
                      refine ev_runs 1 (120, [none, none, none, none, some (.inl (q1.2 94 a1.toNat)), none], [], g3) (122, [none, none, none, none, some (.inl (q1.2 94 a1.toNat)), none], [.inl (q1.2 94 a1.toNat)], g3) rfl ?_
                      cases h
                      exact er rfl
                  · rw [if_neg hc] at h; cases h
                · rw [if_neg hc] at h
                  refine es (59, [some (.inr (.inr 92)), some (.inl a1), some (.inl a2), some (.inl q1.1), none, none], [], q1.2) (congrArg some (if_neg hc)) ?_
                  refine ev_runs 3 (59, [some (.inr (.inr 92)), some (.inl a1), some (.inl a2), some (.inl q1.1), none, none], [], q1.2) (64, [some (.inr (.inr 92)), some (.inl a1), some (.inl a2), some (.inl q1.1), none, none], [.inl a2, .inr (.inr 110)], q1.2) rfl ?_
                  by_cases hc : 0 ≤ a2 ∧ a2 < 30
                  · rw [if_pos hc] at h
                    refine es (65, [some (.inr (.inr 92)), some (.inl a1), some (.inl a2), some (.inl q1.1), none, none], [.inl (q1.2 110 a2.toNat)], q1.2) (if_pos hc) ?_
                    refine ev_runs 4 (65, [some (.inr (.inr 92)), some (.inl a1), some (.inl a2), some (.inl q1.1), none, none], [.inl (q1.2 110 a2.toNat)], q1.2) (79, [some (.inr (.inr 92)), some (.inl a1), some (.inl a2), some (.inl q1.1), some (.inl (q1.2 110 a2.toNat)), some (.inl 0)], [], q1.2) rfl ?_
                    refine ev_le (L := [some (.inr (.inr 92)), some (.inl a1), some (.inl a2), none, some (.inl (q1.2 110 a2.toNat)), some (.inl 0)]) (by simp [Lle]) ?_
                    refine ev_Md_write_l79 a1 a2 (q1.2 110 a2.toNat) _ ?_ fu 0 q1.2 r g' h
                    · intro g4 r g' h
                      refine ev_runs 1 (120, [none, none, none, none, some (.inl (q1.2 110 a2.toNat)), none], [], g4) (122, [none, none, none, none, some (.inl (q1.2 110 a2.toNat)), none], [.inl (q1.2 110 a2.toNat)], g4) rfl ?_
                      cases h
                      exact er rfl
                  · rw [if_neg hc] at h; cases h
              · rw [if_neg hc] at h; cases h
            · rw [if_neg hc] at h; cases h
          · rw [if_neg hc] at h
            refine es (42, [some (.inr (.inr 92)), some (.inl a1), some (.inl a2), some (.inl q1.1), none, none], [], q1.2) (congrArg some (if_neg hc)) ?_
            refine ev_runs 1 (42, [some (.inr (.inr 92)), some (.inl a1), some (.inl a2), some (.inl q1.1), none, none], [], q1.2) (43, [some (.inr (.inr 92)), some (.inl a1), some (.inl a2), some (.inl q1.1), none, none], [.inl q1.1], q1.2) rfl ?_
            cases h
            exact er rfl
        · rw [if_neg hc] at h
          refine es (26, [some (.inr (.inr 92)), some (.inl a1), some (.inl a2), none, none, none], [], g) (congrArg some (if_neg hc)) ?_
          refine ev_runs 2 (26, [some (.inr (.inr 92)), some (.inl a1), some (.inl a2), none, none, none], [], g) (28, [some (.inr (.inr 92)), some (.inl a1), some (.inl a2), none, none, none], [.inl 1, .inr (.inr 92)], g) rfl ?_
          obtain ⟨q5, hq, h⟩ := lett_inv h
          refine ec 209 31 [.inr (.inr 92), .inl 1] [] rfl (ev_Md_met 1 g q5.1 q5.2 hq.symm) ?_
          show Ev 253 31 [some (.inr (.inr 92)), some (.inl a1), some (.inl a2), none, none, none] [.inl q5.1] q5.2 _ _
          cases h
          exact er rfl
      · rw [if_neg hc] at h; cases h
    · rw [if_neg hc] at h
      refine es (14, [some (.inr (.inr 92)), some (.inl a1), some (.inl a2), none, none, none], [], g) (congrArg some (if_neg hc)) ?_
      refine ev_runs 1 (14, [some (.inr (.inr 92)), some (.inl a1), some (.inl a2), none, none, none], [], g) (16, [some (.inr (.inr 92)), some (.inl a1), some (.inl a2), none, none, none], [.inl (-2)], g) rfl ?_
      cases h
      exact er rfl
