/-! The small machine does what the functions say. Printed by wip/gen/gen_parts.py. -/
set_option maxRecDepth 100000 in
set_option maxHeartbeats 4000000 in
theorem ev_Md_breachOf_l25 (c1 : Int) (c2 : Int) (c3 : Int) (K25_66 : Gx → Option (Int × Gx)) (hK25_66 : ∀ (g : Gx) (r : Int) (g' : Gx), K25_66 g = some (r, g') → Ev 196 66 [some (.inr (.inr 92)), some (.inl c1), some (.inl c2), some (.inl c3), none] [] g (some (.inl r)) g') : ∀ (n25 : Nat) (v4 : Int) (g : Gx) (r : Int) (g' : Gx), Md_breachOf_l25 c1 c2 c3 K25_66 n25 v4 g = some (r, g') → Ev 196 25 [some (.inr (.inr 92)), some (.inl c1), some (.inl c2), some (.inl c3), some (.inl v4)] [] g (some (.inl r)) g' := by
  intro n25
  induction n25 with
  | zero => intro v4 g r g' h; cases h
  | succ n25 ih25 =>
    intro v4 g r g' h
    rw [Md_breachOf_l25] at h
    refine ev_runs 3 (25, [some (.inr (.inr 92)), some (.inl c1), some (.inl c2), some (.inl c3), some (.inl v4)], [], g) (31, [some (.inr (.inr 92)), some (.inl c1), some (.inl c2), some (.inl c3), some (.inl v4)], [.inl (g 92 26), .inl v4], g) rfl ?_
    by_cases hc : (g 92 26) ≤ v4
    · rw [if_pos hc] at h
      refine es (66, [some (.inr (.inr 92)), some (.inl c1), some (.inl c2), some (.inl c3), some (.inl v4)], [], g) (congrArg some (if_pos hc)) ?_
      exact ev_le (L := [some (.inr (.inr 92)), some (.inl c1), some (.inl c2), some (.inl c3), none]) (by simp [Lle]) (hK25_66 g r g' h)
    · rw [if_neg hc] at h
      refine es (34, [some (.inr (.inr 92)), some (.inl c1), some (.inl c2), some (.inl c3), some (.inl v4)], [], g) (congrArg some (if_neg hc)) ?_
      refine ev_runs 5 (34, [some (.inr (.inr 92)), some (.inl c1), some (.inl c2), some (.inl c3), some (.inl v4)], [], g) (40, [some (.inr (.inr 92)), some (.inl c1), some (.inl c2), some (.inl c3), some (.inl v4)], [.inl c2, .inl v4, .inl c3, .inl c1, .inr (.inr 92)], g) rfl ?_
      obtain ⟨q2, hq, h⟩ := Option.bind_eq_some_iff.mp h
      refine ec 192 43 [.inr (.inr 92), .inl c1, .inl c3, .inl v4, .inl c2] [] rfl (ev_Md_alike c1 c3 v4 c2 g q2.1 q2.2 hq) ?_
      show Ev 196 43 [some (.inr (.inr 92)), some (.inl c1), some (.inl c2), some (.inl c3), some (.inl v4)] [.inl q2.1] q2.2 _ _
      by_cases hc : q2.1 = 0
      · rw [if_pos hc] at h
        refine es (60, [some (.inr (.inr 92)), some (.inl c1), some (.inl c2), some (.inl c3), some (.inl v4)], [], q2.2) (congrArg some (if_pos hc)) ?_
        refine ev_runs 2 (60, [some (.inr (.inr 92)), some (.inl c1), some (.inl c2), some (.inl c3), some (.inl v4)], [], q2.2) (25, [some (.inr (.inr 92)), some (.inl c1), some (.inl c2), some (.inl c3), some (.inl (wr (v4 + 1)))], [], q2.2) rfl ?_
        exact ev_le (L := [some (.inr (.inr 92)), some (.inl c1), some (.inl c2), some (.inl c3), some (.inl (wr (v4 + 1)))]) (by simp [Lle]) (ih25 (wr (v4 + 1)) q2.2 r g' h)
      · rw [if_neg hc] at h
        refine es (46, [some (.inr (.inr 92)), some (.inl c1), some (.inl c2), some (.inl c3), some (.inl v4)], [], q2.2) (congrArg some (if_neg hc)) ?_
        refine ev_runs 5 (46, [some (.inr (.inr 92)), some (.inl c1), some (.inl c2), some (.inl c3), some (.inl v4)], [], q2.2) (52, [some (.inr (.inr 92)), some (.inl c1), some (.inl c2), some (.inl c3), some (.inl v4)], [.inl c2, .inl v4, .inl c3, .inl c1, .inr (.inr 92)], q2.2) rfl ?_
        obtain ⟨q3, hq, h⟩ := Option.bind_eq_some_iff.mp h
        refine ec 195 55 [.inr (.inr 92), .inl c1, .inl c3, .inl v4, .inl c2] [] rfl (ev_Md_fitsAt c1 c3 v4 c2 q2.2 q3.1 q3.2 hq) ?_
        show Ev 196 55 [some (.inr (.inr 92)), some (.inl c1), some (.inl c2), some (.inl c3), some (.inl v4)] [.inl q3.1] q3.2 _ _
        by_cases hc : ¬ q3.1 = 0
        · rw [if_pos hc] at h
          refine es (60, [some (.inr (.inr 92)), some (.inl c1), some (.inl c2), some (.inl c3), some (.inl v4)], [], q3.2) (congrArg some (if_pos hc)) ?_
          refine ev_runs 2 (60, [some (.inr (.inr 92)), some (.inl c1), some (.inl c2), some (.inl c3), some (.inl v4)], [], q3.2) (25, [some (.inr (.inr 92)), some (.inl c1), some (.inl c2), some (.inl c3), some (.inl (wr (v4 + 1)))], [], q3.2) rfl ?_
          exact ev_le (L := [some (.inr (.inr 92)), some (.inl c1), some (.inl c2), some (.inl c3), some (.inl (wr (v4 + 1)))]) (by simp [Lle]) (ih25 (wr (v4 + 1)) q3.2 r g' h)
        · rw [if_neg hc] at h
          refine es (58, [some (.inr (.inr 92)), some (.inl c1), some (.inl c2), some (.inl c3), some (.inl v4)], [], q3.2) (congrArg some (if_neg hc)) ?_
          refine ev_runs 1 (58, [some (.inr (.inr 92)), some (.inl c1), some (.inl c2), some (.inl c3), some (.inl v4)], [], q3.2) (59, [some (.inr (.inr 92)), some (.inl c1), some (.inl c2), some (.inl c3), some (.inl v4)], [.inl c2], q3.2) rfl ?_
          cases h
          exact er rfl
set_option maxRecDepth 100000 in
set_option maxHeartbeats 4000000 in
theorem ev_Md_breachOf_l14 (c1 : Int) (c2 : Int) (K14_72 : Gx → Option (Int × Gx)) (hK14_72 : ∀ (g : Gx) (r : Int) (g' : Gx), K14_72 g = some (r, g') → Ev 196 72 [some (.inr (.inr 92)), some (.inl c1), some (.inl c2), none, none] [] g (some (.inl r)) g') : ∀ (n14 : Nat) (v3 : Int) (g : Gx) (r : Int) (g' : Gx), Md_breachOf_l14 c1 c2 K14_72 n14 v3 g = some (r, g') → Ev 196 14 [some (.inr (.inr 92)), some (.inl c1), some (.inl c2), some (.inl v3), none] [] g (some (.inl r)) g' := by
  intro n14
  induction n14 with
  | zero => intro v3 g r g' h; cases h
  | succ n14 ih14 =>
    intro v3 g r g' h
    rw [Md_breachOf_l14] at h
    refine ev_runs 3 (14, [some (.inr (.inr 92)), some (.inl c1), some (.inl c2), some (.inl v3), none], [], g) (19, [some (.inr (.inr 92)), some (.inl c1), some (.inl c2), some (.inl v3), none], [.inl (g 92 21), .inl v3], g) rfl ?_
    by_cases hc : (g 92 21) ≤ v3
    · rw [if_pos hc] at h
      refine es (72, [some (.inr (.inr 92)), some (.inl c1), some (.inl c2), some (.inl v3), none], [], g) (congrArg some (if_pos hc)) ?_
      exact ev_le (L := [some (.inr (.inr 92)), some (.inl c1), some (.inl c2), none, none]) (by simp [Lle]) (hK14_72 g r g' h)
    · rw [if_neg hc] at h
      refine es (22, [some (.inr (.inr 92)), some (.inl c1), some (.inl c2), some (.inl v3), none], [], g) (congrArg some (if_neg hc)) ?_
      refine ev_runs 2 (22, [some (.inr (.inr 92)), some (.inl c1), some (.inl c2), some (.inl v3), none], [], g) (25, [some (.inr (.inr 92)), some (.inl c1), some (.inl c2), some (.inl v3), some (.inl 0)], [], g) rfl ?_
      refine ev_le (L := [some (.inr (.inr 92)), some (.inl c1), some (.inl c2), some (.inl v3), some (.inl 0)]) (by simp [Lle]) ?_
      refine ev_Md_breachOf_l25 c1 c2 v3 _ ?_ fu 0 g r g' h
      · intro g4 r g' h
        refine ev_runs 2 (66, [some (.inr (.inr 92)), some (.inl c1), some (.inl c2), some (.inl v3), none], [], g4) (14, [some (.inr (.inr 92)), some (.inl c1), some (.inl c2), some (.inl (wr (v3 + 1))), none], [], g4) rfl ?_
        exact ev_le (L := [some (.inr (.inr 92)), some (.inl c1), some (.inl c2), some (.inl (wr (v3 + 1))), none]) (by simp [Lle]) (ih14 (wr (v3 + 1)) g4 r g' h)
set_option maxRecDepth 100000 in
set_option maxHeartbeats 4000000 in
theorem ev_Md_breachOf_l6 (c1 : Int) (K6_78 : Gx → Option (Int × Gx)) (hK6_78 : ∀ (g : Gx) (r : Int) (g' : Gx), K6_78 g = some (r, g') → Ev 196 78 [none, none, none, none, none] [] g (some (.inl r)) g') : ∀ (n6 : Nat) (v2 : Int) (g : Gx) (r : Int) (g' : Gx), Md_breachOf_l6 c1 K6_78 n6 v2 g = some (r, g') → Ev 196 6 [some (.inr (.inr 92)), some (.inl c1), some (.inl v2), none, none] [] g (some (.inl r)) g' := by
  intro n6
  induction n6 with
  | zero => intro v2 g r g' h; cases h
  | succ n6 ih6 =>
    intro v2 g r g' h
    rw [Md_breachOf_l6] at h
    refine ev_runs 2 (6, [some (.inr (.inr 92)), some (.inl c1), some (.inl v2), none, none], [], g) (9, [some (.inr (.inr 92)), some (.inl c1), some (.inl v2), none, none], [.inl 25, .inl v2], g) rfl ?_
    by_cases hc : 25 ≤ v2
    · rw [if_pos hc] at h
      refine es (78, [some (.inr (.inr 92)), some (.inl c1), some (.inl v2), none, none], [], g) (congrArg some (if_pos hc)) ?_
      exact ev_le (L := [none, none, none, none, none]) (by simp [Lle]) (hK6_78 g r g' h)
    · rw [if_neg hc] at h
      refine es (12, [some (.inr (.inr 92)), some (.inl c1), some (.inl v2), none, none], [], g) (congrArg some (if_neg hc)) ?_
      refine ev_runs 2 (12, [some (.inr (.inr 92)), some (.inl c1), some (.inl v2), none, none], [], g) (14, [some (.inr (.inr 92)), some (.inl c1), some (.inl v2), some (.inl 0), none], [], g) rfl ?_
      refine ev_le (L := [some (.inr (.inr 92)), some (.inl c1), some (.inl v2), some (.inl 0), none]) (by simp [Lle]) ?_
      refine ev_Md_breachOf_l14 c1 v2 _ ?_ fu 0 g r g' h
      · intro g5 r g' h
        refine ev_runs 2 (72, [some (.inr (.inr 92)), some (.inl c1), some (.inl v2), none, none], [], g5) (6, [some (.inr (.inr 92)), some (.inl c1), some (.inl (wr (v2 + 1))), none, none], [], g5) rfl ?_
        exact ev_le (L := [some (.inr (.inr 92)), some (.inl c1), some (.inl (wr (v2 + 1))), none, none]) (by simp [Lle]) (ih6 (wr (v2 + 1)) g5 r g' h)
set_option maxRecDepth 100000 in
set_option maxHeartbeats 4000000 in
theorem ev_Md_breachOf (a1 : Int) (g : Gx) (r : Int) (g' : Gx) (h : Md_breachOf a1 g = some (r, g')) : Ev 196 0 [some (.inr (.inr 92)), some (.inl a1), none, none, none] [] g (some (.inl r)) g' := by
  rw [Md_breachOf] at h
  refine ev_runs 1 (0, [some (.inr (.inr 92)), some (.inl a1), none, none, none], [], g) (1, [some (.inr (.inr 92)), some (.inl a1), none, none, none], [.inr (.inr 92)], g) rfl ?_
  obtain ⟨g1, hq, h⟩ := Option.bind_eq_some_iff.mp h
  refine ec 101 4 [.inr (.inr 92)] [] rfl (ev_Md_findLooks g g1 hq) ?_
  show Ev 196 4 [some (.inr (.inr 92)), some (.inl a1), none, none, none] [] g1 _ _
  refine ev_runs 2 (4, [some (.inr (.inr 92)), some (.inl a1), none, none, none], [], g1) (6, [some (.inr (.inr 92)), some (.inl a1), some (.inl 0), none, none], [], g1) rfl ?_
  refine ev_le (L := [some (.inr (.inr 92)), some (.inl a1), some (.inl 0), none, none]) (by simp [Lle]) ?_
  refine ev_Md_breachOf_l6 a1 _ ?_ fu 0 g1 r g' h
  · intro g6 r g' h
    refine ev_runs 1 (78, [none, none, none, none, none], [], g6) (79, [none, none, none, none, none], [.inl (-1)], g6) rfl ?_
    cases h
    exact er rfl
set_option maxRecDepth 100000 in
set_option maxHeartbeats 4000000 in
theorem ev_Md_fits (a1 : Int) (g : Gx) (r : Int) (g' : Gx) (h : Md_fits a1 g = some (r, g')) : Ev 197 0 [some (.inr (.inr 92)), some (.inl a1), none] [] g (some (.inl r)) g' := by
  rw [Md_fits] at h
  refine ev_runs 1 (0, [some (.inr (.inr 92)), some (.inl a1), none], [], g) (1, [some (.inr (.inr 92)), some (.inl a1), none], [.inl a1], g) rfl ?_
  refine ec 98 4 [.inl a1] [] rfl (ev_Md_isOne a1 g _ rfl) ?_
  show Ev 197 4 [some (.inr (.inr 92)), some (.inl a1), none] [.inl (Md_isOne a1)] g _ _
  by_cases hc : ¬ (Md_isOne a1) = 0
  · rw [if_pos hc] at h
    refine es (10, [some (.inr (.inr 92)), some (.inl a1), none], [], g) (congrArg some (if_pos hc)) ?_
    refine ev_runs 1 (10, [some (.inr (.inr 92)), some (.inl a1), none], [], g) (11, [some (.inr (.inr 92)), some (.inl a1), none], [.inr (.inr 92)], g) rfl ?_
    obtain ⟨q1, hq, h⟩ := Option.bind_eq_some_iff.mp h
    refine ec 190 14 [.inr (.inr 92)] [] rfl (ev_Md_lacksEither g q1.1 q1.2 hq) ?_
    show Ev 197 14 [some (.inr (.inr 92)), some (.inl a1), none] [.inl q1.1] q1.2 _ _
    refine ev_runs 2 (14, [some (.inr (.inr 92)), some (.inl a1), none], [.inl q1.1], q1.2) (16, [some (.inr (.inr 92)), some (.inl a1), some (.inl q1.1)], [.inl q1.1], q1.2) rfl ?_
    by_cases hc : q1.1 = 0
    · rw [if_pos hc] at h
      refine es (23, [some (.inr (.inr 92)), some (.inl a1), some (.inl q1.1)], [], q1.2) (congrArg some (if_pos hc)) ?_
      refine ev_runs 2 (23, [some (.inr (.inr 92)), some (.inl a1), some (.inl q1.1)], [], q1.2) (25, [some (.inr (.inr 92)), some (.inl a1), some (.inl q1.1)], [.inl a1, .inr (.inr 92)], q1.2) rfl ?_
      obtain ⟨q2, hq, h⟩ := Option.bind_eq_some_iff.mp h
      refine ec 196 28 [.inr (.inr 92), .inl a1] [] rfl (ev_Md_breachOf a1 q1.2 q2.1 q2.2 hq) ?_
      show Ev 197 28 [some (.inr (.inr 92)), some (.inl a1), some (.inl q1.1)] [.inl q2.1] q2.2 _ _
      refine ev_runs 1 (28, [some (.inr (.inr 92)), some (.inl a1), some (.inl q1.1)], [.inl q2.1], q2.2) (29, [some (.inr (.inr 92)), some (.inl a1), some (.inl q1.1)], [.inl (-1), .inl q2.1], q2.2) rfl ?_
      by_cases hc : ¬ q2.1 = (-1)
      · rw [if_pos hc] at h
        refine es (36, [some (.inr (.inr 92)), some (.inl a1), some (.inl q1.1)], [], q2.2) (congrArg some (if_pos hc)) ?_
        refine ev_runs 1 (36, [some (.inr (.inr 92)), some (.inl a1), some (.inl q1.1)], [], q2.2) (37, [some (.inr (.inr 92)), some (.inl a1), some (.inl q1.1)], [.inl 0], q2.2) rfl ?_
        cases h
        exact er rfl
      · rw [if_neg hc] at h
        refine es (32, [some (.inr (.inr 92)), some (.inl a1), some (.inl q1.1)], [], q2.2) (congrArg some (if_neg hc)) ?_
        refine ev_runs 2 (32, [some (.inr (.inr 92)), some (.inl a1), some (.inl q1.1)], [], q2.2) (37, [some (.inr (.inr 92)), some (.inl a1), some (.inl q1.1)], [.inl 1], q2.2) rfl ?_
        cases h
        exact er rfl
    · rw [if_neg hc] at h
      refine es (19, [some (.inr (.inr 92)), some (.inl a1), some (.inl q1.1)], [], q1.2) (congrArg some (if_neg hc)) ?_
      refine ev_runs 2 (19, [some (.inr (.inr 92)), some (.inl a1), some (.inl q1.1)], [], q1.2) (37, [some (.inr (.inr 92)), some (.inl a1), some (.inl q1.1)], [.inl q1.1], q1.2) rfl ?_
      cases h
      exact er rfl
  · rw [if_neg hc] at h
    refine es (7, [some (.inr (.inr 92)), some (.inl a1), none], [], g) (congrArg some (if_neg hc)) ?_
    refine ev_runs 1 (7, [some (.inr (.inr 92)), some (.inl a1), none], [], g) (9, [some (.inr (.inr 92)), some (.inl a1), none], [.inl (-2)], g) rfl ?_
    cases h
    exact er rfl
set_option maxRecDepth 100000 in
set_option maxHeartbeats 4000000 in
theorem ev_Op_breach (a1 : Int) (g : Gx) (r : Int) (g' : Gx) (h : Op_breach a1 g = some (r, g')) : Ev 198 0 [some (.inr (.inr 0)), some (.inl a1), none] [] g (some (.inl r)) g' := by
  rw [Op_breach] at h
  refine ev_runs 1 (0, [some (.inr (.inr 0)), some (.inl a1), none], [], g) (1, [some (.inr (.inr 0)), some (.inl a1), none], [.inl a1], g) rfl ?_
  refine ec 91 4 [.inl a1] [] rfl (ev_Op_isTalker a1 g _ rfl) ?_
  show Ev 198 4 [some (.inr (.inr 0)), some (.inl a1), none] [.inl (Op_isTalker a1)] g _ _
  by_cases hc : ¬ (Op_isTalker a1) = 0
  · rw [if_pos hc] at h
    refine es (10, [some (.inr (.inr 0)), some (.inl a1), none], [], g) (congrArg some (if_pos hc)) ?_
    refine ev_runs 2 (10, [some (.inr (.inr 0)), some (.inl a1), none], [], g) (14, [some (.inr (.inr 0)), some (.inl a1), none], [.inr (.inr 69)], g) rfl ?_
    obtain ⟨q1, hq, h⟩ := Option.bind_eq_some_iff.mp h
    refine ec 34 17 [.inr (.inr 69)] [] rfl (ev_Pg_firstFault g q1.1 q1.2 hq) ?_
    show Ev 198 17 [some (.inr (.inr 0)), some (.inl a1), none] [.inl q1.1] q1.2 _ _
    refine ev_runs 1 (17, [some (.inr (.inr 0)), some (.inl a1), none], [.inl q1.1], q1.2) (18, [some (.inr (.inr 0)), some (.inl a1), none], [.inl (-1), .inl q1.1], q1.2) rfl ?_
    by_cases hc : q1.1 = (-1)
    · rw [if_pos hc] at h
      refine es (26, [some (.inr (.inr 0)), some (.inl a1), none], [], q1.2) (congrArg some (if_pos hc)) ?_
      refine ev_runs 2 (26, [some (.inr (.inr 0)), some (.inl a1), none], [], q1.2) (28, [some (.inr (.inr 0)), some (.inl a1), none], [.inl 0, .inr (.inr 0)], q1.2) rfl ?_
      obtain ⟨q2, hq, h⟩ := Option.bind_eq_some_iff.mp h
      refine ec 75 31 [.inr (.inr 0), .inl 0] [] rfl (ev_Op_hindrance 0 q1.2 q2.1 q2.2 hq) ?_
      show Ev 198 31 [some (.inr (.inr 0)), some (.inl a1), none] [.inl q2.1] q2.2 _ _
      refine ev_runs 2 (31, [some (.inr (.inr 0)), some (.inl a1), none], [.inl q2.1], q2.2) (33, [some (.inr (.inr 0)), some (.inl a1), some (.inl q2.1)], [.inl q2.1], q2.2) rfl ?_
      by_cases hc : q2.1 = 0
      · rw [if_pos hc] at h
        refine es (40, [some (.inr (.inr 0)), some (.inl a1), some (.inl q2.1)], [], q2.2) (congrArg some (if_pos hc)) ?_
        refine ev_runs 3 (40, [some (.inr (.inr 0)), some (.inl a1), some (.inl q2.1)], [], q2.2) (45, [some (.inr (.inr 0)), some (.inl a1), some (.inl q2.1)], [.inl a1, .inr (.inr 69)], q2.2) rfl ?_
        obtain ⟨q3, hq, h⟩ := Option.bind_eq_some_iff.mp h
        refine ec 188 48 [.inr (.inr 69), .inl a1] [] rfl (ev_Pg_firstBreach a1 q2.2 q3.1 q3.2 hq) ?_
        show Ev 198 48 [some (.inr (.inr 0)), some (.inl a1), some (.inl q2.1)] [.inl q3.1] q3.2 _ _
        cases h
        exact er rfl
      · rw [if_neg hc] at h
        refine es (36, [some (.inr (.inr 0)), some (.inl a1), some (.inl q2.1)], [], q2.2) (congrArg some (if_neg hc)) ?_
        refine ev_runs 2 (36, [some (.inr (.inr 0)), some (.inl a1), some (.inl q2.1)], [], q2.2) (48, [some (.inr (.inr 0)), some (.inl a1), some (.inl q2.1)], [.inl q2.1], q2.2) rfl ?_
        cases h
        exact er rfl
    · rw [if_neg hc] at h
      refine es (21, [some (.inr (.inr 0)), some (.inl a1), none], [], q1.2) (congrArg some (if_neg hc)) ?_
      refine ev_runs 7 (21, [some (.inr (.inr 0)), some (.inl a1), none], [], q1.2) (48, [some (.inr (.inr 0)), some (.inl a1), some (.inl (-3))], [.inl (-3)], q1.2) rfl ?_
      cases h
      exact er rfl
  · rw [if_neg hc] at h
    refine es (7, [some (.inr (.inr 0)), some (.inl a1), none], [], g) (congrArg some (if_neg hc)) ?_
    refine ev_runs 1 (7, [some (.inr (.inr 0)), some (.inl a1), none], [], g) (9, [some (.inr (.inr 0)), some (.inl a1), none], [.inl (-2)], g) rfl ?_
    cases h
    exact er rfl
set_option maxRecDepth 100000 in
set_option maxHeartbeats 4000000 in
theorem ev_Md_breach (a1 : Int) (g : Gx) (r : Int) (g' : Gx) (h : Md_breach a1 g = some (r, g')) : Ev 199 0 [some (.inr (.inr 92)), some (.inl a1), none] [] g (some (.inl r)) g' := by
  rw [Md_breach] at h
  refine ev_runs 1 (0, [some (.inr (.inr 92)), some (.inl a1), none], [], g) (1, [some (.inr (.inr 92)), some (.inl a1), none], [.inl a1], g) rfl ?_
  refine ec 98 4 [.inl a1] [] rfl (ev_Md_isOne a1 g _ rfl) ?_
  show Ev 199 4 [some (.inr (.inr 92)), some (.inl a1), none] [.inl (Md_isOne a1)] g _ _
  by_cases hc : ¬ (Md_isOne a1) = 0
  · rw [if_pos hc] at h
    refine es (10, [some (.inr (.inr 92)), some (.inl a1), none], [], g) (congrArg some (if_pos hc)) ?_
    refine ev_runs 1 (10, [some (.inr (.inr 92)), some (.inl a1), none], [], g) (11, [some (.inr (.inr 92)), some (.inl a1), none], [.inr (.inr 92)], g) rfl ?_
    obtain ⟨q1, hq, h⟩ := Option.bind_eq_some_iff.mp h
    refine ec 190 14 [.inr (.inr 92)] [] rfl (ev_Md_lacksEither g q1.1 q1.2 hq) ?_
    show Ev 199 14 [some (.inr (.inr 92)), some (.inl a1), none] [.inl q1.1] q1.2 _ _
    refine ev_runs 2 (14, [some (.inr (.inr 92)), some (.inl a1), none], [.inl q1.1], q1.2) (16, [some (.inr (.inr 92)), some (.inl a1), some (.inl q1.1)], [.inl q1.1], q1.2) rfl ?_
    by_cases hc : q1.1 = 0
    · rw [if_pos hc] at h
      refine es (23, [some (.inr (.inr 92)), some (.inl a1), some (.inl q1.1)], [], q1.2) (congrArg some (if_pos hc)) ?_
      refine ev_runs 2 (23, [some (.inr (.inr 92)), some (.inl a1), some (.inl q1.1)], [], q1.2) (25, [some (.inr (.inr 92)), some (.inl a1), some (.inl q1.1)], [.inl a1, .inr (.inr 92)], q1.2) rfl ?_
      obtain ⟨q2, hq, h⟩ := Option.bind_eq_some_iff.mp h
      refine ec 196 28 [.inr (.inr 92), .inl a1] [] rfl (ev_Md_breachOf a1 q1.2 q2.1 q2.2 hq) ?_
      show Ev 199 28 [some (.inr (.inr 92)), some (.inl a1), some (.inl q1.1)] [.inl q2.1] q2.2 _ _
      cases h
      exact er rfl
    · rw [if_neg hc] at h
      refine es (19, [some (.inr (.inr 92)), some (.inl a1), some (.inl q1.1)], [], q1.2) (congrArg some (if_neg hc)) ?_
      refine ev_runs 2 (19, [some (.inr (.inr 92)), some (.inl a1), some (.inl q1.1)], [], q1.2) (28, [some (.inr (.inr 92)), some (.inl a1), some (.inl q1.1)], [.inl q1.1], q1.2) rfl ?_
      cases h
      exact er rfl
  · rw [if_neg hc] at h
    refine es (7, [some (.inr (.inr 92)), some (.inl a1), none], [], g) (congrArg some (if_neg hc)) ?_
    refine ev_runs 1 (7, [some (.inr (.inr 92)), some (.inl a1), none], [], g) (9, [some (.inr (.inr 92)), some (.inl a1), none], [.inl (-2)], g) rfl ?_
    cases h
    exact er rfl
set_option maxRecDepth 100000 in
set_option maxHeartbeats 4000000 in
theorem ev_Op_isSheet (a0 : Int) (g : Gx) (r : Int) (h : Op_isSheet a0 = r) : Ev 200 0 [some (.inl a0)] [] g (some (.inl r)) g := by
  rw [Op_isSheet] at h
  refine ev_runs 1 (0, [some (.inl a0)], [], g) (1, [some (.inl a0)], [.inl a0], g) rfl ?_
  by_cases hc : a0 < 0
  · rw [if_pos hc] at h
    refine es (13, [some (.inl a0)], [], g) (congrArg some (if_pos hc)) ?_
    refine ev_runs 1 (13, [some (.inl a0)], [], g) (14, [some (.inl a0)], [.inl 0], g) rfl ?_
    subst h
    exact er rfl
  · rw [if_neg hc] at h
    refine es (4, [some (.inl a0)], [], g) (congrArg some (if_neg hc)) ?_
    refine ev_runs 2 (4, [some (.inl a0)], [], g) (6, [some (.inl a0)], [.inl 4, .inl a0], g) rfl ?_
    by_cases hc : 4 ≤ a0
    · rw [if_pos hc] at h
      refine es (13, [some (.inl a0)], [], g) (congrArg some (if_pos hc)) ?_
      refine ev_runs 1 (13, [some (.inl a0)], [], g) (14, [some (.inl a0)], [.inl 0], g) rfl ?_
      subst h
      exact er rfl
    · rw [if_neg hc] at h
      refine es (9, [some (.inl a0)], [], g) (congrArg some (if_neg hc)) ?_
      refine ev_runs 2 (9, [some (.inl a0)], [], g) (14, [some (.inl a0)], [.inl 1], g) rfl ?_
      subst h
      exact er rfl
set_option maxRecDepth 100000 in
set_option maxHeartbeats 4000000 in
theorem ev_Sh_isLost (a1 : Int) (g : Gx) (r : Int) (h : Sh_isLost a1 g = r) : Ev 201 0 [some (.inr (.inr 85)), some (.inl a1)] [] g (some (.inl r)) g := by
  rw [Sh_isLost] at h
  refine ev_runs 3 (0, [some (.inr (.inr 85)), some (.inl a1)], [], g) (5, [some (.inr (.inr 85)), some (.inl a1)], [.inl a1, .inr (.inr 88)], g) rfl ?_
  refine ec 13 8 [.inr (.inr 88), .inl a1] [] rfl (ev_Row_at rfl rfl _ _) ?_
  show Ev 201 8 [some (.inr (.inr 85)), some (.inl a1)] [.inl (rat g 89 4 a1)] g _ _
  refine ev_runs 1 (8, [some (.inr (.inr 85)), some (.inl a1)], [.inl (rat g 89 4 a1)], g) (9, [some (.inr (.inr 85)), some (.inl a1)], [.inl (-1), .inl (rat g 89 4 a1)], g) rfl ?_
  by_cases hc : ¬ (rat g 89 4 a1) = (-1)
  · rw [if_pos hc] at h
    refine es (16, [some (.inr (.inr 85)), some (.inl a1)], [], g) (congrArg some (if_pos hc)) ?_
    refine ev_runs 1 (16, [some (.inr (.inr 85)), some (.inl a1)], [], g) (17, [some (.inr (.inr 85)), some (.inl a1)], [.inl 0], g) rfl ?_
    subst h
    exact er rfl
  · rw [if_neg hc] at h
    refine es (12, [some (.inr (.inr 85)), some (.inl a1)], [], g) (congrArg some (if_neg hc)) ?_
    refine ev_runs 2 (12, [some (.inr (.inr 85)), some (.inl a1)], [], g) (17, [some (.inr (.inr 85)), some (.inl a1)], [.inl 1], g) rfl ?_
    subst h
    exact er rfl
set_option maxRecDepth 100000 in
set_option maxHeartbeats 4000000 in
theorem ev_Op_found (a1 : Int) (g : Gx) (r : Int) (g' : Gx) (h : Op_found a1 g = (r, g')) : Ev 202 0 [some (.inr (.inr 0)), some (.inl a1)] [] g (some (.inl r)) g' := by
  rw [Op_found] at h
  refine ev_runs 6 (0, [some (.inr (.inr 0)), some (.inl a1)], [], g) (9, [some (.inr (.inr 0)), some (.inl a1)], [.inl (wr ((-10) - a1))], (gset g 0 12 a1)) rfl ?_
  cases h
  exact er rfl
set_option maxRecDepth 100000 in
set_option maxHeartbeats 4000000 in
theorem ev_Sh_size (a1 : Int) (g : Gx) (r : Int) (h : Sh_size a1 g = r) : Ev 203 0 [some (.inr (.inr 85)), some (.inl a1)] [] g (some (.inl r)) g := by
  rw [Sh_size] at h
  refine ev_runs 3 (0, [some (.inr (.inr 85)), some (.inl a1)], [], g) (5, [some (.inr (.inr 85)), some (.inl a1)], [.inl a1, .inr (.inr 90)], g) rfl ?_
  refine ec 13 8 [.inr (.inr 90), .inl a1] [] rfl (ev_Row_at rfl rfl _ _) ?_
  show Ev 203 8 [some (.inr (.inr 85)), some (.inl a1)] [.inl (rat g 91 4 a1)] g _ _
  subst h
  exact er rfl
set_option maxRecDepth 100000 in
set_option maxHeartbeats 4000000 in
theorem ev_Sh_item (a1 a2 : Int) (g : Gx) (r : Int) (h : Sh_item a1 a2 g = r) : Ev 204 0 [some (.inr (.inr 85)), some (.inl a1), some (.inl a2)] [] g (some (.inl r)) g := by
  rw [Sh_item] at h
  refine ev_runs 7 (0, [some (.inr (.inr 85)), some (.inl a1), some (.inl a2)], [], g) (10, [some (.inr (.inr 85)), some (.inl a1), some (.inl a2)], [.inl (wr ((wr (a1 * 60)) + a2)), .inr (.inr 86)], g) rfl ?_
  refine ec 13 13 [.inr (.inr 86), .inl (wr ((wr (a1 * 60)) + a2))] [] rfl (ev_Row_at rfl rfl _ _) ?_
  show Ev 204 13 [some (.inr (.inr 85)), some (.inl a1), some (.inl a2)] [.inl (rat g 87 240 (wr ((wr (a1 * 60)) + a2)))] g _ _
  subst h
  exact er rfl
set_option maxRecDepth 100000 in
set_option maxHeartbeats 4000000 in
theorem ev_Bd_mayBe (a0 : Int) (g : Gx) (r : Int) (h : Bd_mayBe a0 = r) : Ev 205 0 [some (.inl a0)] [] g (some (.inl r)) g := by
  rw [Bd_mayBe] at h
  refine ev_runs 1 (0, [some (.inl a0)], [], g) (1, [some (.inl a0)], [.inl a0], g) rfl ?_
  by_cases hc : a0 < 0
  · rw [if_pos hc] at h
    refine es (48, [some (.inl a0)], [], g) (congrArg some (if_pos hc)) ?_
    refine ev_runs 1 (48, [some (.inl a0)], [], g) (49, [some (.inl a0)], [.inl 0], g) rfl ?_
    subst h
    exact er rfl
  · rw [if_neg hc] at h
    refine es (4, [some (.inl a0)], [], g) (congrArg some (if_neg hc)) ?_
    refine ev_runs 1 (4, [some (.inl a0)], [], g) (5, [some (.inl a0)], [.inl a0], g) rfl ?_
    refine ec 92 8 [.inl a0] [] rfl (ev_Op_sayer a0 g _ rfl) ?_
    show Ev 205 8 [some (.inl a0)] [.inl (Op_sayer a0)] g _ _
    refine ec 91 11 [.inl (Op_sayer a0)] [] rfl (ev_Op_isTalker (Op_sayer a0) g _ rfl) ?_
    show Ev 205 11 [some (.inl a0)] [.inl (Op_isTalker (Op_sayer a0))] g _ _
    by_cases hc : (Op_isTalker (Op_sayer a0)) = 0
    · rw [if_pos hc] at h
      refine es (48, [some (.inl a0)], [], g) (congrArg some (if_pos hc)) ?_
      refine ev_runs 1 (48, [some (.inl a0)], [], g) (49, [some (.inl a0)], [.inl 0], g) rfl ?_
      subst h
      exact er rfl
    · rw [if_neg hc] at h
      refine es (14, [some (.inl a0)], [], g) (congrArg some (if_neg hc)) ?_
      refine ev_runs 1 (14, [some (.inl a0)], [], g) (15, [some (.inl a0)], [.inl a0], g) rfl ?_
      refine ec 93 18 [.inl a0] [] rfl (ev_Op_getter a0 g _ rfl) ?_
      show Ev 205 18 [some (.inl a0)] [.inl (Op_getter a0)] g _ _
      refine ec 91 21 [.inl (Op_getter a0)] [] rfl (ev_Op_isTalker (Op_getter a0) g _ rfl) ?_
      show Ev 205 21 [some (.inl a0)] [.inl (Op_isTalker (Op_getter a0))] g _ _
      by_cases hc : (Op_isTalker (Op_getter a0)) = 0
      · rw [if_pos hc] at h
        refine es (48, [some (.inl a0)], [], g) (congrArg some (if_pos hc)) ?_
        refine ev_runs 1 (48, [some (.inl a0)], [], g) (49, [some (.inl a0)], [.inl 0], g) rfl ?_
        subst h
        exact er rfl
      · rw [if_neg hc] at h
        refine es (24, [some (.inl a0)], [], g) (congrArg some (if_neg hc)) ?_
        refine ev_runs 1 (24, [some (.inl a0)], [], g) (25, [some (.inl a0)], [.inl a0], g) rfl ?_
        refine ec 92 28 [.inl a0] [] rfl (ev_Op_sayer a0 g _ rfl) ?_
        show Ev 205 28 [some (.inl a0)] [.inl (Op_sayer a0)] g _ _
        refine ev_runs 1 (28, [some (.inl a0)], [.inl (Op_sayer a0)], g) (29, [some (.inl a0)], [.inl a0, .inl (Op_sayer a0)], g) rfl ?_
        refine ec 93 32 [.inl a0] [.inl (Op_sayer a0)] rfl (ev_Op_getter a0 g _ rfl) ?_
        show Ev 205 32 [some (.inl a0)] [.inl (Op_getter a0), .inl (Op_sayer a0)] g _ _
        by_cases hc : (Op_sayer a0) = (Op_getter a0)
        · rw [if_pos hc] at h
          refine es (48, [some (.inl a0)], [], g) (congrArg some (if_pos hc)) ?_
          refine ev_runs 1 (48, [some (.inl a0)], [], g) (49, [some (.inl a0)], [.inl 0], g) rfl ?_
          subst h
          exact er rfl
        · rw [if_neg hc] at h
          refine es (35, [some (.inl a0)], [], g) (congrArg some (if_neg hc)) ?_
          refine ev_runs 4 (35, [some (.inl a0)], [], g) (41, [some (.inl a0)], [.inl 29, .inl (jrem a0 100)], g) rfl ?_
          by_cases hc : 29 < (jrem a0 100)
          · rw [if_pos hc] at h
            refine es (48, [some (.inl a0)], [], g) (congrArg some (if_pos hc)) ?_
            refine ev_runs 1 (48, [some (.inl a0)], [], g) (49, [some (.inl a0)], [.inl 0], g) rfl ?_
            subst h
            exact er rfl
          · rw [if_neg hc] at h
            refine es (44, [some (.inl a0)], [], g) (congrArg some (if_neg hc)) ?_
            refine ev_runs 2 (44, [some (.inl a0)], [], g) (49, [some (.inl a0)], [.inl 1], g) rfl ?_
            subst h
            exact er rfl
set_option maxRecDepth 100000 in
set_option maxHeartbeats 4000000 in
theorem ev_Bd_append (a1 : Int) (g : Gx) (r : Int) (g' : Gx) (h : Bd_append a1 g = (r, g')) : Ev 206 0 [some (.inr (.inr 78)), some (.inl a1)] [] g (some (.inl r)) g' := by
  rw [Bd_append] at h
  refine ev_runs 3 (0, [some (.inr (.inr 78)), some (.inl a1)], [], g) (6, [some (.inr (.inr 78)), some (.inl a1)], [.inl 40, .inl (g 78 4)], g) rfl ?_
  by_cases hc : 40 ≤ (g 78 4)
  · rw [if_pos hc] at h
    refine es (16, [some (.inr (.inr 78)), some (.inl a1)], [], g) (congrArg some (if_pos hc)) ?_
    refine ev_runs 1 (16, [some (.inr (.inr 78)), some (.inl a1)], [], g) (17, [some (.inr (.inr 78)), some (.inl a1)], [.inl 0], g) rfl ?_
    cases h
    exact er rfl
  · rw [if_neg hc] at h
    refine es (9, [some (.inr (.inr 78)), some (.inl a1)], [], g) (congrArg some (if_neg hc)) ?_
    refine ev_runs 1 (9, [some (.inr (.inr 78)), some (.inl a1)], [], g) (10, [some (.inr (.inr 78)), some (.inl a1)], [.inl a1], g) rfl ?_
    refine ec 205 13 [.inl a1] [] rfl (ev_Bd_mayBe a1 g _ rfl) ?_
    show Ev 206 13 [some (.inr (.inr 78)), some (.inl a1)] [.inl (Bd_mayBe a1)] g _ _
    by_cases hc : ¬ (Bd_mayBe a1) = 0
    · rw [if_pos hc] at h
      refine es (18, [some (.inr (.inr 78)), some (.inl a1)], [], g) (congrArg some (if_pos hc)) ?_
      refine ev_runs 5 (18, [some (.inr (.inr 78)), some (.inl a1)], [], g) (27, [some (.inr (.inr 78)), some (.inl a1)], [.inl a1, .inl (g 78 4), .inr (.inr 79)], g) rfl ?_
      refine ec 0 30 [.inr (.inr 79), .inl (g 78 4), .inl a1] [] rfl (ev_Row_set rfl rfl _ _ _) ?_
      show Ev 206 30 [some (.inr (.inr 78)), some (.inl a1)] [] (rset g 80 40 (g 78 4) a1) _ _
      refine ev_runs 7 (30, [some (.inr (.inr 78)), some (.inl a1)], [], (rset g 80 40 (g 78 4) a1)) (41, [some (.inr (.inr 78)), some (.inl a1)], [.inl 1], (gset (rset g 80 40 (g 78 4) a1) 78 4 (wr ((g 78 4) + 1)))) rfl ?_
      cases h
      exact er rfl
    · rw [if_neg hc] at h
      refine es (16, [some (.inr (.inr 78)), some (.inl a1)], [], g) (congrArg some (if_neg hc)) ?_
      refine ev_runs 1 (16, [some (.inr (.inr 78)), some (.inl a1)], [], g) (17, [some (.inr (.inr 78)), some (.inl a1)], [.inl 0], g) rfl ?_
      cases h
      exact er rfl
set_option maxRecDepth 100000 in
set_option maxHeartbeats 4000000 in
theorem ev_Op_log_l29 (c1 : Int) (K29_66 : Int → Gx → Option (Int × Gx)) (hK29_66 : ∀ (x2 : Int) (g : Gx) (r : Int) (g' : Gx), K29_66 x2 g = some (r, g') → Ev 207 66 [none, none, some (.inl x2)] [] g (some (.inl r)) g') : ∀ (n29 : Nat) (v2 : Int) (g : Gx) (r : Int) (g' : Gx), Op_log_l29 c1 K29_66 n29 v2 g = some (r, g') → Ev 207 29 [some (.inr (.inr 0)), some (.inl c1), some (.inl v2)] [] g (some (.inl r)) g' := by
  intro n29
  induction n29 with
  | zero => intro v2 g r g' h; cases h
  | succ n29 ih29 =>
    intro v2 g r g' h
    rw [Op_log_l29] at h
    refine ev_runs 4 (29, [some (.inr (.inr 0)), some (.inl c1), some (.inl v2)], [], g) (35, [some (.inr (.inr 0)), some (.inl c1), some (.inl v2)], [.inl c1, .inr (.inr 85), .inl v2], g) rfl ?_
    refine ec 203 38 [.inr (.inr 85), .inl c1] [.inl v2] rfl (ev_Sh_size c1 g _ rfl) ?_
    show Ev 207 38 [some (.inr (.inr 0)), some (.inl c1), some (.inl v2)] [.inl (Sh_size c1 g), .inl v2] g _ _
    by_cases hc : (Sh_size c1 g) ≤ v2
    · rw [if_pos hc] at h
      refine es (66, [some (.inr (.inr 0)), some (.inl c1), some (.inl v2)], [], g) (congrArg some (if_pos hc)) ?_
      exact ev_le (L := [none, none, some (.inl v2)]) (by simp [Lle]) (hK29_66 v2 g r g' h)
    · rw [if_neg hc] at h
      refine es (41, [some (.inr (.inr 0)), some (.inl c1), some (.inl v2)], [], g) (congrArg some (if_neg hc)) ?_
      refine ev_runs 6 (41, [some (.inr (.inr 0)), some (.inl c1), some (.inl v2)], [], g) (51, [some (.inr (.inr 0)), some (.inl c1), some (.inl v2)], [.inl v2, .inl c1, .inr (.inr 85), .inr (.inr 78)], g) rfl ?_
      refine ec 204 54 [.inr (.inr 85), .inl c1, .inl v2] [.inr (.inr 78)] rfl (ev_Sh_item c1 v2 g _ rfl) ?_
      show Ev 207 54 [some (.inr (.inr 0)), some (.inl c1), some (.inl v2)] [.inl (Sh_item c1 v2 g), .inr (.inr 78)] g _ _
      obtain ⟨q1, hq, h⟩ := lett_inv h
      have hb_q1 : q1.1 = 0 ∨ q1.1 = 1 := by rw [hq]; exact bo_Bd_append (Sh_item c1 v2 g) g
      refine ec 206 57 [.inr (.inr 78), .inl (Sh_item c1 v2 g)] [] rfl (ev_Bd_append (Sh_item c1 v2 g) g q1.1 q1.2 hq.symm) ?_
      show Ev 207 57 [some (.inr (.inr 0)), some (.inl c1), some (.inl v2)] [.inl q1.1] q1.2 _ _
      by_cases hc : q1.1 = 0
      · rw [if_pos hc] at h
        refine es (66, [some (.inr (.inr 0)), some (.inl c1), some (.inl v2)], [], q1.2) (congrArg some (if_pos hc)) ?_
        exact ev_le (L := [none, none, some (.inl v2)]) (by simp [Lle]) (hK29_66 v2 q1.2 r g' h)
      · rw [if_neg hc] at h
        refine es (60, [some (.inr (.inr 0)), some (.inl c1), some (.inl v2)], [], q1.2) (congrArg some (if_neg hc)) ?_
        refine ev_runs 2 (60, [some (.inr (.inr 0)), some (.inl c1), some (.inl v2)], [], q1.2) (29, [some (.inr (.inr 0)), some (.inl c1), some (.inl (wr (v2 + 1)))], [], q1.2) rfl ?_
        exact ev_le (L := [some (.inr (.inr 0)), some (.inl c1), some (.inl (wr (v2 + 1)))]) (by simp [Lle]) (ih29 (wr (v2 + 1)) q1.2 r g' h)
set_option maxRecDepth 100000 in
set_option maxHeartbeats 4000000 in
theorem ev_Op_log (a1 : Int) (g : Gx) (r : Int) (g' : Gx) (h : Op_log a1 g = some (r, g')) : Ev 207 0 [some (.inr (.inr 0)), some (.inl a1), none] [] g (some (.inl r)) g' := by
  rw [Op_log] at h
  refine ev_runs 1 (0, [some (.inr (.inr 0)), some (.inl a1), none], [], g) (1, [some (.inr (.inr 0)), some (.inl a1), none], [.inl a1], g) rfl ?_
  refine ec 200 4 [.inl a1] [] rfl (ev_Op_isSheet a1 g _ rfl) ?_
  show Ev 207 4 [some (.inr (.inr 0)), some (.inl a1), none] [.inl (Op_isSheet a1)] g _ _
  by_cases hc : ¬ (Op_isSheet a1) = 0
  · rw [if_pos hc] at h
    refine es (10, [some (.inr (.inr 0)), some (.inl a1), none], [], g) (congrArg some (if_pos hc)) ?_
    refine ev_runs 3 (10, [some (.inr (.inr 0)), some (.inl a1), none], [], g) (15, [some (.inr (.inr 0)), some (.inl a1), none], [.inl a1, .inr (.inr 85)], g) rfl ?_
    refine ec 201 18 [.inr (.inr 85), .inl a1] [] rfl (ev_Sh_isLost a1 g _ rfl) ?_
    show Ev 207 18 [some (.inr (.inr 0)), some (.inl a1), none] [.inl (Sh_isLost a1 g)] g _ _
    by_cases hc : (Sh_isLost a1 g) = 0
    · rw [if_pos hc] at h
      refine es (27, [some (.inr (.inr 0)), some (.inl a1), none], [], g) (congrArg some (if_pos hc)) ?_
      refine ev_runs 2 (27, [some (.inr (.inr 0)), some (.inl a1), none], [], g) (29, [some (.inr (.inr 0)), some (.inl a1), some (.inl 0)], [], g) rfl ?_
      refine ev_le (L := [some (.inr (.inr 0)), some (.inl a1), some (.inl 0)]) (by simp [Lle]) ?_
      refine ev_Op_log_l29 a1 _ ?_ fu 0 g r g' h
      · intro x2 g3 r g' h
        refine ev_runs 1 (66, [none, none, some (.inl x2)], [], g3) (67, [none, none, some (.inl x2)], [.inl x2], g3) rfl ?_
        cases h
        exact er rfl
    · rw [if_neg hc] at h
      refine es (21, [some (.inr (.inr 0)), some (.inl a1), none], [], g) (congrArg some (if_neg hc)) ?_
      refine ev_runs 2 (21, [some (.inr (.inr 0)), some (.inl a1), none], [], g) (23, [some (.inr (.inr 0)), some (.inl a1), none], [.inl 1, .inr (.inr 0)], g) rfl ?_
      obtain ⟨q4, hq, h⟩ := lett_inv h
      refine ec 202 26 [.inr (.inr 0), .inl 1] [] rfl (ev_Op_found 1 g q4.1 q4.2 hq.symm) ?_
      show Ev 207 26 [some (.inr (.inr 0)), some (.inl a1), none] [.inl q4.1] q4.2 _ _
      cases h
      exact er rfl
  · rw [if_neg hc] at h
    refine es (7, [some (.inr (.inr 0)), some (.inl a1), none], [], g) (congrArg some (if_neg hc)) ?_
    refine ev_runs 1 (7, [some (.inr (.inr 0)), some (.inl a1), none], [], g) (9, [some (.inr (.inr 0)), some (.inl a1), none], [.inl (-2)], g) rfl ?_
    cases h
    exact er rfl
set_option maxRecDepth 100000 in
set_option maxHeartbeats 4000000 in
theorem ev_Md_isSheet (a0 : Int) (g : Gx) (r : Int) (h : Md_isSheet a0 = r) : Ev 208 0 [some (.inl a0)] [] g (some (.inl r)) g := by
  rw [Md_isSheet] at h
  refine ev_runs 4 (0, [some (.inl a0)], [], g) (6, [some (.inl a0)], [.inr (.inl 3), .inr (.inl 0), .inr (.inl a0)], g) rfl ?_
  refine ec 4 9 [.inr (.inl a0), .inr (.inl 0), .inr (.inl 3)] [] rfl (ev_Md_in a0 0 3 g _ rfl) ?_
  show Ev 208 9 [some (.inl a0)] [.inl (Md_in a0 0 3)] g _ _
  subst h
  exact er (if_pos (bo_Md_in a0 0 3))
set_option maxRecDepth 100000 in
set_option maxHeartbeats 4000000 in
theorem ev_Md_met (a1 : Int) (g : Gx) (r : Int) (g' : Gx) (h : Md_met a1 g = (r, g')) : Ev 209 0 [some (.inr (.inr 92)), some (.inl a1)] [] g (some (.inl r)) g' := by
  rw [Md_met] at h
  refine ev_runs 6 (0, [some (.inr (.inr 92)), some (.inl a1)], [], g) (9, [some (.inr (.inr 92)), some (.inl a1)], [.inl (wr ((-10) - a1))], (gset g 92 4 a1)) rfl ?_
  cases h
  exact er rfl
set_option maxRecDepth 100000 in
set_option maxHeartbeats 4000000 in
theorem ev_Md_log_l29 (c1 : Int) (K29_162 : Int → Gx → Option (Int × Gx)) (hK29_162 : ∀ (x2 : Int) (g : Gx) (r : Int) (g' : Gx), K29_162 x2 g = some (r, g') → Ev 210 162 [none, none, some (.inl x2), none, none] [] g (some (.inl r)) g') : ∀ (n29 : Nat) (v2 v3 : Int) (g : Gx) (r : Int) (g' : Gx), Md_log_l29 c1 K29_162 n29 v2 v3 g = some (r, g') → Ev 210 29 [some (.inr (.inr 92)), some (.inl c1), some (.inl v2), some (.inl v3), none] [] g (some (.inl r)) g' := by
  intro n29
  induction n29 with
  | zero => intro v2 v3 g r g' h; cases h
  | succ n29 ih29 =>
    intro v2 v3 g r g' h
    rw [Md_log_l29] at h
    refine ev_runs 1 (29, [some (.inr (.inr 92)), some (.inl c1), some (.inl v2), some (.inl v3), none], [], g) (30, [some (.inr (.inr 92)), some (.inl c1), some (.inl v2), some (.inl v3), none], [.inl v3], g) rfl ?_
    by_cases hc : v3 = 0
    · rw [if_pos hc] at h
      refine es (162, [some (.inr (.inr 92)), some (.inl c1), some (.inl v2), some (.inl v3), none], [], g) (congrArg some (if_pos hc)) ?_
      exact ev_le (L := [none, none, some (.inl v2), none, none]) (by simp [Lle]) (hK29_162 v2 g r g' h)
    · rw [if_neg hc] at h
      refine es (33, [some (.inr (.inr 92)), some (.inl c1), some (.inl v2), some (.inl v3), none], [], g) (congrArg some (if_neg hc)) ?_
      refine ev_runs 4 (33, [some (.inr (.inr 92)), some (.inl c1), some (.inl v2), some (.inl v3), none], [], g) (39, [some (.inr (.inr 92)), some (.inl c1), some (.inl v2), some (.inl v3), none], [.inl c1, .inr (.inr 94), .inl v2], g) rfl ?_
      by_cases hc : 0 ≤ c1 ∧ c1 < 4
      · rw [if_pos hc] at h
        refine es (40, [some (.inr (.inr 92)), some (.inl c1), some (.inl v2), some (.inl v3), none], [.inl (g 94 c1.toNat), .inl v2], g) (if_pos hc) ?_
        by_cases hc : (g 94 c1.toNat) ≤ v2
        · rw [if_pos hc] at h
          refine es (162, [some (.inr (.inr 92)), some (.inl c1), some (.inl v2), some (.inl v3), none], [], g) (congrArg some (if_pos hc)) ?_
          exact ev_le (L := [none, none, some (.inl v2), none, none]) (by simp [Lle]) (hK29_162 v2 g r g' h)
        · rw [if_neg hc] at h
          refine es (43, [some (.inr (.inr 92)), some (.inl c1), some (.inl v2), some (.inl v3), none], [], g) (congrArg some (if_neg hc)) ?_
          refine ev_runs 3 (43, [some (.inr (.inr 92)), some (.inl c1), some (.inl v2), some (.inl v3), none], [], g) (49, [some (.inr (.inr 92)), some (.inl c1), some (.inl v2), some (.inl v3), none], [.inl 40, .inl (g 92 48)], g) rfl ?_
          by_cases hc : 40 ≤ (g 92 48)
          · rw [if_pos hc] at h
            refine es (162, [some (.inr (.inr 92)), some (.inl c1), some (.inl v2), some (.inl v3), none], [], g) (congrArg some (if_pos hc)) ?_
            exact ev_le (L := [none, none, some (.inl v2), none, none]) (by simp [Lle]) (hK29_162 v2 g r g' h)
          · rw [if_neg hc] at h
            refine es (52, [some (.inr (.inr 92)), some (.inl c1), some (.inl v2), some (.inl v3), none], [], g) (congrArg some (if_neg hc)) ?_
            refine ev_runs 7 (52, [some (.inr (.inr 92)), some (.inl c1), some (.inl v2), some (.inl v3), none], [], g) (62, [some (.inr (.inr 92)), some (.inl c1), some (.inl v2), some (.inl v3), none], [.inl (wr ((wr (60 * c1)) + v2)), .inr (.inr 95)], g) rfl ?_
            by_cases hc : 0 ≤ (wr ((wr (60 * c1)) + v2)) ∧ (wr ((wr (60 * c1)) + v2)) < 240
            · rw [if_pos hc] at h
              refine es (63, [some (.inr (.inr 92)), some (.inl c1), some (.inl v2), some (.inl v3), none], [.inl (g 95 (wr ((wr (60 * c1)) + v2)).toNat)], g) (if_pos hc) ?_
              refine ev_runs 2 (63, [some (.inr (.inr 92)), some (.inl c1), some (.inl v2), some (.inl v3), none], [.inl (g 95 (wr ((wr (60 * c1)) + v2)).toNat)], g) (67, [some (.inr (.inr 92)), some (.inl c1), some (.inl v2), some (.inl v3), some (.inl (g 95 (wr ((wr (60 * c1)) + v2)).toNat))], [.inl (g 95 (wr ((wr (60 * c1)) + v2)).toNat)], g) rfl ?_
              obtain ⟨y1, hy1, h⟩ := lett_inv h
              have hjy1 : Ev 210 130 [some (.inr (.inr 92)), some (.inl c1), some (.inl v2), none, some (.inl (g 95 (wr ((wr (60 * c1)) + v2)).toNat))] [.inl y1] g (some (.inl r)) g' := by
                refine ev_runs 2 (130, [some (.inr (.inr 92)), some (.inl c1), some (.inl v2), none, some (.inl (g 95 (wr ((wr (60 * c1)) + v2)).toNat))], [.inl y1], g) (132, [some (.inr (.inr 92)), some (.inl c1), some (.inl v2), some (.inl y1), some (.inl (g 95 (wr ((wr (60 * c1)) + v2)).toNat))], [.inl y1], g) rfl ?_
                by_cases hc : y1 = 0
                · rw [if_pos hc] at h
                  refine es (159, [some (.inr (.inr 92)), some (.inl c1), some (.inl v2), some (.inl y1), some (.inl (g 95 (wr ((wr (60 * c1)) + v2)).toNat))], [], g) (congrArg some (if_pos hc)) ?_
                  refine ev_runs 1 (159, [some (.inr (.inr 92)), some (.inl c1), some (.inl v2), some (.inl y1), some (.inl (g 95 (wr ((wr (60 * c1)) + v2)).toNat))], [], g) (29, [some (.inr (.inr 92)), some (.inl c1), some (.inl v2), some (.inl y1), some (.inl (g 95 (wr ((wr (60 * c1)) + v2)).toNat))], [], g) rfl ?_
                  exact ev_le (L := [some (.inr (.inr 92)), some (.inl c1), some (.inl v2), some (.inl y1), none]) (by simp [Lle]) (ih29 v2 y1 g r g' h)
                · rw [if_neg hc] at h
                  refine es (135, [some (.inr (.inr 92)), some (.inl c1), some (.inl v2), some (.inl y1), some (.inl (g 95 (wr ((wr (60 * c1)) + v2)).toNat))], [], g) (congrArg some (if_neg hc)) ?_
                  refine ev_runs 5 (135, [some (.inr (.inr 92)), some (.inl c1), some (.inl v2), some (.inl y1), some (.inl (g 95 (wr ((wr (60 * c1)) + v2)).toNat))], [], g) (145, [some (.inr (.inr 92)), some (.inl c1), some (.inl v2), some (.inl y1), some (.inl (g 95 (wr ((wr (60 * c1)) + v2)).toNat))], [.inl (g 95 (wr ((wr (60 * c1)) + v2)).toNat), .inl (g 92 48), .inr (.inr 127)], g) rfl ?_
                  by_cases hc : 0 ≤ (g 92 48) ∧ (g 92 48) < 40
                  · rw [if_pos hc] at h
                    refine es (146, [some (.inr (.inr 92)), some (.inl c1), some (.inl v2), some (.inl y1), some (.inl (g 95 (wr ((wr (60 * c1)) + v2)).toNat))], [], (gset g 127 ((g 92 48).toNat) (g 95 (wr ((wr (60 * c1)) + v2)).toNat))) (if_pos hc) ?_
                    refine ev_runs 8 (146, [some (.inr (.inr 92)), some (.inl c1), some (.inl v2), some (.inl y1), some (.inl (g 95 (wr ((wr (60 * c1)) + v2)).toNat))], [], (gset g 127 ((g 92 48).toNat) (g 95 (wr ((wr (60 * c1)) + v2)).toNat))) (29, [some (.inr (.inr 92)), some (.inl c1), some (.inl (wr (v2 + 1))), some (.inl y1), some (.inl (g 95 (wr ((wr (60 * c1)) + v2)).toNat))], [], (gset (gset g 127 ((g 92 48).toNat) (g 95 (wr ((wr (60 * c1)) + v2)).toNat)) 92 48 (wr ((g 92 48) + 1)))) rfl ?_
                    exact ev_le (L := [some (.inr (.inr 92)), some (.inl c1), some (.inl (wr (v2 + 1))), some (.inl y1), none]) (by simp [Lle]) (ih29 (wr (v2 + 1)) y1 (gset (gset g 127 ((g 92 48).toNat) (g 95 (wr ((wr (60 * c1)) + v2)).toNat)) 92 48 (wr ((g 92 48) + 1))) r g' h)
                  · rw [if_neg hc] at h; cases h
              by_cases hc : (g 95 (wr ((wr (60 * c1)) + v2)).toNat) < 0
              · rw [if_pos hc] at hy1
                refine es (129, [some (.inr (.inr 92)), some (.inl c1), some (.inl v2), some (.inl v3), some (.inl (g 95 (wr ((wr (60 * c1)) + v2)).toNat))], [], g) (congrArg some (if_pos hc)) ?_
                refine ev_runs 1 (129, [some (.inr (.inr 92)), some (.inl c1), some (.inl v2), some (.inl v3), some (.inl (g 95 (wr ((wr (60 * c1)) + v2)).toNat))], [], g) (130, [some (.inr (.inr 92)), some (.inl c1), some (.inl v2), some (.inl v3), some (.inl (g 95 (wr ((wr (60 * c1)) + v2)).toNat))], [.inl 0], g) rfl ?_
                rw [hy1] at hjy1
                exact ev_le (L := [some (.inr (.inr 92)), some (.inl c1), some (.inl v2), none, some (.inl (g 95 (wr ((wr (60 * c1)) + v2)).toNat))]) (by simp [Lle]) hjy1
              · rw [if_neg hc] at hy1
                refine es (70, [some (.inr (.inr 92)), some (.inl c1), some (.inl v2), some (.inl v3), some (.inl (g 95 (wr ((wr (60 * c1)) + v2)).toNat))], [], g) (congrArg some (if_neg hc)) ?_
                refine ev_runs 1 (70, [some (.inr (.inr 92)), some (.inl c1), some (.inl v2), some (.inl v3), some (.inl (g 95 (wr ((wr (60 * c1)) + v2)).toNat))], [], g) (72, [some (.inr (.inr 92)), some (.inl c1), some (.inl v2), some (.inl v3), some (.inl (g 95 (wr ((wr (60 * c1)) + v2)).toNat))], [.inl (g 95 (wr ((wr (60 * c1)) + v2)).toNat)], g) rfl ?_
                refine ec 99 75 [.inl (g 95 (wr ((wr (60 * c1)) + v2)).toNat)] [] rfl (ev_Md_from (g 95 (wr ((wr (60 * c1)) + v2)).toNat) g _ rfl) ?_
                show Ev 210 75 [some (.inr (.inr 92)), some (.inl c1), some (.inl v2), some (.inl v3), some (.inl (g 95 (wr ((wr (60 * c1)) + v2)).toNat))] [.inl (Md_from (g 95 (wr ((wr (60 * c1)) + v2)).toNat))] g _ _
                refine ev_runs 3 (75, [some (.inr (.inr 92)), some (.inl c1), some (.inl v2), some (.inl v3), some (.inl (g 95 (wr ((wr (60 * c1)) + v2)).toNat))], [.inl (Md_from (g 95 (wr ((wr (60 * c1)) + v2)).toNat))], g) (80, [some (.inr (.inr 92)), some (.inl c1), some (.inl v2), some (.inl v3), some (.inl (g 95 (wr ((wr (60 * c1)) + v2)).toNat))], [.inr (.inl 5), .inr (.inl 0), .inr (.inl (Md_from (g 95 (wr ((wr (60 * c1)) + v2)).toNat)))], g) rfl ?_
                refine ec 4 83 [.inr (.inl (Md_from (g 95 (wr ((wr (60 * c1)) + v2)).toNat))), .inr (.inl 0), .inr (.inl 5)] [] rfl (ev_Md_in (Md_from (g 95 (wr ((wr (60 * c1)) + v2)).toNat)) 0 5 g _ rfl) ?_
                show Ev 210 83 [some (.inr (.inr 92)), some (.inl c1), some (.inl v2), some (.inl v3), some (.inl (g 95 (wr ((wr (60 * c1)) + v2)).toNat))] [.inl (Md_in (Md_from (g 95 (wr ((wr (60 * c1)) + v2)).toNat)) 0 5)] g _ _
                by_cases hc : (Md_in (Md_from (g 95 (wr ((wr (60 * c1)) + v2)).toNat)) 0 5) = 0
                · rw [if_pos hc] at hy1
                  refine es (129, [some (.inr (.inr 92)), some (.inl c1), some (.inl v2), some (.inl v3), some (.inl (g 95 (wr ((wr (60 * c1)) + v2)).toNat))], [], g) (congrArg some (if_pos hc)) ?_
                  refine ev_runs 1 (129, [some (.inr (.inr 92)), some (.inl c1), some (.inl v2), some (.inl v3), some (.inl (g 95 (wr ((wr (60 * c1)) + v2)).toNat))], [], g) (130, [some (.inr (.inr 92)), some (.inl c1), some (.inl v2), some (.inl v3), some (.inl (g 95 (wr ((wr (60 * c1)) + v2)).toNat))], [.inl 0], g) rfl ?_
                  rw [hy1] at hjy1
                  exact ev_le (L := [some (.inr (.inr 92)), some (.inl c1), some (.inl v2), none, some (.inl (g 95 (wr ((wr (60 * c1)) + v2)).toNat))]) (by simp [Lle]) hjy1
                · rw [if_neg hc] at hy1
                  refine es (86, [some (.inr (.inr 92)), some (.inl c1), some (.inl v2), some (.inl v3), some (.inl (g 95 (wr ((wr (60 * c1)) + v2)).toNat))], [], g) (congrArg some (if_neg hc)) ?_
                  refine ev_runs 1 (86, [some (.inr (.inr 92)), some (.inl c1), some (.inl v2), some (.inl v3), some (.inl (g 95 (wr ((wr (60 * c1)) + v2)).toNat))], [], g) (88, [some (.inr (.inr 92)), some (.inl c1), some (.inl v2), some (.inl v3), some (.inl (g 95 (wr ((wr (60 * c1)) + v2)).toNat))], [.inl (g 95 (wr ((wr (60 * c1)) + v2)).toNat)], g) rfl ?_
                  refine ec 100 91 [.inl (g 95 (wr ((wr (60 * c1)) + v2)).toNat)] [] rfl (ev_Md_to (g 95 (wr ((wr (60 * c1)) + v2)).toNat) g _ rfl) ?_
                  show Ev 210 91 [some (.inr (.inr 92)), some (.inl c1), some (.inl v2), some (.inl v3), some (.inl (g 95 (wr ((wr (60 * c1)) + v2)).toNat))] [.inl (Md_to (g 95 (wr ((wr (60 * c1)) + v2)).toNat))] g _ _
                  refine ev_runs 3 (91, [some (.inr (.inr 92)), some (.inl c1), some (.inl v2), some (.inl v3), some (.inl (g 95 (wr ((wr (60 * c1)) + v2)).toNat))], [.inl (Md_to (g 95 (wr ((wr (60 * c1)) + v2)).toNat))], g) (96, [some (.inr (.inr 92)), some (.inl c1), some (.inl v2), some (.inl v3), some (.inl (g 95 (wr ((wr (60 * c1)) + v2)).toNat))], [.inr (.inl 5), .inr (.inl 0), .inr (.inl (Md_to (g 95 (wr ((wr (60 * c1)) + v2)).toNat)))], g) rfl ?_
                  refine ec 4 99 [.inr (.inl (Md_to (g 95 (wr ((wr (60 * c1)) + v2)).toNat))), .inr (.inl 0), .inr (.inl 5)] [] rfl (ev_Md_in (Md_to (g 95 (wr ((wr (60 * c1)) + v2)).toNat)) 0 5 g _ rfl) ?_
                  show Ev 210 99 [some (.inr (.inr 92)), some (.inl c1), some (.inl v2), some (.inl v3), some (.inl (g 95 (wr ((wr (60 * c1)) + v2)).toNat))] [.inl (Md_in (Md_to (g 95 (wr ((wr (60 * c1)) + v2)).toNat)) 0 5)] g _ _
                  by_cases hc : (Md_in (Md_to (g 95 (wr ((wr (60 * c1)) + v2)).toNat)) 0 5) = 0
                  · rw [if_pos hc] at hy1
                    refine es (129, [some (.inr (.inr 92)), some (.inl c1), some (.inl v2), some (.inl v3), some (.inl (g 95 (wr ((wr (60 * c1)) + v2)).toNat))], [], g) (congrArg some (if_pos hc)) ?_
                    refine ev_runs 1 (129, [some (.inr (.inr 92)), some (.inl c1), some (.inl v2), some (.inl v3), some (.inl (g 95 (wr ((wr (60 * c1)) + v2)).toNat))], [], g) (130, [some (.inr (.inr 92)), some (.inl c1), some (.inl v2), some (.inl v3), some (.inl (g 95 (wr ((wr (60 * c1)) + v2)).toNat))], [.inl 0], g) rfl ?_
                    rw [hy1] at hjy1
                    exact ev_le (L := [some (.inr (.inr 92)), some (.inl c1), some (.inl v2), none, some (.inl (g 95 (wr ((wr (60 * c1)) + v2)).toNat))]) (by simp [Lle]) hjy1
                  · rw [if_neg hc] at hy1
                    refine es (102, [some (.inr (.inr 92)), some (.inl c1), some (.inl v2), some (.inl v3), some (.inl (g 95 (wr ((wr (60 * c1)) + v2)).toNat))], [], g) (congrArg some (if_neg hc)) ?_
                    refine ev_runs 1 (102, [some (.inr (.inr 92)), some (.inl c1), some (.inl v2), some (.inl v3), some (.inl (g 95 (wr ((wr (60 * c1)) + v2)).toNat))], [], g) (104, [some (.inr (.inr 92)), some (.inl c1), some (.inl v2), some (.inl v3), some (.inl (g 95 (wr ((wr (60 * c1)) + v2)).toNat))], [.inl (g 95 (wr ((wr (60 * c1)) + v2)).toNat)], g) rfl ?_
                    refine ec 99 107 [.inl (g 95 (wr ((wr (60 * c1)) + v2)).toNat)] [] rfl (ev_Md_from (g 95 (wr ((wr (60 * c1)) + v2)).toNat) g _ rfl) ?_
                    show Ev 210 107 [some (.inr (.inr 92)), some (.inl c1), some (.inl v2), some (.inl v3), some (.inl (g 95 (wr ((wr (60 * c1)) + v2)).toNat))] [.inl (Md_from (g 95 (wr ((wr (60 * c1)) + v2)).toNat))] g _ _
                    refine ev_runs 1 (107, [some (.inr (.inr 92)), some (.inl c1), some (.inl v2), some (.inl v3), some (.inl (g 95 (wr ((wr (60 * c1)) + v2)).toNat))], [.inl (Md_from (g 95 (wr ((wr (60 * c1)) + v2)).toNat))], g) (109, [some (.inr (.inr 92)), some (.inl c1), some (.inl v2), some (.inl v3), some (.inl (g 95 (wr ((wr (60 * c1)) + v2)).toNat))], [.inl (g 95 (wr ((wr (60 * c1)) + v2)).toNat), .inl (Md_from (g 95 (wr ((wr (60 * c1)) + v2)).toNat))], g) rfl ?_
                    refine ec 100 112 [.inl (g 95 (wr ((wr (60 * c1)) + v2)).toNat)] [.inl (Md_from (g 95 (wr ((wr (60 * c1)) + v2)).toNat))] rfl (ev_Md_to (g 95 (wr ((wr (60 * c1)) + v2)).toNat) g _ rfl) ?_
                    show Ev 210 112 [some (.inr (.inr 92)), some (.inl c1), some (.inl v2), some (.inl v3), some (.inl (g 95 (wr ((wr (60 * c1)) + v2)).toNat))] [.inl (Md_to (g 95 (wr ((wr (60 * c1)) + v2)).toNat)), .inl (Md_from (g 95 (wr ((wr (60 * c1)) + v2)).toNat))] g _ _
                    by_cases hc : (Md_from (g 95 (wr ((wr (60 * c1)) + v2)).toNat)) = (Md_to (g 95 (wr ((wr (60 * c1)) + v2)).toNat))
                    · rw [if_pos hc] at hy1
                      refine es (129, [some (.inr (.inr 92)), some (.inl c1), some (.inl v2), some (.inl v3), some (.inl (g 95 (wr ((wr (60 * c1)) + v2)).toNat))], [], g) (congrArg some (if_pos hc)) ?_
                      refine ev_runs 1 (129, [some (.inr (.inr 92)), some (.inl c1), some (.inl v2), some (.inl v3), some (.inl (g 95 (wr ((wr (60 * c1)) + v2)).toNat))], [], g) (130, [some (.inr (.inr 92)), some (.inl c1), some (.inl v2), some (.inl v3), some (.inl (g 95 (wr ((wr (60 * c1)) + v2)).toNat))], [.inl 0], g) rfl ?_
                      rw [hy1] at hjy1
                      exact ev_le (L := [some (.inr (.inr 92)), some (.inl c1), some (.inl v2), none, some (.inl (g 95 (wr ((wr (60 * c1)) + v2)).toNat))]) (by simp [Lle]) hjy1
                    · rw [if_neg hc] at hy1
                      refine es (115, [some (.inr (.inr 92)), some (.inl c1), some (.inl v2), some (.inl v3), some (.inl (g 95 (wr ((wr (60 * c1)) + v2)).toNat))], [], g) (congrArg some (if_neg hc)) ?_
                      refine ev_runs 4 (115, [some (.inr (.inr 92)), some (.inl c1), some (.inl v2), some (.inl v3), some (.inl (g 95 (wr ((wr (60 * c1)) + v2)).toNat))], [], g) (122, [some (.inr (.inr 92)), some (.inl c1), some (.inl v2), some (.inl v3), some (.inl (g 95 (wr ((wr (60 * c1)) + v2)).toNat))], [.inl 30, .inl (jrem (g 95 (wr ((wr (60 * c1)) + v2)).toNat) 100)], g) rfl ?_
                      by_cases hc : 30 ≤ (jrem (g 95 (wr ((wr (60 * c1)) + v2)).toNat) 100)
                      · rw [if_pos hc] at hy1
                        refine es (129, [some (.inr (.inr 92)), some (.inl c1), some (.inl v2), some (.inl v3), some (.inl (g 95 (wr ((wr (60 * c1)) + v2)).toNat))], [], g) (congrArg some (if_pos hc)) ?_
                        refine ev_runs 1 (129, [some (.inr (.inr 92)), some (.inl c1), some (.inl v2), some (.inl v3), some (.inl (g 95 (wr ((wr (60 * c1)) + v2)).toNat))], [], g) (130, [some (.inr (.inr 92)), some (.inl c1), some (.inl v2), some (.inl v3), some (.inl (g 95 (wr ((wr (60 * c1)) + v2)).toNat))], [.inl 0], g) rfl ?_
                        rw [hy1] at hjy1
                        exact ev_le (L := [some (.inr (.inr 92)), some (.inl c1), some (.inl v2), none, some (.inl (g 95 (wr ((wr (60 * c1)) + v2)).toNat))]) (by simp [Lle]) hjy1
                      · rw [if_neg hc] at hy1
                        refine es (125, [some (.inr (.inr 92)), some (.inl c1), some (.inl v2), some (.inl v3), some (.inl (g 95 (wr ((wr (60 * c1)) + v2)).toNat))], [], g) (congrArg some (if_neg hc)) ?_
                        refine ev_runs 2 (125, [some (.inr (.inr 92)), some (.inl c1), some (.inl v2), some (.inl v3), some (.inl (g 95 (wr ((wr (60 * c1)) + v2)).toNat))], [], g) (130, [some (.inr (.inr 92)), some (.inl c1), some (.inl v2), some (.inl v3), some (.inl (g 95 (wr ((wr (60 * c1)) + v2)).toNat))], [.inl 1], g) rfl ?_
                        rw [hy1] at hjy1
                        exact ev_le (L := [some (.inr (.inr 92)), some (.inl c1), some (.inl v2), none, some (.inl (g 95 (wr ((wr (60 * c1)) + v2)).toNat))]) (by simp [Lle]) hjy1
            · rw [if_neg hc] at h; cases h
      · rw [if_neg hc] at h; cases h
set_option maxRecDepth 100000 in
set_option maxHeartbeats 4000000 in
theorem ev_Md_log (a1 : Int) (g : Gx) (r : Int) (g' : Gx) (h : Md_log a1 g = some (r, g')) : Ev 210 0 [some (.inr (.inr 92)), some (.inl a1), none, none, none] [] g (some (.inl r)) g' := by
  rw [Md_log] at h
  refine ev_runs 1 (0, [some (.inr (.inr 92)), some (.inl a1), none, none, none], [], g) (1, [some (.inr (.inr 92)), some (.inl a1), none, none, none], [.inl a1], g) rfl ?_
  refine ec 208 4 [.inl a1] [] rfl (ev_Md_isSheet a1 g _ rfl) ?_
  show Ev 210 4 [some (.inr (.inr 92)), some (.inl a1), none, none, none] [.inl (Md_isSheet a1)] g _ _
  by_cases hc : ¬ (Md_isSheet a1) = 0
  · rw [if_pos hc] at h
    refine es (10, [some (.inr (.inr 92)), some (.inl a1), none, none, none], [], g) (congrArg some (if_pos hc)) ?_
    refine ev_runs 3 (10, [some (.inr (.inr 92)), some (.inl a1), none, none, none], [], g) (15, [some (.inr (.inr 92)), some (.inl a1), none, none, none], [.inl a1, .inr (.inr 93)], g) rfl ?_
    by_cases hc : 0 ≤ a1 ∧ a1 < 4
    · rw [if_pos hc] at h
      refine es (16, [some (.inr (.inr 92)), some (.inl a1), none, none, none], [.inl (g 93 a1.toNat)], g) (if_pos hc) ?_
      by_cases hc : 0 ≤ (g 93 a1.toNat)
      · rw [if_pos hc] at h
        refine es (25, [some (.inr (.inr 92)), some (.inl a1), none, none, none], [], g) (congrArg some (if_pos hc)) ?_
        refine ev_runs 4 (25, [some (.inr (.inr 92)), some (.inl a1), none, none, none], [], g) (29, [some (.inr (.inr 92)), some (.inl a1), some (.inl 0), some (.inl 1), none], [], g) rfl ?_
        refine ev_le (L := [some (.inr (.inr 92)), some (.inl a1), some (.inl 0), some (.inl 1), none]) (by simp [Lle]) ?_
        refine ev_Md_log_l29 a1 _ ?_ fu 0 1 g r g' h
        · intro x2 g3 r g' h
          refine ev_runs 1 (162, [none, none, some (.inl x2), none, none], [], g3) (163, [none, none, some (.inl x2), none, none], [.inl x2], g3) rfl ?_
          cases h
          exact er rfl
      · rw [if_neg hc] at h
        refine es (19, [some (.inr (.inr 92)), some (.inl a1), none, none, none], [], g) (congrArg some (if_neg hc)) ?_
        refine ev_runs 2 (19, [some (.inr (.inr 92)), some (.inl a1), none, none, none], [], g) (21, [some (.inr (.inr 92)), some (.inl a1), none, none, none], [.inl 1, .inr (.inr 92)], g) rfl ?_
        obtain ⟨q4, hq, h⟩ := lett_inv h
        refine ec 209 24 [.inr (.inr 92), .inl 1] [] rfl (ev_Md_met 1 g q4.1 q4.2 hq.symm) ?_
        show Ev 210 24 [some (.inr (.inr 92)), some (.inl a1), none, none, none] [.inl q4.1] q4.2 _ _
        cases h
        exact er rfl
    · rw [if_neg hc] at h; cases h
  · rw [if_neg hc] at h
    refine es (7, [some (.inr (.inr 92)), some (.inl a1), none, none, none], [], g) (congrArg some (if_neg hc)) ?_
    refine ev_runs 1 (7, [some (.inr (.inr 92)), some (.inl a1), none, none, none], [], g) (9, [some (.inr (.inr 92)), some (.inl a1), none, none, none], [.inl (-2)], g) rfl ?_
    cases h
    exact er rfl
set_option maxRecDepth 100000 in
set_option maxHeartbeats 4000000 in
theorem ev_Bd_empty (g : Gx) (r : Int) (g' : Gx) (h : Bd_empty g = (r, g')) : Ev 211 0 [some (.inr (.inr 78)), none] [] g (some (.inl r)) g' := by
  rw [Bd_empty] at h
  refine ev_runs 7 (0, [some (.inr (.inr 78)), none], [], g) (11, [some (.inr (.inr 78)), some (.inl (g 78 4))], [.inl (g 78 4)], (gset g 78 4 0)) rfl ?_
  cases h
  exact er rfl
set_option maxRecDepth 100000 in
set_option maxHeartbeats 4000000 in
theorem ev_Op_clear (g : Gx) (r : Int) (g' : Gx) (h : Op_clear g = (r, g')) : Ev 212 0 [some (.inr (.inr 0))] [] g (some (.inl r)) g' := by
  rw [Op_clear] at h
  refine ev_runs 2 (0, [some (.inr (.inr 0))], [], g) (4, [some (.inr (.inr 0))], [.inr (.inr 78)], g) rfl ?_
  obtain ⟨q1, hq, h⟩ := lett_inv h
  refine ec 211 7 [.inr (.inr 78)] [] rfl (ev_Bd_empty g q1.1 q1.2 hq.symm) ?_
  show Ev 212 7 [some (.inr (.inr 0))] [.inl q1.1] q1.2 _ _
  cases h
  exact er rfl
set_option maxRecDepth 100000 in
set_option maxHeartbeats 4000000 in
theorem ev_Md_clear (g : Gx) (r : Int) (g' : Gx) (h : Md_clear g = (r, g')) : Ev 213 0 [some (.inr (.inr 92)), none] [] g (some (.inl r)) g' := by
  rw [Md_clear] at h
  refine ev_runs 7 (0, [some (.inr (.inr 92)), none], [], g) (11, [some (.inr (.inr 92)), some (.inl (g 92 48))], [.inl (g 92 48)], (gset g 92 48 0)) rfl ?_
  cases h
  exact er rfl
set_option maxRecDepth 100000 in
set_option maxHeartbeats 4000000 in
theorem ev_Bd_size (g : Gx) (r : Int) (h : Bd_size g = r) : Ev 214 0 [some (.inr (.inr 78))] [] g (some (.inl r)) g := by
  rw [Bd_size] at h
  refine ev_runs 2 (0, [some (.inr (.inr 78))], [], g) (4, [some (.inr (.inr 78))], [.inl (g 78 4)], g) rfl ?_
  subst h
  exact er rfl
set_option maxRecDepth 100000 in
set_option maxHeartbeats 4000000 in
theorem ev_Bd_bears_l15 (c1 : Int) (c2 : Int) (c3 : Int) (K15_79 : Gx → Option (Int × Gx)) (hK15_79 : ∀ (g : Gx) (r : Int) (g' : Gx), K15_79 g = some (r, g') → Ev 215 79 [none, none, none, none, none, none] [] g (some (.inl r)) g') : ∀ (n15 : Nat) (v4 : Int) (g : Gx) (r : Int) (g' : Gx), Bd_bears_l15 c1 c2 c3 K15_79 n15 v4 g = some (r, g') → Ev 215 15 [some (.inr (.inr 78)), some (.inl c1), some (.inl c2), some (.inl c3), some (.inl v4), none] [] g (some (.inl r)) g' := by
  intro n15
  induction n15 with
  | zero => intro v4 g r g' h; cases h
  | succ n15 ih15 =>
    intro v4 g r g' h
    rw [Bd_bears_l15] at h
    refine ev_runs 4 (15, [some (.inr (.inr 78)), some (.inl c1), some (.inl c2), some (.inl c3), some (.inl v4), none], [], g) (22, [some (.inr (.inr 78)), some (.inl c1), some (.inl c2), some (.inl c3), some (.inl v4), none], [.inl c1, .inr (.inr 33), .inl v4], g) rfl ?_
    refine ec 84 25 [.inr (.inr 33), .inl c1] [.inl v4] rfl (ev_Hi_length c1 g _ rfl) ?_
    show Ev 215 25 [some (.inr (.inr 78)), some (.inl c1), some (.inl c2), some (.inl c3), some (.inl v4), none] [.inl (Hi_length c1 g), .inl v4] g _ _
    by_cases hc : (Hi_length c1 g) ≤ v4
    · rw [if_pos hc] at h
      refine es (79, [some (.inr (.inr 78)), some (.inl c1), some (.inl c2), some (.inl c3), some (.inl v4), none], [], g) (congrArg some (if_pos hc)) ?_
      exact ev_le (L := [none, none, none, none, none, none]) (by simp [Lle]) (hK15_79 g r g' h)
    · rw [if_neg hc] at h
      refine es (28, [some (.inr (.inr 78)), some (.inl c1), some (.inl c2), some (.inl c3), some (.inl v4), none], [], g) (congrArg some (if_neg hc)) ?_
      refine ev_runs 4 (28, [some (.inr (.inr 78)), some (.inl c1), some (.inl c2), some (.inl c3), some (.inl v4), none], [], g) (35, [some (.inr (.inr 78)), some (.inl c1), some (.inl c2), some (.inl c3), some (.inl v4), none], [.inl v4, .inl c1, .inr (.inr 33)], g) rfl ?_
      refine ec 85 38 [.inr (.inr 33), .inl c1, .inl v4] [] rfl (ev_Hi_word c1 v4 g _ rfl) ?_
      show Ev 215 38 [some (.inr (.inr 78)), some (.inl c1), some (.inl c2), some (.inl c3), some (.inl v4), none] [.inl (Hi_word c1 v4 g)] g _ _
      refine ev_runs 5 (38, [some (.inr (.inr 78)), some (.inl c1), some (.inl c2), some (.inl c3), some (.inl v4), none], [.inl (Hi_word c1 v4 g)], g) (46, [some (.inr (.inr 78)), some (.inl c1), some (.inl c2), some (.inl c3), some (.inl v4), some (.inl (Hi_word c1 v4 g))], [.inl c3, .inl (jdiv (Hi_word c1 v4 g) 100)], g) rfl ?_
      by_cases hc : ¬ (jdiv (Hi_word c1 v4 g) 100) = c3
      · rw [if_pos hc] at h
        refine es (73, [some (.inr (.inr 78)), some (.inl c1), some (.inl c2), some (.inl c3), some (.inl v4), some (.inl (Hi_word c1 v4 g))], [], g) (congrArg some (if_pos hc)) ?_
        refine ev_runs 2 (73, [some (.inr (.inr 78)), some (.inl c1), some (.inl c2), some (.inl c3), some (.inl v4), some (.inl (Hi_word c1 v4 g))], [], g) (15, [some (.inr (.inr 78)), some (.inl c1), some (.inl c2), some (.inl c3), some (.inl (wr (v4 + 1))), some (.inl (Hi_word c1 v4 g))], [], g) rfl ?_
        exact ev_le (L := [some (.inr (.inr 78)), some (.inl c1), some (.inl c2), some (.inl c3), some (.inl (wr (v4 + 1))), none]) (by simp [Lle]) (ih15 (wr (v4 + 1)) g r g' h)
      · rw [if_neg hc] at h
        refine es (49, [some (.inr (.inr 78)), some (.inl c1), some (.inl c2), some (.inl c3), some (.inl v4), some (.inl (Hi_word c1 v4 g))], [], g) (congrArg some (if_neg hc)) ?_
        refine ev_runs 6 (49, [some (.inr (.inr 78)), some (.inl c1), some (.inl c2), some (.inl c3), some (.inl v4), some (.inl (Hi_word c1 v4 g))], [], g) (58, [some (.inr (.inr 78)), some (.inl c1), some (.inl c2), some (.inl c3), some (.inl v4), some (.inl (Hi_word c1 v4 g))], [.inl (wr (v4 + 1)), .inl c3, .inr (.inr 83)], g) rfl ?_
        refine ec 0 61 [.inr (.inr 83), .inl c3, .inl (wr (v4 + 1))] [] rfl (ev_Row_set rfl rfl _ _ _) ?_
        show Ev 215 61 [some (.inr (.inr 78)), some (.inl c1), some (.inl c2), some (.inl c3), some (.inl v4), some (.inl (Hi_word c1 v4 g))] [] (rset g 84 60 c3 (wr (v4 + 1))) _ _
        refine ev_runs 2 (61, [some (.inr (.inr 78)), some (.inl c1), some (.inl c2), some (.inl c3), some (.inl v4), some (.inl (Hi_word c1 v4 g))], [], (rset g 84 60 c3 (wr (v4 + 1)))) (64, [some (.inr (.inr 78)), some (.inl c1), some (.inl c2), some (.inl c3), some (.inl v4), some (.inl (Hi_word c1 v4 g))], [.inl c2, .inl (Hi_word c1 v4 g)], (rset g 84 60 c3 (wr (v4 + 1)))) rfl ?_
        by_cases hc : ¬ (Hi_word c1 v4 g) = c2
        · rw [if_pos hc] at h
          refine es (71, [some (.inr (.inr 78)), some (.inl c1), some (.inl c2), some (.inl c3), some (.inl v4), some (.inl (Hi_word c1 v4 g))], [], (rset g 84 60 c3 (wr (v4 + 1)))) (congrArg some (if_pos hc)) ?_
          refine ev_runs 1 (71, [some (.inr (.inr 78)), some (.inl c1), some (.inl c2), some (.inl c3), some (.inl v4), some (.inl (Hi_word c1 v4 g))], [], (rset g 84 60 c3 (wr (v4 + 1)))) (72, [some (.inr (.inr 78)), some (.inl c1), some (.inl c2), some (.inl c3), some (.inl v4), some (.inl (Hi_word c1 v4 g))], [.inl 0], (rset g 84 60 c3 (wr (v4 + 1)))) rfl ?_
          cases h
          exact er rfl
        · rw [if_neg hc] at h
          refine es (67, [some (.inr (.inr 78)), some (.inl c1), some (.inl c2), some (.inl c3), some (.inl v4), some (.inl (Hi_word c1 v4 g))], [], (rset g 84 60 c3 (wr (v4 + 1)))) (congrArg some (if_neg hc)) ?_
          refine ev_runs 2 (67, [some (.inr (.inr 78)), some (.inl c1), some (.inl c2), some (.inl c3), some (.inl v4), some (.inl (Hi_word c1 v4 g))], [], (rset g 84 60 c3 (wr (v4 + 1)))) (72, [some (.inr (.inr 78)), some (.inl c1), some (.inl c2), some (.inl c3), some (.inl v4), some (.inl (Hi_word c1 v4 g))], [.inl 1], (rset g 84 60 c3 (wr (v4 + 1)))) rfl ?_
          cases h
          exact er rfl
set_option maxRecDepth 100000 in
set_option maxHeartbeats 4000000 in
theorem ev_Bd_bears (a1 a2 : Int) (g : Gx) (r : Int) (g' : Gx) (h : Bd_bears a1 a2 g = some (r, g')) : Ev 215 0 [some (.inr (.inr 78)), some (.inl a1), some (.inl a2), none, none, none] [] g (some (.inl r)) g' := by
  rw [Bd_bears] at h
  refine ev_runs 7 (0, [some (.inr (.inr 78)), some (.inl a1), some (.inl a2), none, none, none], [], g) (10, [some (.inr (.inr 78)), some (.inl a1), some (.inl a2), some (.inl (jdiv a2 100)), none, none], [.inl (jdiv a2 100), .inr (.inr 83)], g) rfl ?_
  refine ec 13 13 [.inr (.inr 83), .inl (jdiv a2 100)] [] rfl (ev_Row_at rfl rfl _ _) ?_
  show Ev 215 13 [some (.inr (.inr 78)), some (.inl a1), some (.inl a2), some (.inl (jdiv a2 100)), none, none] [.inl (rat g 84 60 (jdiv a2 100))] g _ _
  refine ev_runs 1 (13, [some (.inr (.inr 78)), some (.inl a1), some (.inl a2), some (.inl (jdiv a2 100)), none, none], [.inl (rat g 84 60 (jdiv a2 100))], g) (15, [some (.inr (.inr 78)), some (.inl a1), some (.inl a2), some (.inl (jdiv a2 100)), some (.inl (rat g 84 60 (jdiv a2 100))), none], [], g) rfl ?_
  refine ev_le (L := [some (.inr (.inr 78)), some (.inl a1), some (.inl a2), some (.inl (jdiv a2 100)), some (.inl (rat g 84 60 (jdiv a2 100))), none]) (by simp [Lle]) ?_
  refine ev_Bd_bears_l15 a1 a2 (jdiv a2 100) _ ?_ fu (rat g 84 60 (jdiv a2 100)) g r g' h
  · intro g1 r g' h
    refine ev_runs 1 (79, [none, none, none, none, none, none], [], g1) (80, [none, none, none, none, none, none], [.inl 0], g1) rfl ?_
    cases h
    exact er rfl
set_option maxRecDepth 100000 in
set_option maxHeartbeats 4000000 in
theorem ev_Bd_compare_l23 (c1 : Int) (K23_53 : Int → Gx → Option Gx) (hK23_53 : ∀ (x2 : Int) (g : Gx) (g' : Gx), K23_53 x2 g = some g' → Ev 216 53 [some (.inr (.inr 78)), some (.inl c1), some (.inl x2)] [] g none g') : ∀ (n23 : Nat) (v2 : Int) (g : Gx) (g' : Gx), Bd_compare_l23 c1 K23_53 n23 v2 g = some g' → Ev 216 23 [some (.inr (.inr 78)), some (.inl c1), some (.inl v2)] [] g none g' := by
  intro n23
  induction n23 with
  | zero => intro v2 g g' h; cases h
  | succ n23 ih23 =>
    intro v2 g g' h
    rw [Bd_compare_l23] at h
    refine ev_runs 3 (23, [some (.inr (.inr 78)), some (.inl c1), some (.inl v2)], [], g) (28, [some (.inr (.inr 78)), some (.inl c1), some (.inl v2)], [.inl (g 78 4), .inl v2], g) rfl ?_
    by_cases hc : (g 78 4) ≤ v2
    · rw [if_pos hc] at h
      refine es (53, [some (.inr (.inr 78)), some (.inl c1), some (.inl v2)], [], g) (congrArg some (if_pos hc)) ?_
      exact ev_le (L := [some (.inr (.inr 78)), some (.inl c1), some (.inl v2)]) (by simp [Lle]) (hK23_53 v2 g g' h)
    · rw [if_neg hc] at h
      refine es (31, [some (.inr (.inr 78)), some (.inl c1), some (.inl v2)], [], g) (congrArg some (if_neg hc)) ?_
      refine ev_runs 5 (31, [some (.inr (.inr 78)), some (.inl c1), some (.inl v2)], [], g) (38, [some (.inr (.inr 78)), some (.inl c1), some (.inl v2)], [.inl v2, .inr (.inr 79), .inl c1, .inr (.inr 78)], g) rfl ?_
      refine ec 13 41 [.inr (.inr 79), .inl v2] [.inl c1, .inr (.inr 78)] rfl (ev_Row_at rfl rfl _ _) ?_
      show Ev 216 41 [some (.inr (.inr 78)), some (.inl c1), some (.inl v2)] [.inl (rat g 80 40 v2), .inl c1, .inr (.inr 78)] g _ _
      obtain ⟨q1, hq, h⟩ := Option.bind_eq_some_iff.mp h
      refine ec 215 44 [.inr (.inr 78), .inl c1, .inl (rat g 80 40 v2)] [] rfl (ev_Bd_bears c1 (rat g 80 40 v2) g q1.1 q1.2 hq) ?_
      show Ev 216 44 [some (.inr (.inr 78)), some (.inl c1), some (.inl v2)] [.inl q1.1] q1.2 _ _
      by_cases hc : q1.1 = 0
      · rw [if_pos hc] at h
        refine es (53, [some (.inr (.inr 78)), some (.inl c1), some (.inl v2)], [], q1.2) (congrArg some (if_pos hc)) ?_
        exact ev_le (L := [some (.inr (.inr 78)), some (.inl c1), some (.inl v2)]) (by simp [Lle]) (hK23_53 v2 q1.2 g' h)
      · rw [if_neg hc] at h
        refine es (47, [some (.inr (.inr 78)), some (.inl c1), some (.inl v2)], [], q1.2) (congrArg some (if_neg hc)) ?_
        refine ev_runs 2 (47, [some (.inr (.inr 78)), some (.inl c1), some (.inl v2)], [], q1.2) (23, [some (.inr (.inr 78)), some (.inl c1), some (.inl (wr (v2 + 1)))], [], q1.2) rfl ?_
        exact ev_le (L := [some (.inr (.inr 78)), some (.inl c1), some (.inl (wr (v2 + 1)))]) (by simp [Lle]) (ih23 (wr (v2 + 1)) q1.2 g' h)
set_option maxRecDepth 100000 in
set_option maxHeartbeats 4000000 in
theorem ev_Bd_compare_l2 (K2_68 : Gx → Option Gx) (hK2_68 : ∀ (g : Gx) (g' : Gx), K2_68 g = some g' → Ev 216 68 [none, none, none] [] g none g') : ∀ (n2 : Nat) (v1 : Int) (g : Gx) (g' : Gx), Bd_compare_l2 K2_68 n2 v1 g = some g' → Ev 216 2 [some (.inr (.inr 78)), some (.inl v1), none] [] g none g' := by
  intro n2
  induction n2 with
  | zero => intro v1 g g' h; cases h
  | succ n2 ih2 =>
    intro v1 g g' h
    rw [Bd_compare_l2] at h
    refine ev_runs 3 (2, [some (.inr (.inr 78)), some (.inl v1), none], [], g) (7, [some (.inr (.inr 78)), some (.inl v1), none], [.inr (.inr 33), .inl v1], g) rfl ?_
    refine ec 74 10 [.inr (.inr 33)] [.inl v1] rfl (ev_Hi_size g _ rfl) ?_
    show Ev 216 10 [some (.inr (.inr 78)), some (.inl v1), none] [.inl (Hi_size g), .inl v1] g _ _
    by_cases hc : (Hi_size g) ≤ v1
    · rw [if_pos hc] at h
      refine es (68, [some (.inr (.inr 78)), some (.inl v1), none], [], g) (congrArg some (if_pos hc)) ?_
      exact ev_le (L := [none, none, none]) (by simp [Lle]) (hK2_68 g g' h)
    · rw [if_neg hc] at h
      refine es (13, [some (.inr (.inr 78)), some (.inl v1), none], [], g) (congrArg some (if_neg hc)) ?_
      refine ev_runs 3 (13, [some (.inr (.inr 78)), some (.inl v1), none], [], g) (18, [some (.inr (.inr 78)), some (.inl v1), none], [.inl 0, .inr (.inr 83)], g) rfl ?_
      refine ec 119 21 [.inr (.inr 83), .inl 0] [] rfl (ev_Row_fill rfl rfl (by decide) _ _) ?_
      show Ev 216 21 [some (.inr (.inr 78)), some (.inl v1), none] [] (rfill g 84 60 0) _ _
      refine ev_runs 2 (21, [some (.inr (.inr 78)), some (.inl v1), none], [], (rfill g 84 60 0)) (23, [some (.inr (.inr 78)), some (.inl v1), some (.inl 0)], [], (rfill g 84 60 0)) rfl ?_
      refine ev_le (L := [some (.inr (.inr 78)), some (.inl v1), some (.inl 0)]) (by simp [Lle]) ?_
      refine ev_Bd_compare_l23 v1 _ ?_ fu 0 (rfill g 84 60 0) g' h
      · intro x2 g3 g' h
        refine ev_runs 4 (53, [some (.inr (.inr 78)), some (.inl v1), some (.inl x2)], [], g3) (59, [some (.inr (.inr 78)), some (.inl v1), some (.inl x2)], [.inl x2, .inl v1, .inr (.inr 81)], g3) rfl ?_
        refine ec 0 62 [.inr (.inr 81), .inl v1, .inl x2] [] rfl (ev_Row_set rfl rfl _ _ _) ?_
        show Ev 216 62 [some (.inr (.inr 78)), some (.inl v1), some (.inl x2)] [] (rset g3 82 30 v1 x2) _ _
        refine ev_runs 2 (62, [some (.inr (.inr 78)), some (.inl v1), some (.inl x2)], [], (rset g3 82 30 v1 x2)) (2, [some (.inr (.inr 78)), some (.inl (wr (v1 + 1))), some (.inl x2)], [], (rset g3 82 30 v1 x2)) rfl ?_
        exact ev_le (L := [some (.inr (.inr 78)), some (.inl (wr (v1 + 1))), none]) (by simp [Lle]) (ih2 (wr (v1 + 1)) (rset g3 82 30 v1 x2) g' h)
set_option maxRecDepth 100000 in
set_option maxHeartbeats 4000000 in
theorem ev_Bd_compare (g : Gx) (g' : Gx) (h : Bd_compare g = some g') : Ev 216 0 [some (.inr (.inr 78)), none, none] [] g none g' := by
  rw [Bd_compare] at h
  refine ev_runs 2 (0, [some (.inr (.inr 78)), none, none], [], g) (2, [some (.inr (.inr 78)), some (.inl 0), none], [], g) rfl ?_
  refine ev_le (L := [some (.inr (.inr 78)), some (.inl 0), none]) (by simp [Lle]) ?_
  refine ev_Bd_compare_l2 _ ?_ fu 0 g g' h
  · intro g4 g' h
    cases h
    exact er rfl
set_option maxRecDepth 100000 in
set_option maxHeartbeats 4000000 in
theorem ev_Bd_leftBy_l4 (c1 : Int) (K4_43 : Int → Gx → Option (Int × Gx)) (hK4_43 : ∀ (x2 : Int) (g : Gx) (r : Int) (g' : Gx), K4_43 x2 g = some (r, g') → Ev 217 43 [none, none, some (.inl x2), none] [] g (some (.inl r)) g') : ∀ (n4 : Nat) (v2 v3 : Int) (g : Gx) (r : Int) (g' : Gx), Bd_leftBy_l4 c1 K4_43 n4 v2 v3 g = some (r, g') → Ev 217 4 [some (.inr (.inr 78)), some (.inl c1), some (.inl v2), some (.inl v3)] [] g (some (.inl r)) g' := by
  intro n4
  induction n4 with
  | zero => intro v2 v3 g r g' h; cases h
  | succ n4 ih4 =>
    intro v2 v3 g r g' h
    rw [Bd_leftBy_l4] at h
    refine ev_runs 3 (4, [some (.inr (.inr 78)), some (.inl c1), some (.inl v2), some (.inl v3)], [], g) (9, [some (.inr (.inr 78)), some (.inl c1), some (.inl v2), some (.inl v3)], [.inr (.inr 33), .inl v3], g) rfl ?_
    refine ec 74 12 [.inr (.inr 33)] [.inl v3] rfl (ev_Hi_size g _ rfl) ?_
    show Ev 217 12 [some (.inr (.inr 78)), some (.inl c1), some (.inl v2), some (.inl v3)] [.inl (Hi_size g), .inl v3] g _ _
    by_cases hc : (Hi_size g) ≤ v3
    · rw [if_pos hc] at h
      refine es (43, [some (.inr (.inr 78)), some (.inl c1), some (.inl v2), some (.inl v3)], [], g) (congrArg some (if_pos hc)) ?_
      exact ev_le (L := [none, none, some (.inl v2), none]) (by simp [Lle]) (hK4_43 v2 g r g' h)
    · rw [if_neg hc] at h
      refine es (15, [some (.inr (.inr 78)), some (.inl c1), some (.inl v2), some (.inl v3)], [], g) (congrArg some (if_neg hc)) ?_
      refine ev_runs 4 (15, [some (.inr (.inr 78)), some (.inl c1), some (.inl v2), some (.inl v3)], [], g) (21, [some (.inr (.inr 78)), some (.inl c1), some (.inl v2), some (.inl v3)], [.inl v3, .inr (.inr 81), .inl v2], g) rfl ?_
      refine ec 13 24 [.inr (.inr 81), .inl v3] [.inl v2] rfl (ev_Row_at rfl rfl _ _) ?_
      show Ev 217 24 [some (.inr (.inr 78)), some (.inl c1), some (.inl v2), some (.inl v3)] [.inl (rat g 82 30 v3), .inl v2] g _ _
      refine ev_runs 1 (24, [some (.inr (.inr 78)), some (.inl c1), some (.inl v2), some (.inl v3)], [.inl (rat g 82 30 v3), .inl v2], g) (25, [some (.inr (.inr 78)), some (.inl c1), some (.inl v2), some (.inl v3)], [.inl c1, .inl (rat g 82 30 v3), .inl v2], g) rfl ?_
      by_cases hc : (rat g 82 30 v3) < c1
      · rw [if_pos hc] at h
        refine es (34, [some (.inr (.inr 78)), some (.inl c1), some (.inl v2), some (.inl v3)], [.inl v2], g) (congrArg some (if_pos hc)) ?_
        refine ev_runs 5 (34, [some (.inr (.inr 78)), some (.inl c1), some (.inl v2), some (.inl v3)], [.inl v2], g) (4, [some (.inr (.inr 78)), some (.inl c1), some (.inl (jor v2 0)), some (.inl (wr (v3 + 1)))], [], g) rfl ?_
        exact ev_le (L := [some (.inr (.inr 78)), some (.inl c1), some (.inl (jor v2 0)), some (.inl (wr (v3 + 1)))]) (by simp [Lle]) (ih4 (jor v2 0) (wr (v3 + 1)) g r g' h)
      · rw [if_neg hc] at h
        refine es (28, [some (.inr (.inr 78)), some (.inl c1), some (.inl v2), some (.inl v3)], [.inl v2], g) (congrArg some (if_neg hc)) ?_
        refine ev_runs 8 (28, [some (.inr (.inr 78)), some (.inl c1), some (.inl v2), some (.inl v3)], [.inl v2], g) (4, [some (.inr (.inr 78)), some (.inl c1), some (.inl (jor v2 (jshl 1 v3))), some (.inl (wr (v3 + 1)))], [], g) rfl ?_
        exact ev_le (L := [some (.inr (.inr 78)), some (.inl c1), some (.inl (jor v2 (jshl 1 v3))), some (.inl (wr (v3 + 1)))]) (by simp [Lle]) (ih4 (jor v2 (jshl 1 v3)) (wr (v3 + 1)) g r g' h)
set_option maxRecDepth 100000 in
set_option maxHeartbeats 4000000 in
theorem ev_Bd_leftBy (a1 : Int) (g : Gx) (r : Int) (g' : Gx) (h : Bd_leftBy a1 g = some (r, g')) : Ev 217 0 [some (.inr (.inr 78)), some (.inl a1), none, none] [] g (some (.inl r)) g' := by
  rw [Bd_leftBy] at h
  refine ev_runs 4 (0, [some (.inr (.inr 78)), some (.inl a1), none, none], [], g) (4, [some (.inr (.inr 78)), some (.inl a1), some (.inl 0), some (.inl 0)], [], g) rfl ?_
  refine ev_le (L := [some (.inr (.inr 78)), some (.inl a1), some (.inl 0), some (.inl 0)]) (by simp [Lle]) ?_
  refine ev_Bd_leftBy_l4 a1 _ ?_ fu 0 0 g r g' h
  · intro x1 g2 r g' h
    refine ev_runs 1 (43, [none, none, some (.inl x1), none], [], g2) (44, [none, none, some (.inl x1), none], [.inl x1], g2) rfl ?_
    cases h
    exact er rfl
set_option maxRecDepth 100000 in
set_option maxHeartbeats 4000000 in
theorem ev_Op_left (a1 : Int) (g : Gx) (r : Int) (g' : Gx) (h : Op_left a1 g = some (r, g')) : Ev 218 0 [some (.inr (.inr 0)), some (.inl a1), none] [] g (some (.inl r)) g' := by
  rw [Op_left] at h
  refine ev_runs 1 (0, [some (.inr (.inr 0)), some (.inl a1), none], [], g) (1, [some (.inr (.inr 0)), some (.inl a1), none], [.inl a1], g) rfl ?_
  by_cases hc : a1 < 0
  · rw [if_pos hc] at h
    refine es (15, [some (.inr (.inr 0)), some (.inl a1), none], [], g) (congrArg some (if_pos hc)) ?_
    refine ev_runs 1 (15, [some (.inr (.inr 0)), some (.inl a1), none], [], g) (17, [some (.inr (.inr 0)), some (.inl a1), none], [.inl (-2)], g) rfl ?_
    cases h
    exact er rfl
  · rw [if_neg hc] at h
    refine es (4, [some (.inr (.inr 0)), some (.inl a1), none], [], g) (congrArg some (if_neg hc)) ?_
    refine ev_runs 3 (4, [some (.inr (.inr 0)), some (.inl a1), none], [], g) (9, [some (.inr (.inr 0)), some (.inl a1), none], [.inr (.inr 78), .inl a1], g) rfl ?_
    refine ec 214 12 [.inr (.inr 78)] [.inl a1] rfl (ev_Bd_size g _ rfl) ?_
    show Ev 218 12 [some (.inr (.inr 0)), some (.inl a1), none] [.inl (Bd_size g), .inl a1] g _ _
    by_cases hc : a1 ≤ (Bd_size g)
    · rw [if_pos hc] at h
      refine es (18, [some (.inr (.inr 0)), some (.inl a1), none], [], g) (congrArg some (if_pos hc)) ?_
      refine ev_runs 2 (18, [some (.inr (.inr 0)), some (.inl a1), none], [], g) (20, [some (.inr (.inr 0)), some (.inl a1), none], [.inl 0, .inr (.inr 0)], g) rfl ?_
      obtain ⟨q1, hq, h⟩ := Option.bind_eq_some_iff.mp h
      refine ec 75 23 [.inr (.inr 0), .inl 0] [] rfl (ev_Op_hindrance 0 g q1.1 q1.2 hq) ?_
      show Ev 218 23 [some (.inr (.inr 0)), some (.inl a1), none] [.inl q1.1] q1.2 _ _
      refine ev_runs 2 (23, [some (.inr (.inr 0)), some (.inl a1), none], [.inl q1.1], q1.2) (25, [some (.inr (.inr 0)), some (.inl a1), some (.inl q1.1)], [.inl q1.1], q1.2) rfl ?_
      by_cases hc : q1.1 = 0
      · rw [if_pos hc] at h
        refine es (30, [some (.inr (.inr 0)), some (.inl a1), some (.inl q1.1)], [], q1.2) (congrArg some (if_pos hc)) ?_
        refine ev_runs 2 (30, [some (.inr (.inr 0)), some (.inl a1), some (.inl q1.1)], [], q1.2) (34, [some (.inr (.inr 0)), some (.inl a1), some (.inl q1.1)], [.inr (.inr 78)], q1.2) rfl ?_
        obtain ⟨g2, hq, h⟩ := Option.bind_eq_some_iff.mp h
        refine ec 216 37 [.inr (.inr 78)] [] rfl (ev_Bd_compare q1.2 g2 hq) ?_
        show Ev 218 37 [some (.inr (.inr 0)), some (.inl a1), some (.inl q1.1)] [] g2 _ _
        refine ev_runs 3 (37, [some (.inr (.inr 0)), some (.inl a1), some (.inl q1.1)], [], g2) (42, [some (.inr (.inr 0)), some (.inl a1), some (.inl q1.1)], [.inl a1, .inr (.inr 78)], g2) rfl ?_
        obtain ⟨q3, hq, h⟩ := Option.bind_eq_some_iff.mp h
        refine ec 217 45 [.inr (.inr 78), .inl a1] [] rfl (ev_Bd_leftBy a1 g2 q3.1 q3.2 hq) ?_
        show Ev 218 45 [some (.inr (.inr 0)), some (.inl a1), some (.inl q1.1)] [.inl q3.1] q3.2 _ _
        cases h
        exact er rfl
      · rw [if_neg hc] at h
        refine es (28, [some (.inr (.inr 0)), some (.inl a1), some (.inl q1.1)], [], q1.2) (congrArg some (if_neg hc)) ?_
        refine ev_runs 1 (28, [some (.inr (.inr 0)), some (.inl a1), some (.inl q1.1)], [], q1.2) (29, [some (.inr (.inr 0)), some (.inl a1), some (.inl q1.1)], [.inl q1.1], q1.2) rfl ?_
        cases h
        exact er rfl
    · rw [if_neg hc] at h
      refine es (15, [some (.inr (.inr 0)), some (.inl a1), none], [], g) (congrArg some (if_neg hc)) ?_
      refine ev_runs 1 (15, [some (.inr (.inr 0)), some (.inl a1), none], [], g) (17, [some (.inr (.inr 0)), some (.inl a1), none], [.inl (-2)], g) rfl ?_
      cases h
      exact er rfl
set_option maxRecDepth 100000 in
set_option maxHeartbeats 4000000 in
theorem ev_Md_isLeft_l5 (c1 : Int) (c2 : Int) (c3 : Int) (K5_26 : Gx → Option (Int × Gx)) (hK5_26 : ∀ (g : Gx) (r : Int) (g' : Gx), K5_26 g = some (r, g') → Ev 219 26 [some (.inr (.inr 92)), some (.inl c1), some (.inl c2), some (.inl c3), none, none, none, none] [] g (some (.inl r)) g') : ∀ (n5 : Nat) (v4 : Int) (g : Gx) (r : Int) (g' : Gx), Md_isLeft_l5 c1 c2 c3 K5_26 n5 v4 g = some (r, g') → Ev 219 5 [some (.inr (.inr 92)), some (.inl c1), some (.inl c2), some (.inl c3), some (.inl v4), none, none, none] [] g (some (.inl r)) g' := by
  intro n5
  induction n5 with
  | zero => intro v4 g r g' h; cases h
  | succ n5 ih5 =>
    intro v4 g r g' h
    rw [Md_isLeft_l5] at h
    refine ev_runs 2 (5, [some (.inr (.inr 92)), some (.inl c1), some (.inl c2), some (.inl c3), some (.inl v4), none, none, none], [], g) (9, [some (.inr (.inr 92)), some (.inl c1), some (.inl c2), some (.inl c3), some (.inl v4), none, none, none], [.inl 36, .inl v4], g) rfl ?_
    by_cases hc : 36 ≤ v4
    · rw [if_pos hc] at h
      refine es (26, [some (.inr (.inr 92)), some (.inl c1), some (.inl c2), some (.inl c3), some (.inl v4), none, none, none], [], g) (congrArg some (if_pos hc)) ?_
      exact ev_le (L := [some (.inr (.inr 92)), some (.inl c1), some (.inl c2), some (.inl c3), none, none, none, none]) (by simp [Lle]) (hK5_26 g r g' h)
    · rw [if_neg hc] at h
      refine es (12, [some (.inr (.inr 92)), some (.inl c1), some (.inl c2), some (.inl c3), some (.inl v4), none, none, none], [], g) (congrArg some (if_neg hc)) ?_
      refine ev_runs 4 (12, [some (.inr (.inr 92)), some (.inl c1), some (.inl c2), some (.inl c3), some (.inl v4), none, none, none], [], g) (19, [some (.inr (.inr 92)), some (.inl c1), some (.inl c2), some (.inl c3), some (.inl v4), none, none, none], [.inl 0, .inl v4, .inr (.inr 122)], g) rfl ?_
      by_cases hc : 0 ≤ v4 ∧ v4 < 36
      · rw [if_pos hc] at h
        refine es (20, [some (.inr (.inr 92)), some (.inl c1), some (.inl c2), some (.inl c3), some (.inl v4), none, none, none], [], (gset g 122 v4.toNat 0)) (if_pos hc) ?_
        refine ev_runs 2 (20, [some (.inr (.inr 92)), some (.inl c1), some (.inl c2), some (.inl c3), some (.inl v4), none, none, none], [], (gset g 122 v4.toNat 0)) (5, [some (.inr (.inr 92)), some (.inl c1), some (.inl c2), some (.inl c3), some (.inl (wr (v4 + 1))), none, none, none], [], (gset g 122 v4.toNat 0)) rfl ?_
        exact ev_le (L := [some (.inr (.inr 92)), some (.inl c1), some (.inl c2), some (.inl c3), some (.inl (wr (v4 + 1))), none, none, none]) (by simp [Lle]) (ih5 (wr (v4 + 1)) (gset g 122 v4.toNat 0) r g' h)
      · rw [if_neg hc] at h; cases h
set_option maxRecDepth 100000 in
set_option maxHeartbeats 4000000 in
theorem ev_Md_isLeft_l63 (c1 : Int) (c2 : Int) (c4 : Int) (c5 : Int) (K63_125 : Int → Gx → Option (Int × Gx)) (hK63_125 : ∀ (x7 : Int) (g : Gx) (r : Int) (g' : Gx), K63_125 x7 g = some (r, g') → Ev 219 125 [some (.inr (.inr 92)), some (.inl c1), some (.inl c2), none, some (.inl c4), some (.inl c5), none, some (.inl x7)] [] g (some (.inl r)) g') : ∀ (n63 : Nat) (v6 v7 : Int) (g : Gx) (r : Int) (g' : Gx), Md_isLeft_l63 c1 c2 c4 c5 K63_125 n63 v6 v7 g = some (r, g') → Ev 219 63 [some (.inr (.inr 92)), some (.inl c1), some (.inl c2), none, some (.inl c4), some (.inl c5), some (.inl v6), some (.inl v7)] [] g (some (.inl r)) g' := by
  intro n63
  induction n63 with
  | zero => intro v6 v7 g r g' h; cases h
  | succ n63 ih63 =>
    intro v6 v7 g r g' h
    rw [Md_isLeft_l63] at h
    refine ev_runs 4 (63, [some (.inr (.inr 92)), some (.inl c1), some (.inl c2), none, some (.inl c4), some (.inl c5), some (.inl v6), some (.inl v7)], [], g) (70, [some (.inr (.inr 92)), some (.inl c1), some (.inl c2), none, some (.inl c4), some (.inl c5), some (.inl v6), some (.inl v7)], [.inl c1, .inr (.inr 110), .inl v7], g) rfl ?_
    by_cases hc : 0 ≤ c1 ∧ c1 < 30
    · rw [if_pos hc] at h
      refine es (71, [some (.inr (.inr 92)), some (.inl c1), some (.inl c2), none, some (.inl c4), some (.inl c5), some (.inl v6), some (.inl v7)], [.inl (g 110 c1.toNat), .inl v7], g) (if_pos hc) ?_
      by_cases hc : (g 110 c1.toNat) ≤ v7
      · rw [if_pos hc] at h
        refine es (125, [some (.inr (.inr 92)), some (.inl c1), some (.inl c2), none, some (.inl c4), some (.inl c5), some (.inl v6), some (.inl v7)], [], g) (congrArg some (if_pos hc)) ?_
        exact ev_le (L := [some (.inr (.inr 92)), some (.inl c1), some (.inl c2), none, some (.inl c4), some (.inl c5), none, some (.inl v7)]) (by simp [Lle]) (hK63_125 v7 g r g' h)
      · rw [if_neg hc] at h
        refine es (74, [some (.inr (.inr 92)), some (.inl c1), some (.inl c2), none, some (.inl c4), some (.inl c5), some (.inl v6), some (.inl v7)], [], g) (congrArg some (if_neg hc)) ?_
        refine ev_runs 3 (74, [some (.inr (.inr 92)), some (.inl c1), some (.inl c2), none, some (.inl c4), some (.inl c5), some (.inl v6), some (.inl v7)], [], g) (78, [some (.inr (.inr 92)), some (.inl c1), some (.inl c2), none, some (.inl c4), some (.inl c5), some (.inl v6), some (.inl v7)], [.inl v7, .inl c1, .inr (.inr 92)], g) rfl ?_
        obtain ⟨q2, hq, h⟩ := Option.bind_eq_some_iff.mp h
        refine ec 89 81 [.inr (.inr 92), .inl c1, .inl v7] [] rfl (ev_Md_code c1 v7 g q2.1 q2.2 hq) ?_
        show Ev 219 81 [some (.inr (.inr 92)), some (.inl c1), some (.inl c2), none, some (.inl c4), some (.inl c5), some (.inl v6), some (.inl v7)] [.inl q2.1] q2.2 _ _
        refine ec 149 84 [.inl q2.1] [] rfl (ev_Md_queueOf q2.1 q2.2 _ rfl) ?_
        show Ev 219 84 [some (.inr (.inr 92)), some (.inl c1), some (.inl c2), none, some (.inl c4), some (.inl c5), some (.inl v6), some (.inl v7)] [.inl (Md_queueOf q2.1)] q2.2 _ _
        refine ev_runs 1 (84, [some (.inr (.inr 92)), some (.inl c1), some (.inl c2), none, some (.inl c4), some (.inl c5), some (.inl v6), some (.inl v7)], [.inl (Md_queueOf q2.1)], q2.2) (86, [some (.inr (.inr 92)), some (.inl c1), some (.inl c2), none, some (.inl c4), some (.inl c5), some (.inl v6), some (.inl v7)], [.inl c5, .inl (Md_queueOf q2.1)], q2.2) rfl ?_
        by_cases hc : ¬ (Md_queueOf q2.1) = c5
        · rw [if_pos hc] at h
          refine es (94, [some (.inr (.inr 92)), some (.inl c1), some (.inl c2), none, some (.inl c4), some (.inl c5), some (.inl v6), some (.inl v7)], [], q2.2) (congrArg some (if_pos hc)) ?_
          refine ev_runs 4 (94, [some (.inr (.inr 92)), some (.inl c1), some (.inl c2), none, some (.inl c4), some (.inl c5), some (.inl v6), some (.inl v7)], [], q2.2) (100, [some (.inr (.inr 92)), some (.inl c1), some (.inl c2), none, some (.inl c4), some (.inl c5), some (.inl v6), some (.inl v7)], [.inl v7, .inl c1, .inr (.inr 92), .inl v6], q2.2) rfl ?_
          obtain ⟨q3, hq, h⟩ := Option.bind_eq_some_iff.mp h
          refine ec 89 103 [.inr (.inr 92), .inl c1, .inl v7] [.inl v6] rfl (ev_Md_code c1 v7 q2.2 q3.1 q3.2 hq) ?_
          show Ev 219 103 [some (.inr (.inr 92)), some (.inl c1), some (.inl c2), none, some (.inl c4), some (.inl c5), some (.inl v6), some (.inl v7)] [.inl q3.1, .inl v6] q3.2 _ _
          refine ec 149 106 [.inl q3.1] [.inl v6] rfl (ev_Md_queueOf q3.1 q3.2 _ rfl) ?_
          show Ev 219 106 [some (.inr (.inr 92)), some (.inl c1), some (.inl c2), none, some (.inl c4), some (.inl c5), some (.inl v6), some (.inl v7)] [.inl (Md_queueOf q3.1), .inl v6] q3.2 _ _
          refine ev_runs 1 (106, [some (.inr (.inr 92)), some (.inl c1), some (.inl c2), none, some (.inl c4), some (.inl c5), some (.inl v6), some (.inl v7)], [.inl (Md_queueOf q3.1), .inl v6], q3.2) (108, [some (.inr (.inr 92)), some (.inl c1), some (.inl c2), none, some (.inl c4), some (.inl c5), some (.inl v6), some (.inl v7)], [.inl c5, .inl (Md_queueOf q3.1), .inl v6], q3.2) rfl ?_
          by_cases hc : ¬ (Md_queueOf q3.1) = c5
          · rw [if_pos hc] at h
            refine es (115, [some (.inr (.inr 92)), some (.inl c1), some (.inl c2), none, some (.inl c4), some (.inl c5), some (.inl v6), some (.inl v7)], [.inl v6], q3.2) (congrArg some (if_pos hc)) ?_
            refine ev_runs 5 (115, [some (.inr (.inr 92)), some (.inl c1), some (.inl c2), none, some (.inl c4), some (.inl c5), some (.inl v6), some (.inl v7)], [.inl v6], q3.2) (63, [some (.inr (.inr 92)), some (.inl c1), some (.inl c2), none, some (.inl c4), some (.inl c5), some (.inl (wr (v6 - 0))), some (.inl (wr (v7 + 1)))], [], q3.2) rfl ?_
            exact ev_le (L := [some (.inr (.inr 92)), some (.inl c1), some (.inl c2), none, some (.inl c4), some (.inl c5), some (.inl (wr (v6 - 0))), some (.inl (wr (v7 + 1)))]) (by simp [Lle]) (ih63 (wr (v6 - 0)) (wr (v7 + 1)) q3.2 r g' h)
          · rw [if_neg hc] at h
            refine es (111, [some (.inr (.inr 92)), some (.inl c1), some (.inl c2), none, some (.inl c4), some (.inl c5), some (.inl v6), some (.inl v7)], [.inl v6], q3.2) (congrArg some (if_neg hc)) ?_
            refine ev_runs 6 (111, [some (.inr (.inr 92)), some (.inl c1), some (.inl c2), none, some (.inl c4), some (.inl c5), some (.inl v6), some (.inl v7)], [.inl v6], q3.2) (63, [some (.inr (.inr 92)), some (.inl c1), some (.inl c2), none, some (.inl c4), some (.inl c5), some (.inl (wr (v6 - 1))), some (.inl (wr (v7 + 1)))], [], q3.2) rfl ?_
            exact ev_le (L := [some (.inr (.inr 92)), some (.inl c1), some (.inl c2), none, some (.inl c4), some (.inl c5), some (.inl (wr (v6 - 1))), some (.inl (wr (v7 + 1)))]) (by simp [Lle]) (ih63 (wr (v6 - 1)) (wr (v7 + 1)) q3.2 r g' h)
        · rw [if_neg hc] at h
          refine es (89, [some (.inr (.inr 92)), some (.inl c1), some (.inl c2), none, some (.inl c4), some (.inl c5), some (.inl v6), some (.inl v7)], [], q2.2) (congrArg some (if_neg hc)) ?_
          refine ev_runs 1 (89, [some (.inr (.inr 92)), some (.inl c1), some (.inl c2), none, some (.inl c4), some (.inl c5), some (.inl v6), some (.inl v7)], [], q2.2) (91, [some (.inr (.inr 92)), some (.inl c1), some (.inl c2), none, some (.inl c4), some (.inl c5), some (.inl v6), some (.inl v7)], [.inl v6], q2.2) rfl ?_
          by_cases hc : v6 ≤ 0
          · rw [if_pos hc] at h
            refine es (125, [some (.inr (.inr 92)), some (.inl c1), some (.inl c2), none, some (.inl c4), some (.inl c5), some (.inl v6), some (.inl v7)], [], q2.2) (congrArg some (if_pos hc)) ?_
            exact ev_le (L := [some (.inr (.inr 92)), some (.inl c1), some (.inl c2), none, some (.inl c4), some (.inl c5), none, some (.inl v7)]) (by simp [Lle]) (hK63_125 v7 q2.2 r g' h)
          · rw [if_neg hc] at h
            refine es (94, [some (.inr (.inr 92)), some (.inl c1), some (.inl c2), none, some (.inl c4), some (.inl c5), some (.inl v6), some (.inl v7)], [], q2.2) (congrArg some (if_neg hc)) ?_
            refine ev_runs 4 (94, [some (.inr (.inr 92)), some (.inl c1), some (.inl c2), none, some (.inl c4), some (.inl c5), some (.inl v6), some (.inl v7)], [], q2.2) (100, [some (.inr (.inr 92)), some (.inl c1), some (.inl c2), none, some (.inl c4), some (.inl c5), some (.inl v6), some (.inl v7)], [.inl v7, .inl c1, .inr (.inr 92), .inl v6], q2.2) rfl ?_
            obtain ⟨q4, hq, h⟩ := Option.bind_eq_some_iff.mp h
            refine ec 89 103 [.inr (.inr 92), .inl c1, .inl v7] [.inl v6] rfl (ev_Md_code c1 v7 q2.2 q4.1 q4.2 hq) ?_
            show Ev 219 103 [some (.inr (.inr 92)), some (.inl c1), some (.inl c2), none, some (.inl c4), some (.inl c5), some (.inl v6), some (.inl v7)] [.inl q4.1, .inl v6] q4.2 _ _
            refine ec 149 106 [.inl q4.1] [.inl v6] rfl (ev_Md_queueOf q4.1 q4.2 _ rfl) ?_
            show Ev 219 106 [some (.inr (.inr 92)), some (.inl c1), some (.inl c2), none, some (.inl c4), some (.inl c5), some (.inl v6), some (.inl v7)] [.inl (Md_queueOf q4.1), .inl v6] q4.2 _ _
            refine ev_runs 1 (106, [some (.inr (.inr 92)), some (.inl c1), some (.inl c2), none, some (.inl c4), some (.inl c5), some (.inl v6), some (.inl v7)], [.inl (Md_queueOf q4.1), .inl v6], q4.2) (108, [some (.inr (.inr 92)), some (.inl c1), some (.inl c2), none, some (.inl c4), some (.inl c5), some (.inl v6), some (.inl v7)], [.inl c5, .inl (Md_queueOf q4.1), .inl v6], q4.2) rfl ?_
            by_cases hc : ¬ (Md_queueOf q4.1) = c5
            · rw [if_pos hc] at h
              refine es (115, [some (.inr (.inr 92)), some (.inl c1), some (.inl c2), none, some (.inl c4), some (.inl c5), some (.inl v6), some (.inl v7)], [.inl v6], q4.2) (congrArg some (if_pos hc)) ?_
              refine ev_runs 5 (115, [some (.inr (.inr 92)), some (.inl c1), some (.inl c2), none, some (.inl c4), some (.inl c5), some (.inl v6), some (.inl v7)], [.inl v6], q4.2) (63, [some (.inr (.inr 92)), some (.inl c1), some (.inl c2), none, some (.inl c4), some (.inl c5), some (.inl (wr (v6 - 0))), some (.inl (wr (v7 + 1)))], [], q4.2) rfl ?_
              exact ev_le (L := [some (.inr (.inr 92)), some (.inl c1), some (.inl c2), none, some (.inl c4), some (.inl c5), some (.inl (wr (v6 - 0))), some (.inl (wr (v7 + 1)))]) (by simp [Lle]) (ih63 (wr (v6 - 0)) (wr (v7 + 1)) q4.2 r g' h)
            · rw [if_neg hc] at h
              refine es (111, [some (.inr (.inr 92)), some (.inl c1), some (.inl c2), none, some (.inl c4), some (.inl c5), some (.inl v6), some (.inl v7)], [.inl v6], q4.2) (congrArg some (if_neg hc)) ?_
              refine ev_runs 6 (111, [some (.inr (.inr 92)), some (.inl c1), some (.inl c2), none, some (.inl c4), some (.inl c5), some (.inl v6), some (.inl v7)], [.inl v6], q4.2) (63, [some (.inr (.inr 92)), some (.inl c1), some (.inl c2), none, some (.inl c4), some (.inl c5), some (.inl (wr (v6 - 1))), some (.inl (wr (v7 + 1)))], [], q4.2) rfl ?_
              exact ev_le (L := [some (.inr (.inr 92)), some (.inl c1), some (.inl c2), none, some (.inl c4), some (.inl c5), some (.inl (wr (v6 - 1))), some (.inl (wr (v7 + 1)))]) (by simp [Lle]) (ih63 (wr (v6 - 1)) (wr (v7 + 1)) q4.2 r g' h)
    · rw [if_neg hc] at h; cases h
set_option maxRecDepth 100000 in
set_option maxHeartbeats 4000000 in
theorem ev_Md_isLeft_l29 (c1 : Int) (c2 : Int) (K29_176 : Int → Gx → Option (Int × Gx)) (hK29_176 : ∀ (x3 : Int) (g : Gx) (r : Int) (g' : Gx), K29_176 x3 g = some (r, g') → Ev 219 176 [none, none, none, some (.inl x3), none, none, none, none] [] g (some (.inl r)) g') : ∀ (n29 : Nat) (v3 v4 : Int) (g : Gx) (r : Int) (g' : Gx), Md_isLeft_l29 c1 c2 K29_176 n29 v3 v4 g = some (r, g') → Ev 219 29 [some (.inr (.inr 92)), some (.inl c1), some (.inl c2), some (.inl v3), some (.inl v4), none, none, none] [] g (some (.inl r)) g' := by
  intro n29
  induction n29 with
  | zero => intro v3 v4 g r g' h; cases h
  | succ n29 ih29 =>
    intro v3 v4 g r g' h
    rw [Md_isLeft_l29] at h
    refine ev_runs 2 (29, [some (.inr (.inr 92)), some (.inl c1), some (.inl c2), some (.inl v3), some (.inl v4), none, none, none], [], g) (32, [some (.inr (.inr 92)), some (.inl c1), some (.inl c2), some (.inl v3), some (.inl v4), none, none, none], [.inl c2, .inl v4], g) rfl ?_
    by_cases hc : c2 ≤ v4
    · rw [if_pos hc] at h
      refine es (176, [some (.inr (.inr 92)), some (.inl c1), some (.inl c2), some (.inl v3), some (.inl v4), none, none, none], [], g) (congrArg some (if_pos hc)) ?_
      exact ev_le (L := [none, none, none, some (.inl v3), none, none, none, none]) (by simp [Lle]) (hK29_176 v3 g r g' h)
    · rw [if_neg hc] at h
      refine es (35, [some (.inr (.inr 92)), some (.inl c1), some (.inl c2), some (.inl v3), some (.inl v4), none, none, none], [], g) (congrArg some (if_neg hc)) ?_
      refine ev_runs 1 (35, [some (.inr (.inr 92)), some (.inl c1), some (.inl c2), some (.inl v3), some (.inl v4), none, none, none], [], g) (36, [some (.inr (.inr 92)), some (.inl c1), some (.inl c2), some (.inl v3), some (.inl v4), none, none, none], [.inl v3], g) rfl ?_
      by_cases hc : v3 = 0
      · rw [if_pos hc] at h
        refine es (176, [some (.inr (.inr 92)), some (.inl c1), some (.inl c2), some (.inl v3), some (.inl v4), none, none, none], [], g) (congrArg some (if_pos hc)) ?_
        exact ev_le (L := [none, none, none, some (.inl v3), none, none, none, none]) (by simp [Lle]) (hK29_176 v3 g r g' h)
      · rw [if_neg hc] at h
        refine es (39, [some (.inr (.inr 92)), some (.inl c1), some (.inl c2), some (.inl v3), some (.inl v4), none, none, none], [], g) (congrArg some (if_neg hc)) ?_
        refine ev_runs 3 (39, [some (.inr (.inr 92)), some (.inl c1), some (.inl c2), some (.inl v3), some (.inl v4), none, none, none], [], g) (45, [some (.inr (.inr 92)), some (.inl c1), some (.inl c2), some (.inl v3), some (.inl v4), none, none, none], [.inl v4, .inr (.inr 127)], g) rfl ?_
        by_cases hc : 0 ≤ v4 ∧ v4 < 40
        · rw [if_pos hc] at h
          refine es (46, [some (.inr (.inr 92)), some (.inl c1), some (.inl c2), some (.inl v3), some (.inl v4), none, none, none], [.inl (g 127 v4.toNat)], g) (if_pos hc) ?_
          refine ec 149 49 [.inl (g 127 v4.toNat)] [] rfl (ev_Md_queueOf (g 127 v4.toNat) g _ rfl) ?_
          show Ev 219 49 [some (.inr (.inr 92)), some (.inl c1), some (.inl c2), some (.inl v3), some (.inl v4), none, none, none] [.inl (Md_queueOf (g 127 v4.toNat))] g _ _
          refine ev_runs 4 (49, [some (.inr (.inr 92)), some (.inl c1), some (.inl c2), some (.inl v3), some (.inl v4), none, none, none], [.inl (Md_queueOf (g 127 v4.toNat))], g) (57, [some (.inr (.inr 92)), some (.inl c1), some (.inl c2), some (.inl v3), some (.inl v4), some (.inl (Md_queueOf (g 127 v4.toNat))), none, none], [.inl (Md_queueOf (g 127 v4.toNat)), .inr (.inr 122)], g) rfl ?_
          by_cases hc : 0 ≤ (Md_queueOf (g 127 v4.toNat)) ∧ (Md_queueOf (g 127 v4.toNat)) < 36
          · rw [if_pos hc] at h
            refine es (58, [some (.inr (.inr 92)), some (.inl c1), some (.inl c2), some (.inl v3), some (.inl v4), some (.inl (Md_queueOf (g 127 v4.toNat))), none, none], [.inl (g 122 (Md_queueOf (g 127 v4.toNat)).toNat)], g) (if_pos hc) ?_
            refine ev_runs 3 (58, [some (.inr (.inr 92)), some (.inl c1), some (.inl c2), some (.inl v3), some (.inl v4), some (.inl (Md_queueOf (g 127 v4.toNat))), none, none], [.inl (g 122 (Md_queueOf (g 127 v4.toNat)).toNat)], g) (63, [some (.inr (.inr 92)), some (.inl c1), some (.inl c2), some (.inl v3), some (.inl v4), some (.inl (Md_queueOf (g 127 v4.toNat))), some (.inl (g 122 (Md_queueOf (g 127 v4.toNat)).toNat)), some (.inl 0)], [], g) rfl ?_
            refine ev_le (L := [some (.inr (.inr 92)), some (.inl c1), some (.inl c2), none, some (.inl v4), some (.inl (Md_queueOf (g 127 v4.toNat))), some (.inl (g 122 (Md_queueOf (g 127 v4.toNat)).toNat)), some (.inl 0)]) (by simp [Lle]) ?_
            refine ev_Md_isLeft_l63 c1 c2 v4 (Md_queueOf (g 127 v4.toNat)) _ ?_ fu (g 122 (Md_queueOf (g 127 v4.toNat)).toNat) 0 g r g' h
            · intro x5 g6 r g' h
              refine ev_runs 4 (125, [some (.inr (.inr 92)), some (.inl c1), some (.inl c2), none, some (.inl v4), some (.inl (Md_queueOf (g 127 v4.toNat))), none, some (.inl x5)], [], g6) (132, [some (.inr (.inr 92)), some (.inl c1), some (.inl c2), none, some (.inl v4), some (.inl (Md_queueOf (g 127 v4.toNat))), none, some (.inl x5)], [.inl c1, .inr (.inr 110), .inl x5], g6) rfl ?_
              by_cases hc : 0 ≤ c1 ∧ c1 < 30
              · rw [if_pos hc] at h
                refine es (133, [some (.inr (.inr 92)), some (.inl c1), some (.inl c2), none, some (.inl v4), some (.inl (Md_queueOf (g 127 v4.toNat))), none, some (.inl x5)], [.inl (g6 110 c1.toNat), .inl x5], g6) (if_pos hc) ?_
                by_cases hc : (g6 110 c1.toNat) ≤ x5
                · rw [if_pos hc] at h
                  refine es (157, [some (.inr (.inr 92)), some (.inl c1), some (.inl c2), none, some (.inl v4), some (.inl (Md_queueOf (g 127 v4.toNat))), none, some (.inl x5)], [], g6) (congrArg some (if_pos hc)) ?_
                  refine ev_runs 6 (157, [some (.inr (.inr 92)), some (.inl c1), some (.inl c2), none, some (.inl v4), some (.inl (Md_queueOf (g 127 v4.toNat))), none, some (.inl x5)], [], g6) (166, [some (.inr (.inr 92)), some (.inl c1), some (.inl c2), some (.inl 0), some (.inl v4), some (.inl (Md_queueOf (g 127 v4.toNat))), none, some (.inl x5)], [.inl (Md_queueOf (g 127 v4.toNat)), .inr (.inr 122), .inl (Md_queueOf (g 127 v4.toNat)), .inr (.inr 122)], g6) rfl ?_
                  by_cases hc : 0 ≤ (Md_queueOf (g 127 v4.toNat)) ∧ (Md_queueOf (g 127 v4.toNat)) < 36
                  · rw [if_pos hc] at h
                    refine es (167, [some (.inr (.inr 92)), some (.inl c1), some (.inl c2), some (.inl 0), some (.inl v4), some (.inl (Md_queueOf (g 127 v4.toNat))), none, some (.inl x5)], [.inl (g6 122 (Md_queueOf (g 127 v4.toNat)).toNat), .inl (Md_queueOf (g 127 v4.toNat)), .inr (.inr 122)], g6) (if_pos hc) ?_
                    refine ev_runs 2 (167, [some (.inr (.inr 92)), some (.inl c1), some (.inl c2), some (.inl 0), some (.inl v4), some (.inl (Md_queueOf (g 127 v4.toNat))), none, some (.inl x5)], [.inl (g6 122 (Md_queueOf (g 127 v4.toNat)).toNat), .inl (Md_queueOf (g 127 v4.toNat)), .inr (.inr 122)], g6) (169, [some (.inr (.inr 92)), some (.inl c1), some (.inl c2), some (.inl 0), some (.inl v4), some (.inl (Md_queueOf (g 127 v4.toNat))), none, some (.inl x5)], [.inl (wr ((g6 122 (Md_queueOf (g 127 v4.toNat)).toNat) + 1)), .inl (Md_queueOf (g 127 v4.toNat)), .inr (.inr 122)], g6) rfl ?_
                    by_cases hc : 0 ≤ (Md_queueOf (g 127 v4.toNat)) ∧ (Md_queueOf (g 127 v4.toNat)) < 36
                    · rw [if_pos hc] at h
                      refine es (170, [some (.inr (.inr 92)), some (.inl c1), some (.inl c2), some (.inl 0), some (.inl v4), some (.inl (Md_queueOf (g 127 v4.toNat))), none, some (.inl x5)], [], (gset g6 122 ((Md_queueOf (g 127 v4.toNat)).toNat) (wr ((g6 122 (Md_queueOf (g 127 v4.toNat)).toNat) + 1)))) (if_pos hc) ?_
                      refine ev_runs 2 (170, [some (.inr (.inr 92)), some (.inl c1), some (.inl c2), some (.inl 0), some (.inl v4), some (.inl (Md_queueOf (g 127 v4.toNat))), none, some (.inl x5)], [], (gset g6 122 ((Md_queueOf (g 127 v4.toNat)).toNat) (wr ((g6 122 (Md_queueOf (g 127 v4.toNat)).toNat) + 1)))) (29, [some (.inr (.inr 92)), some (.inl c1), some (.inl c2), some (.inl 0), some (.inl (wr (v4 + 1))), some (.inl (Md_queueOf (g 127 v4.toNat))), none, some (.inl x5)], [], (gset g6 122 ((Md_queueOf (g 127 v4.toNat)).toNat) (wr ((g6 122 (Md_queueOf (g 127 v4.toNat)).toNat) + 1)))) rfl ?_
                      exact ev_le (L := [some (.inr (.inr 92)), some (.inl c1), some (.inl c2), some (.inl 0), some (.inl (wr (v4 + 1))), none, none, none]) (by simp [Lle]) (ih29 0 (wr (v4 + 1)) (gset g6 122 ((Md_queueOf (g 127 v4.toNat)).toNat) (wr ((g6 122 (Md_queueOf (g 127 v4.toNat)).toNat) + 1))) r g' h)
                    · rw [if_neg hc] at h; cases h
                  · rw [if_neg hc] at h; cases h
                · rw [if_neg hc] at h
                  refine es (136, [some (.inr (.inr 92)), some (.inl c1), some (.inl c2), none, some (.inl v4), some (.inl (Md_queueOf (g 127 v4.toNat))), none, some (.inl x5)], [], g6) (congrArg some (if_neg hc)) ?_
                  refine ev_runs 3 (136, [some (.inr (.inr 92)), some (.inl c1), some (.inl c2), none, some (.inl v4), some (.inl (Md_queueOf (g 127 v4.toNat))), none, some (.inl x5)], [], g6) (140, [some (.inr (.inr 92)), some (.inl c1), some (.inl c2), none, some (.inl v4), some (.inl (Md_queueOf (g 127 v4.toNat))), none, some (.inl x5)], [.inl x5, .inl c1, .inr (.inr 92)], g6) rfl ?_
                  obtain ⟨q7, hq, h⟩ := Option.bind_eq_some_iff.mp h
                  refine ec 89 143 [.inr (.inr 92), .inl c1, .inl x5] [] rfl (ev_Md_code c1 x5 g6 q7.1 q7.2 hq) ?_
                  show Ev 219 143 [some (.inr (.inr 92)), some (.inl c1), some (.inl c2), none, some (.inl v4), some (.inl (Md_queueOf (g 127 v4.toNat))), none, some (.inl x5)] [.inl q7.1] q7.2 _ _
                  refine ev_runs 3 (143, [some (.inr (.inr 92)), some (.inl c1), some (.inl c2), none, some (.inl v4), some (.inl (Md_queueOf (g 127 v4.toNat))), none, some (.inl x5)], [.inl q7.1], q7.2) (149, [some (.inr (.inr 92)), some (.inl c1), some (.inl c2), none, some (.inl v4), some (.inl (Md_queueOf (g 127 v4.toNat))), none, some (.inl x5)], [.inl v4, .inr (.inr 127), .inl q7.1], q7.2) rfl ?_
                  by_cases hc : 0 ≤ v4 ∧ v4 < 40
                  · rw [if_pos hc] at h
                    refine es (150, [some (.inr (.inr 92)), some (.inl c1), some (.inl c2), none, some (.inl v4), some (.inl (Md_queueOf (g 127 v4.toNat))), none, some (.inl x5)], [.inl (q7.2 127 v4.toNat), .inl q7.1], q7.2) (if_pos hc) ?_
                    obtain ⟨y8, hy8, h⟩ := lett_inv h
                    have hjy8 : Ev 219 158 [some (.inr (.inr 92)), some (.inl c1), some (.inl c2), none, some (.inl v4), some (.inl (Md_queueOf (g 127 v4.toNat))), none, none] [.inl y8] q7.2 (some (.inl r)) g' := by
                      refine ev_runs 5 (158, [some (.inr (.inr 92)), some (.inl c1), some (.inl c2), none, some (.inl v4), some (.inl (Md_queueOf (g 127 v4.toNat))), none, none], [.inl y8], q7.2) (166, [some (.inr (.inr 92)), some (.inl c1), some (.inl c2), some (.inl y8), some (.inl v4), some (.inl (Md_queueOf (g 127 v4.toNat))), none, none], [.inl (Md_queueOf (g 127 v4.toNat)), .inr (.inr 122), .inl (Md_queueOf (g 127 v4.toNat)), .inr (.inr 122)], q7.2) rfl ?_
                      by_cases hc : 0 ≤ (Md_queueOf (g 127 v4.toNat)) ∧ (Md_queueOf (g 127 v4.toNat)) < 36
                      · rw [if_pos hc] at h
                        refine es (167, [some (.inr (.inr 92)), some (.inl c1), some (.inl c2), some (.inl y8), some (.inl v4), some (.inl (Md_queueOf (g 127 v4.toNat))), none, none], [.inl (q7.2 122 (Md_queueOf (g 127 v4.toNat)).toNat), .inl (Md_queueOf (g 127 v4.toNat)), .inr (.inr 122)], q7.2) (if_pos hc) ?_
                        refine ev_runs 2 (167, [some (.inr (.inr 92)), some (.inl c1), some (.inl c2), some (.inl y8), some (.inl v4), some (.inl (Md_queueOf (g 127 v4.toNat))), none, none], [.inl (q7.2 122 (Md_queueOf (g 127 v4.toNat)).toNat), .inl (Md_queueOf (g 127 v4.toNat)), .inr (.inr 122)], q7.2) (169, [some (.inr (.inr 92)), some (.inl c1), some (.inl c2), some (.inl y8), some (.inl v4), some (.inl (Md_queueOf (g 127 v4.toNat))), none, none], [.inl (wr ((q7.2 122 (Md_queueOf (g 127 v4.toNat)).toNat) + 1)), .inl (Md_queueOf (g 127 v4.toNat)), .inr (.inr 122)], q7.2) rfl ?_
                        by_cases hc : 0 ≤ (Md_queueOf (g 127 v4.toNat)) ∧ (Md_queueOf (g 127 v4.toNat)) < 36
                        · rw [if_pos hc] at h
                          refine es (170, [some (.inr (.inr 92)), some (.inl c1), some (.inl c2), some (.inl y8), some (.inl v4), some (.inl (Md_queueOf (g 127 v4.toNat))), none, none], [], (gset q7.2 122 ((Md_queueOf (g 127 v4.toNat)).toNat) (wr ((q7.2 122 (Md_queueOf (g 127 v4.toNat)).toNat) + 1)))) (if_pos hc) ?_
                          refine ev_runs 2 (170, [some (.inr (.inr 92)), some (.inl c1), some (.inl c2), some (.inl y8), some (.inl v4), some (.inl (Md_queueOf (g 127 v4.toNat))), none, none], [], (gset q7.2 122 ((Md_queueOf (g 127 v4.toNat)).toNat) (wr ((q7.2 122 (Md_queueOf (g 127 v4.toNat)).toNat) + 1)))) (29, [some (.inr (.inr 92)), some (.inl c1), some (.inl c2), some (.inl y8), some (.inl (wr (v4 + 1))), some (.inl (Md_queueOf (g 127 v4.toNat))), none, none], [], (gset q7.2 122 ((Md_queueOf (g 127 v4.toNat)).toNat) (wr ((q7.2 122 (Md_queueOf (g 127 v4.toNat)).toNat) + 1)))) rfl ?_
                          exact ev_le (L := [some (.inr (.inr 92)), some (.inl c1), some (.inl c2), some (.inl y8), some (.inl (wr (v4 + 1))), none, none, none]) (by simp [Lle]) (ih29 y8 (wr (v4 + 1)) (gset q7.2 122 ((Md_queueOf (g 127 v4.toNat)).toNat) (wr ((q7.2 122 (Md_queueOf (g 127 v4.toNat)).toNat) + 1))) r g' h)
                        · rw [if_neg hc] at h; cases h
                      · rw [if_neg hc] at h; cases h
                    by_cases hc : ¬ q7.1 = (q7.2 127 v4.toNat)
                    · rw [if_pos hc] at hy8
                      refine es (157, [some (.inr (.inr 92)), some (.inl c1), some (.inl c2), none, some (.inl v4), some (.inl (Md_queueOf (g 127 v4.toNat))), none, some (.inl x5)], [], q7.2) (congrArg some (if_pos hc)) ?_
                      refine ev_runs 1 (157, [some (.inr (.inr 92)), some (.inl c1), some (.inl c2), none, some (.inl v4), some (.inl (Md_queueOf (g 127 v4.toNat))), none, some (.inl x5)], [], q7.2) (158, [some (.inr (.inr 92)), some (.inl c1), some (.inl c2), none, some (.inl v4), some (.inl (Md_queueOf (g 127 v4.toNat))), none, some (.inl x5)], [.inl 0], q7.2) rfl ?_
                      rw [hy8] at hjy8
                      exact ev_le (L := [some (.inr (.inr 92)), some (.inl c1), some (.inl c2), none, some (.inl v4), some (.inl (Md_queueOf (g 127 v4.toNat))), none, none]) (by simp [Lle]) hjy8
                    · rw [if_neg hc] at hy8
                      refine es (153, [some (.inr (.inr 92)), some (.inl c1), some (.inl c2), none, some (.inl v4), some (.inl (Md_queueOf (g 127 v4.toNat))), none, some (.inl x5)], [], q7.2) (congrArg some (if_neg hc)) ?_
                      refine ev_runs 2 (153, [some (.inr (.inr 92)), some (.inl c1), some (.inl c2), none, some (.inl v4), some (.inl (Md_queueOf (g 127 v4.toNat))), none, some (.inl x5)], [], q7.2) (158, [some (.inr (.inr 92)), some (.inl c1), some (.inl c2), none, some (.inl v4), some (.inl (Md_queueOf (g 127 v4.toNat))), none, some (.inl x5)], [.inl 1], q7.2) rfl ?_
                      rw [hy8] at hjy8
                      exact ev_le (L := [some (.inr (.inr 92)), some (.inl c1), some (.inl c2), none, some (.inl v4), some (.inl (Md_queueOf (g 127 v4.toNat))), none, none]) (by simp [Lle]) hjy8
                  · rw [if_neg hc] at h; cases h
              · rw [if_neg hc] at h; cases h
          · rw [if_neg hc] at h; cases h
        · rw [if_neg hc] at h; cases h
set_option maxRecDepth 100000 in
set_option maxHeartbeats 4000000 in
theorem ev_Md_isLeft (a1 a2 : Int) (g : Gx) (r : Int) (g' : Gx) (h : Md_isLeft a1 a2 g = some (r, g')) : Ev 219 0 [some (.inr (.inr 92)), some (.inl a1), some (.inl a2), none, none, none, none, none] [] g (some (.inl r)) g' := by
  rw [Md_isLeft] at h
  refine ev_runs 4 (0, [some (.inr (.inr 92)), some (.inl a1), some (.inl a2), none, none, none, none, none], [], g) (5, [some (.inr (.inr 92)), some (.inl a1), some (.inl a2), some (.inl 1), some (.inl 0), none, none, none], [], g) rfl ?_
  refine ev_le (L := [some (.inr (.inr 92)), some (.inl a1), some (.inl a2), some (.inl 1), some (.inl 0), none, none, none]) (by simp [Lle]) ?_
  refine ev_Md_isLeft_l5 a1 a2 1 _ ?_ fu 0 g r g' h
  · intro g1 r g' h
    refine ev_runs 2 (26, [some (.inr (.inr 92)), some (.inl a1), some (.inl a2), some (.inl 1), none, none, none, none], [], g1) (29, [some (.inr (.inr 92)), some (.inl a1), some (.inl a2), some (.inl 1), some (.inl 0), none, none, none], [], g1) rfl ?_
    refine ev_le (L := [some (.inr (.inr 92)), some (.inl a1), some (.inl a2), some (.inl 1), some (.inl 0), none, none, none]) (by simp [Lle]) ?_
    refine ev_Md_isLeft_l29 a1 a2 _ ?_ fu 1 0 g1 r g' h
    · intro x9 g10 r g' h
      refine ev_runs 1 (176, [none, none, none, some (.inl x9), none, none, none, none], [], g10) (177, [none, none, none, some (.inl x9), none, none, none, none], [.inl x9], g10) rfl ?_
      by_cases hc : x9 = 0 ∨ x9 = 1
      · rw [if_pos hc] at h
        cases h
        exact er (if_pos hc)
      · rw [if_neg hc] at h; cases h
set_option maxRecDepth 100000 in
set_option maxHeartbeats 4000000 in
theorem ev_Md_leftBy_l4 (c1 : Int) (K4_37 : Int → Gx → Option (Int × Gx)) (hK4_37 : ∀ (x2 : Int) (g : Gx) (r : Int) (g' : Gx), K4_37 x2 g = some (r, g') → Ev 220 37 [none, none, some (.inl x2), none] [] g (some (.inl r)) g') : ∀ (n4 : Nat) (v2 v3 : Int) (g : Gx) (r : Int) (g' : Gx), Md_leftBy_l4 c1 K4_37 n4 v2 v3 g = some (r, g') → Ev 220 4 [some (.inr (.inr 92)), some (.inl c1), some (.inl v2), some (.inl v3)] [] g (some (.inl r)) g' := by
  intro n4
  induction n4 with
  | zero => intro v2 v3 g r g' h; cases h
  | succ n4 ih4 =>
    intro v2 v3 g r g' h
    rw [Md_leftBy_l4] at h
    refine ev_runs 3 (4, [some (.inr (.inr 92)), some (.inl c1), some (.inl v2), some (.inl v3)], [], g) (9, [some (.inr (.inr 92)), some (.inl c1), some (.inl v2), some (.inl v3)], [.inl (g 92 26), .inl v3], g) rfl ?_
    by_cases hc : (g 92 26) ≤ v3
    · rw [if_pos hc] at h
      refine es (37, [some (.inr (.inr 92)), some (.inl c1), some (.inl v2), some (.inl v3)], [], g) (congrArg some (if_pos hc)) ?_
      exact ev_le (L := [none, none, some (.inl v2), none]) (by simp [Lle]) (hK4_37 v2 g r g' h)
    · rw [if_neg hc] at h
      refine es (12, [some (.inr (.inr 92)), some (.inl c1), some (.inl v2), some (.inl v3)], [], g) (congrArg some (if_neg hc)) ?_
      refine ev_runs 4 (12, [some (.inr (.inr 92)), some (.inl c1), some (.inl v2), some (.inl v3)], [], g) (16, [some (.inr (.inr 92)), some (.inl c1), some (.inl v2), some (.inl v3)], [.inl c1, .inl v3, .inr (.inr 92), .inl v2], g) rfl ?_
      obtain ⟨q1, hq, h⟩ := Option.bind_eq_some_iff.mp h
      refine ec 219 19 [.inr (.inr 92), .inl v3, .inl c1] [.inl v2] rfl (ev_Md_isLeft v3 c1 g q1.1 q1.2 hq) ?_
      show Ev 220 19 [some (.inr (.inr 92)), some (.inl c1), some (.inl v2), some (.inl v3)] [.inl q1.1, .inl v2] q1.2 _ _
      by_cases hc : q1.1 = 0
      · rw [if_pos hc] at h
        refine es (28, [some (.inr (.inr 92)), some (.inl c1), some (.inl v2), some (.inl v3)], [.inl v2], q1.2) (congrArg some (if_pos hc)) ?_
        refine ev_runs 5 (28, [some (.inr (.inr 92)), some (.inl c1), some (.inl v2), some (.inl v3)], [.inl v2], q1.2) (4, [some (.inr (.inr 92)), some (.inl c1), some (.inl (jor v2 0)), some (.inl (wr (v3 + 1)))], [], q1.2) rfl ?_
        exact ev_le (L := [some (.inr (.inr 92)), some (.inl c1), some (.inl (jor v2 0)), some (.inl (wr (v3 + 1)))]) (by simp [Lle]) (ih4 (jor v2 0) (wr (v3 + 1)) q1.2 r g' h)
      · rw [if_neg hc] at h
        refine es (22, [some (.inr (.inr 92)), some (.inl c1), some (.inl v2), some (.inl v3)], [.inl v2], q1.2) (congrArg some (if_neg hc)) ?_
        refine ev_runs 8 (22, [some (.inr (.inr 92)), some (.inl c1), some (.inl v2), some (.inl v3)], [.inl v2], q1.2) (4, [some (.inr (.inr 92)), some (.inl c1), some (.inl (jor v2 (jshl 1 v3))), some (.inl (wr (v3 + 1)))], [], q1.2) rfl ?_
        exact ev_le (L := [some (.inr (.inr 92)), some (.inl c1), some (.inl (jor v2 (jshl 1 v3))), some (.inl (wr (v3 + 1)))]) (by simp [Lle]) (ih4 (jor v2 (jshl 1 v3)) (wr (v3 + 1)) q1.2 r g' h)
set_option maxRecDepth 100000 in
set_option maxHeartbeats 4000000 in
theorem ev_Md_leftBy (a1 : Int) (g : Gx) (r : Int) (g' : Gx) (h : Md_leftBy a1 g = some (r, g')) : Ev 220 0 [some (.inr (.inr 92)), some (.inl a1), none, none] [] g (some (.inl r)) g' := by
  rw [Md_leftBy] at h
  refine ev_runs 4 (0, [some (.inr (.inr 92)), some (.inl a1), none, none], [], g) (4, [some (.inr (.inr 92)), some (.inl a1), some (.inl 0), some (.inl 0)], [], g) rfl ?_
  refine ev_le (L := [some (.inr (.inr 92)), some (.inl a1), some (.inl 0), some (.inl 0)]) (by simp [Lle]) ?_
  refine ev_Md_leftBy_l4 a1 _ ?_ fu 0 0 g r g' h
  · intro x2 g3 r g' h
    refine ev_runs 1 (37, [none, none, some (.inl x2), none], [], g3) (38, [none, none, some (.inl x2), none], [.inl x2], g3) rfl ?_
    cases h
    exact er rfl
set_option maxRecDepth 100000 in
set_option maxHeartbeats 4000000 in
theorem ev_Md_left (a1 : Int) (g : Gx) (r : Int) (g' : Gx) (h : Md_left a1 g = some (r, g')) : Ev 221 0 [some (.inr (.inr 92)), some (.inl a1), none] [] g (some (.inl r)) g' := by
  rw [Md_left] at h
  refine ev_runs 6 (0, [some (.inr (.inr 92)), some (.inl a1), none], [], g) (8, [some (.inr (.inr 92)), some (.inl a1), none], [.inr (.inl (g 92 48)), .inr (.inl 0), .inr (.inl a1)], g) rfl ?_
  refine ec 4 11 [.inr (.inl a1), .inr (.inl 0), .inr (.inl (g 92 48))] [] rfl (ev_Md_in a1 0 (g 92 48) g _ rfl) ?_
  show Ev 221 11 [some (.inr (.inr 92)), some (.inl a1), none] [.inl (Md_in a1 0 (g 92 48))] g _ _
  by_cases hc : ¬ (Md_in a1 0 (g 92 48)) = 0
  · rw [if_pos hc] at h
    refine es (17, [some (.inr (.inr 92)), some (.inl a1), none], [], g) (congrArg some (if_pos hc)) ?_
    refine ev_runs 1 (17, [some (.inr (.inr 92)), some (.inl a1), none], [], g) (18, [some (.inr (.inr 92)), some (.inl a1), none], [.inr (.inr 92)], g) rfl ?_
    obtain ⟨q1, hq, h⟩ := Option.bind_eq_some_iff.mp h
    refine ec 81 21 [.inr (.inr 92)] [] rfl (ev_Md_without g q1.1 q1.2 hq) ?_
    show Ev 221 21 [some (.inr (.inr 92)), some (.inl a1), none] [.inl q1.1] q1.2 _ _
    refine ev_runs 2 (21, [some (.inr (.inr 92)), some (.inl a1), none], [.inl q1.1], q1.2) (23, [some (.inr (.inr 92)), some (.inl a1), some (.inl q1.1)], [.inl q1.1], q1.2) rfl ?_
    by_cases hc : q1.1 = 0
    · rw [if_pos hc] at h
      refine es (30, [some (.inr (.inr 92)), some (.inl a1), some (.inl q1.1)], [], q1.2) (congrArg some (if_pos hc)) ?_
      refine ev_runs 2 (30, [some (.inr (.inr 92)), some (.inl a1), some (.inl q1.1)], [], q1.2) (32, [some (.inr (.inr 92)), some (.inl a1), some (.inl q1.1)], [.inl a1, .inr (.inr 92)], q1.2) rfl ?_
      obtain ⟨q2, hq, h⟩ := Option.bind_eq_some_iff.mp h
      refine ec 220 35 [.inr (.inr 92), .inl a1] [] rfl (ev_Md_leftBy a1 q1.2 q2.1 q2.2 hq) ?_
      show Ev 221 35 [some (.inr (.inr 92)), some (.inl a1), some (.inl q1.1)] [.inl q2.1] q2.2 _ _
      cases h
      exact er rfl
    · rw [if_neg hc] at h
      refine es (26, [some (.inr (.inr 92)), some (.inl a1), some (.inl q1.1)], [], q1.2) (congrArg some (if_neg hc)) ?_
      refine ev_runs 2 (26, [some (.inr (.inr 92)), some (.inl a1), some (.inl q1.1)], [], q1.2) (35, [some (.inr (.inr 92)), some (.inl a1), some (.inl q1.1)], [.inl q1.1], q1.2) rfl ?_
      cases h
      exact er rfl
  · rw [if_neg hc] at h
    refine es (14, [some (.inr (.inr 92)), some (.inl a1), none], [], g) (congrArg some (if_neg hc)) ?_
    refine ev_runs 1 (14, [some (.inr (.inr 92)), some (.inl a1), none], [], g) (16, [some (.inr (.inr 92)), some (.inl a1), none], [.inl (-2)], g) rfl ?_
    cases h
    exact er rfl
set_option maxRecDepth 100000 in
set_option maxHeartbeats 4000000 in
theorem ev_Bd_mostBorne_l4 (K4_34 : Int → Gx → Option (Int × Gx)) (hK4_34 : ∀ (x1 : Int) (g : Gx) (r : Int) (g' : Gx), K4_34 x1 g = some (r, g') → Ev 222 34 [none, some (.inl x1), none] [] g (some (.inl r)) g') : ∀ (n4 : Nat) (v1 v2 : Int) (g : Gx) (r : Int) (g' : Gx), Bd_mostBorne_l4 K4_34 n4 v1 v2 g = some (r, g') → Ev 222 4 [some (.inr (.inr 78)), some (.inl v1), some (.inl v2)] [] g (some (.inl r)) g' := by
  intro n4
  induction n4 with
  | zero => intro v1 v2 g r g' h; cases h
  | succ n4 ih4 =>
    intro v1 v2 g r g' h
    rw [Bd_mostBorne_l4] at h
    refine ev_runs 3 (4, [some (.inr (.inr 78)), some (.inl v1), some (.inl v2)], [], g) (9, [some (.inr (.inr 78)), some (.inl v1), some (.inl v2)], [.inr (.inr 33), .inl v2], g) rfl ?_
    refine ec 74 12 [.inr (.inr 33)] [.inl v2] rfl (ev_Hi_size g _ rfl) ?_
    show Ev 222 12 [some (.inr (.inr 78)), some (.inl v1), some (.inl v2)] [.inl (Hi_size g), .inl v2] g _ _
    by_cases hc : (Hi_size g) ≤ v2
    · rw [if_pos hc] at h
      refine es (34, [some (.inr (.inr 78)), some (.inl v1), some (.inl v2)], [], g) (congrArg some (if_pos hc)) ?_
      exact ev_le (L := [none, some (.inl v1), none]) (by simp [Lle]) (hK4_34 v1 g r g' h)
    · rw [if_neg hc] at h
      refine es (15, [some (.inr (.inr 78)), some (.inl v1), some (.inl v2)], [], g) (congrArg some (if_neg hc)) ?_
      refine ev_runs 4 (15, [some (.inr (.inr 78)), some (.inl v1), some (.inl v2)], [], g) (21, [some (.inr (.inr 78)), some (.inl v1), some (.inl v2)], [.inl v2, .inr (.inr 81), .inl v1], g) rfl ?_
      refine ec 13 24 [.inr (.inr 81), .inl v2] [.inl v1] rfl (ev_Row_at rfl rfl _ _) ?_
      show Ev 222 24 [some (.inr (.inr 78)), some (.inl v1), some (.inl v2)] [.inl (rat g 82 30 v2), .inl v1] g _ _
      refine ev_runs 4 (24, [some (.inr (.inr 78)), some (.inl v1), some (.inl v2)], [.inl (rat g 82 30 v2), .inl v1], g) (4, [some (.inr (.inr 78)), some (.inl (imax v1 (rat g 82 30 v2))), some (.inl (wr (v2 + 1)))], [], g) rfl ?_
      exact ev_le (L := [some (.inr (.inr 78)), some (.inl (imax v1 (rat g 82 30 v2))), some (.inl (wr (v2 + 1)))]) (by simp [Lle]) (ih4 (imax v1 (rat g 82 30 v2)) (wr (v2 + 1)) g r g' h)
set_option maxRecDepth 100000 in
set_option maxHeartbeats 4000000 in
theorem ev_Bd_mostBorne (g : Gx) (r : Int) (g' : Gx) (h : Bd_mostBorne g = some (r, g')) : Ev 222 0 [some (.inr (.inr 78)), none, none] [] g (some (.inl r)) g' := by
  rw [Bd_mostBorne] at h
  refine ev_runs 4 (0, [some (.inr (.inr 78)), none, none], [], g) (4, [some (.inr (.inr 78)), some (.inl 0), some (.inl 0)], [], g) rfl ?_
  refine ev_le (L := [some (.inr (.inr 78)), some (.inl 0), some (.inl 0)]) (by simp [Lle]) ?_
  refine ev_Bd_mostBorne_l4 _ ?_ fu 0 0 g r g' h
  · intro x1 g2 r g' h
    refine ev_runs 1 (34, [none, some (.inl x1), none], [], g2) (35, [none, some (.inl x1), none], [.inl x1], g2) rfl ?_
    cases h
    exact er rfl
set_option maxRecDepth 100000 in
set_option maxHeartbeats 4000000 in
theorem ev_Bd_firstOut (g : Gx) (r : Int) (g' : Gx) (h : Bd_firstOut g = some (r, g')) : Ev 223 0 [some (.inr (.inr 78)), none] [] g (some (.inl r)) g' := by
  rw [Bd_firstOut] at h
  refine ev_runs 1 (0, [some (.inr (.inr 78)), none], [], g) (1, [some (.inr (.inr 78)), none], [.inr (.inr 78)], g) rfl ?_
  obtain ⟨q1, hq, h⟩ := Option.bind_eq_some_iff.mp h
  refine ec 222 4 [.inr (.inr 78)] [] rfl (ev_Bd_mostBorne g q1.1 q1.2 hq) ?_
  show Ev 223 4 [some (.inr (.inr 78)), none] [.inl q1.1] q1.2 _ _
  refine ev_runs 4 (4, [some (.inr (.inr 78)), none], [.inl q1.1], q1.2) (10, [some (.inr (.inr 78)), some (.inl q1.1)], [.inl (q1.2 78 4), .inl q1.1], q1.2) rfl ?_
  by_cases hc : (q1.2 78 4) ≤ q1.1
  · rw [if_pos hc] at h
    refine es (17, [some (.inr (.inr 78)), some (.inl q1.1)], [], q1.2) (congrArg some (if_pos hc)) ?_
    refine ev_runs 1 (17, [some (.inr (.inr 78)), some (.inl q1.1)], [], q1.2) (18, [some (.inr (.inr 78)), some (.inl q1.1)], [.inl (-1)], q1.2) rfl ?_
    cases h
    exact er rfl
  · rw [if_neg hc] at h
    refine es (13, [some (.inr (.inr 78)), some (.inl q1.1)], [], q1.2) (congrArg some (if_neg hc)) ?_
    refine ev_runs 2 (13, [some (.inr (.inr 78)), some (.inl q1.1)], [], q1.2) (18, [some (.inr (.inr 78)), some (.inl q1.1)], [.inl q1.1], q1.2) rfl ?_
    cases h
    exact er rfl
set_option maxRecDepth 100000 in
set_option maxHeartbeats 4000000 in
theorem ev_Bd_blamed (g : Gx) (r : Int) (g' : Gx) (h : Bd_blamed g = some (r, g')) : Ev 224 0 [some (.inr (.inr 78)), none] [] g (some (.inl r)) g' := by
  rw [Bd_blamed] at h
  refine ev_runs 1 (0, [some (.inr (.inr 78)), none], [], g) (1, [some (.inr (.inr 78)), none], [.inr (.inr 78)], g) rfl ?_
  obtain ⟨q1, hq, h⟩ := Option.bind_eq_some_iff.mp h
  refine ec 222 4 [.inr (.inr 78)] [] rfl (ev_Bd_mostBorne g q1.1 q1.2 hq) ?_
  show Ev 224 4 [some (.inr (.inr 78)), none] [.inl q1.1] q1.2 _ _
  refine ev_runs 4 (4, [some (.inr (.inr 78)), none], [.inl q1.1], q1.2) (10, [some (.inr (.inr 78)), some (.inl q1.1)], [.inl (q1.2 78 4), .inl q1.1], q1.2) rfl ?_
  by_cases hc : (q1.2 78 4) ≤ q1.1
  · rw [if_pos hc] at h
    refine es (27, [some (.inr (.inr 78)), some (.inl q1.1)], [], q1.2) (congrArg some (if_pos hc)) ?_
    refine ev_runs 1 (27, [some (.inr (.inr 78)), some (.inl q1.1)], [], q1.2) (28, [some (.inr (.inr 78)), some (.inl q1.1)], [.inl (-1)], q1.2) rfl ?_
    cases h
    exact er rfl
  · rw [if_neg hc] at h
    refine es (13, [some (.inr (.inr 78)), some (.inl q1.1)], [], q1.2) (congrArg some (if_neg hc)) ?_
    refine ev_runs 3 (13, [some (.inr (.inr 78)), some (.inl q1.1)], [], q1.2) (18, [some (.inr (.inr 78)), some (.inl q1.1)], [.inl q1.1, .inr (.inr 79)], q1.2) rfl ?_
    refine ec 13 21 [.inr (.inr 79), .inl q1.1] [] rfl (ev_Row_at rfl rfl _ _) ?_
    show Ev 224 21 [some (.inr (.inr 78)), some (.inl q1.1)] [.inl (rat q1.2 80 40 q1.1)] q1.2 _ _
    refine ec 92 24 [.inl (rat q1.2 80 40 q1.1)] [] rfl (ev_Op_sayer (rat q1.2 80 40 q1.1) q1.2 _ rfl) ?_
    show Ev 224 24 [some (.inr (.inr 78)), some (.inl q1.1)] [.inl (Op_sayer (rat q1.2 80 40 q1.1))] q1.2 _ _
    refine ev_runs 1 (24, [some (.inr (.inr 78)), some (.inl q1.1)], [.inl (Op_sayer (rat q1.2 80 40 q1.1))], q1.2) (28, [some (.inr (.inr 78)), some (.inl q1.1)], [.inl (Op_sayer (rat q1.2 80 40 q1.1))], q1.2) rfl ?_
    cases h
    exact er rfl
set_option maxRecDepth 100000 in
set_option maxHeartbeats 4000000 in
theorem ev_Op_out (a1 : Int) (g : Gx) (r : Int) (g' : Gx) (h : Op_out a1 g = some (r, g')) : Ev 225 0 [some (.inr (.inr 0)), some (.inl a1), none] [] g (some (.inl r)) g' := by
  rw [Op_out] at h
  refine ev_runs 1 (0, [some (.inr (.inr 0)), some (.inl a1), none], [], g) (1, [some (.inr (.inr 0)), some (.inl a1), none], [.inl a1], g) rfl ?_
  by_cases hc : a1 < 0
  · rw [if_pos hc] at h
    refine es (9, [some (.inr (.inr 0)), some (.inl a1), none], [], g) (congrArg some (if_pos hc)) ?_
    refine ev_runs 1 (9, [some (.inr (.inr 0)), some (.inl a1), none], [], g) (11, [some (.inr (.inr 0)), some (.inl a1), none], [.inl (-2)], g) rfl ?_
    cases h
    exact er rfl
  · rw [if_neg hc] at h
    refine es (4, [some (.inr (.inr 0)), some (.inl a1), none], [], g) (congrArg some (if_neg hc)) ?_
    refine ev_runs 2 (4, [some (.inr (.inr 0)), some (.inl a1), none], [], g) (6, [some (.inr (.inr 0)), some (.inl a1), none], [.inl 1, .inl a1], g) rfl ?_
    by_cases hc : a1 ≤ 1
    · rw [if_pos hc] at h
      refine es (12, [some (.inr (.inr 0)), some (.inl a1), none], [], g) (congrArg some (if_pos hc)) ?_
      refine ev_runs 2 (12, [some (.inr (.inr 0)), some (.inl a1), none], [], g) (14, [some (.inr (.inr 0)), some (.inl a1), none], [.inl 0, .inr (.inr 0)], g) rfl ?_
      obtain ⟨q1, hq, h⟩ := Option.bind_eq_some_iff.mp h
      refine ec 75 17 [.inr (.inr 0), .inl 0] [] rfl (ev_Op_hindrance 0 g q1.1 q1.2 hq) ?_
      show Ev 225 17 [some (.inr (.inr 0)), some (.inl a1), none] [.inl q1.1] q1.2 _ _
      refine ev_runs 2 (17, [some (.inr (.inr 0)), some (.inl a1), none], [.inl q1.1], q1.2) (19, [some (.inr (.inr 0)), some (.inl a1), some (.inl q1.1)], [.inl q1.1], q1.2) rfl ?_
      by_cases hc : q1.1 = 0
      · rw [if_pos hc] at h
        refine es (24, [some (.inr (.inr 0)), some (.inl a1), some (.inl q1.1)], [], q1.2) (congrArg some (if_pos hc)) ?_
        refine ev_runs 2 (24, [some (.inr (.inr 0)), some (.inl a1), some (.inl q1.1)], [], q1.2) (28, [some (.inr (.inr 0)), some (.inl a1), some (.inl q1.1)], [.inr (.inr 78)], q1.2) rfl ?_
        obtain ⟨g2, hq, h⟩ := Option.bind_eq_some_iff.mp h
        refine ec 216 31 [.inr (.inr 78)] [] rfl (ev_Bd_compare q1.2 g2 hq) ?_
        show Ev 225 31 [some (.inr (.inr 0)), some (.inl a1), some (.inl q1.1)] [] g2 _ _
        refine ev_runs 1 (31, [some (.inr (.inr 0)), some (.inl a1), some (.inl q1.1)], [], g2) (32, [some (.inr (.inr 0)), some (.inl a1), some (.inl q1.1)], [.inl a1], g2) rfl ?_
        by_cases hc : ¬ a1 = 0
        · rw [if_pos hc] at h
          refine es (45, [some (.inr (.inr 0)), some (.inl a1), some (.inl q1.1)], [], g2) (congrArg some (if_pos hc)) ?_
          refine ev_runs 2 (45, [some (.inr (.inr 0)), some (.inl a1), some (.inl q1.1)], [], g2) (49, [some (.inr (.inr 0)), some (.inl a1), some (.inl q1.1)], [.inr (.inr 78)], g2) rfl ?_
          obtain ⟨q3, hq, h⟩ := Option.bind_eq_some_iff.mp h
          refine ec 224 52 [.inr (.inr 78)] [] rfl (ev_Bd_blamed g2 q3.1 q3.2 hq) ?_
          show Ev 225 52 [some (.inr (.inr 0)), some (.inl a1), some (.inl q1.1)] [.inl q3.1] q3.2 _ _
          cases h
          exact er rfl
        · rw [if_neg hc] at h
          refine es (35, [some (.inr (.inr 0)), some (.inl a1), some (.inl q1.1)], [], g2) (congrArg some (if_neg hc)) ?_
          refine ev_runs 2 (35, [some (.inr (.inr 0)), some (.inl a1), some (.inl q1.1)], [], g2) (39, [some (.inr (.inr 0)), some (.inl a1), some (.inl q1.1)], [.inr (.inr 78)], g2) rfl ?_
          obtain ⟨q4, hq, h⟩ := Option.bind_eq_some_iff.mp h
          refine ec 223 42 [.inr (.inr 78)] [] rfl (ev_Bd_firstOut g2 q4.1 q4.2 hq) ?_
          show Ev 225 42 [some (.inr (.inr 0)), some (.inl a1), some (.inl q1.1)] [.inl q4.1] q4.2 _ _
          refine ev_runs 1 (42, [some (.inr (.inr 0)), some (.inl a1), some (.inl q1.1)], [.inl q4.1], q4.2) (52, [some (.inr (.inr 0)), some (.inl a1), some (.inl q1.1)], [.inl q4.1], q4.2) rfl ?_
          cases h
          exact er rfl
      · rw [if_neg hc] at h
        refine es (22, [some (.inr (.inr 0)), some (.inl a1), some (.inl q1.1)], [], q1.2) (congrArg some (if_neg hc)) ?_
        refine ev_runs 1 (22, [some (.inr (.inr 0)), some (.inl a1), some (.inl q1.1)], [], q1.2) (23, [some (.inr (.inr 0)), some (.inl a1), some (.inl q1.1)], [.inl q1.1], q1.2) rfl ?_
        cases h
        exact er rfl
    · rw [if_neg hc] at h
      refine es (9, [some (.inr (.inr 0)), some (.inl a1), none], [], g) (congrArg some (if_neg hc)) ?_
      refine ev_runs 1 (9, [some (.inr (.inr 0)), some (.inl a1), none], [], g) (11, [some (.inr (.inr 0)), some (.inl a1), none], [.inl (-2)], g) rfl ?_
      cases h
      exact er rfl
set_option maxRecDepth 100000 in
set_option maxHeartbeats 4000000 in
theorem ev_Md_outOf_l2 (K2_28 : Gx → Option (Int × Gx)) (hK2_28 : ∀ (g : Gx) (r : Int) (g' : Gx), K2_28 g = some (r, g') → Ev 226 28 [none, none] [] g (some (.inl r)) g') : ∀ (n2 : Nat) (v1 : Int) (g : Gx) (r : Int) (g' : Gx), Md_outOf_l2 K2_28 n2 v1 g = some (r, g') → Ev 226 2 [some (.inr (.inr 92)), some (.inl v1)] [] g (some (.inl r)) g' := by
  intro n2
  induction n2 with
  | zero => intro v1 g r g' h; cases h
  | succ n2 ih2 =>
    intro v1 g r g' h
    rw [Md_outOf_l2] at h
    refine ev_runs 3 (2, [some (.inr (.inr 92)), some (.inl v1)], [], g) (7, [some (.inr (.inr 92)), some (.inl v1)], [.inl (g 92 48), .inl v1], g) rfl ?_
    by_cases hc : (g 92 48) ≤ v1
    · rw [if_pos hc] at h
      refine es (28, [some (.inr (.inr 92)), some (.inl v1)], [], g) (congrArg some (if_pos hc)) ?_
      exact ev_le (L := [none, none]) (by simp [Lle]) (hK2_28 g r g' h)
    · rw [if_neg hc] at h
      refine es (10, [some (.inr (.inr 92)), some (.inl v1)], [], g) (congrArg some (if_neg hc)) ?_
      refine ev_runs 4 (10, [some (.inr (.inr 92)), some (.inl v1)], [], g) (14, [some (.inr (.inr 92)), some (.inl v1)], [.inl (wr (v1 + 1)), .inr (.inr 92)], g) rfl ?_
      obtain ⟨q1, hq, h⟩ := Option.bind_eq_some_iff.mp h
      refine ec 220 17 [.inr (.inr 92), .inl (wr (v1 + 1))] [] rfl (ev_Md_leftBy (wr (v1 + 1)) g q1.1 q1.2 hq) ?_
      show Ev 226 17 [some (.inr (.inr 92)), some (.inl v1)] [.inl q1.1] q1.2 _ _
      by_cases hc : ¬ q1.1 = 0
      · rw [if_pos hc] at h
        refine es (22, [some (.inr (.inr 92)), some (.inl v1)], [], q1.2) (congrArg some (if_pos hc)) ?_
        refine ev_runs 2 (22, [some (.inr (.inr 92)), some (.inl v1)], [], q1.2) (2, [some (.inr (.inr 92)), some (.inl (wr (v1 + 1)))], [], q1.2) rfl ?_
        exact ev_le (L := [some (.inr (.inr 92)), some (.inl (wr (v1 + 1)))]) (by simp [Lle]) (ih2 (wr (v1 + 1)) q1.2 r g' h)
      · rw [if_neg hc] at h
        refine es (20, [some (.inr (.inr 92)), some (.inl v1)], [], q1.2) (congrArg some (if_neg hc)) ?_
        refine ev_runs 1 (20, [some (.inr (.inr 92)), some (.inl v1)], [], q1.2) (21, [some (.inr (.inr 92)), some (.inl v1)], [.inl v1], q1.2) rfl ?_
        cases h
        exact er rfl
set_option maxRecDepth 100000 in
set_option maxHeartbeats 4000000 in
theorem ev_Md_outOf (g : Gx) (r : Int) (g' : Gx) (h : Md_outOf g = some (r, g')) : Ev 226 0 [some (.inr (.inr 92)), none] [] g (some (.inl r)) g' := by
  rw [Md_outOf] at h
  refine ev_runs 2 (0, [some (.inr (.inr 92)), none], [], g) (2, [some (.inr (.inr 92)), some (.inl 0)], [], g) rfl ?_
  refine ev_le (L := [some (.inr (.inr 92)), some (.inl 0)]) (by simp [Lle]) ?_
  refine ev_Md_outOf_l2 _ ?_ fu 0 g r g' h
  · intro g2 r g' h
    refine ev_runs 1 (28, [none, none], [], g2) (29, [none, none], [.inl (-1)], g2) rfl ?_
    cases h
    exact er rfl
set_option maxRecDepth 100000 in
set_option maxHeartbeats 4000000 in
theorem ev_Md_out (a1 : Int) (g : Gx) (r : Int) (g' : Gx) (h : Md_out a1 g = some (r, g')) : Ev 227 0 [some (.inr (.inr 92)), some (.inl a1), none, none] [] g (some (.inl r)) g' := by
  rw [Md_out] at h
  refine ev_runs 4 (0, [some (.inr (.inr 92)), some (.inl a1), none, none], [], g) (4, [some (.inr (.inr 92)), some (.inl a1), none, none], [.inr (.inl 1), .inr (.inl 0), .inr (.inl a1)], g) rfl ?_
  refine ec 4 7 [.inr (.inl a1), .inr (.inl 0), .inr (.inl 1)] [] rfl (ev_Md_in a1 0 1 g _ rfl) ?_
  show Ev 227 7 [some (.inr (.inr 92)), some (.inl a1), none, none] [.inl (Md_in a1 0 1)] g _ _
  by_cases hc : ¬ (Md_in a1 0 1) = 0
  · rw [if_pos hc] at h
    refine es (13, [some (.inr (.inr 92)), some (.inl a1), none, none], [], g) (congrArg some (if_pos hc)) ?_
    refine ev_runs 1 (13, [some (.inr (.inr 92)), some (.inl a1), none, none], [], g) (14, [some (.inr (.inr 92)), some (.inl a1), none, none], [.inr (.inr 92)], g) rfl ?_
    obtain ⟨q1, hq, h⟩ := Option.bind_eq_some_iff.mp h
    refine ec 81 17 [.inr (.inr 92)] [] rfl (ev_Md_without g q1.1 q1.2 hq) ?_
    show Ev 227 17 [some (.inr (.inr 92)), some (.inl a1), none, none] [.inl q1.1] q1.2 _ _
    refine ev_runs 2 (17, [some (.inr (.inr 92)), some (.inl a1), none, none], [.inl q1.1], q1.2) (19, [some (.inr (.inr 92)), some (.inl a1), some (.inl q1.1), none], [.inl q1.1], q1.2) rfl ?_
    by_cases hc : q1.1 = 0
    · rw [if_pos hc] at h
      refine es (24, [some (.inr (.inr 92)), some (.inl a1), some (.inl q1.1), none], [], q1.2) (congrArg some (if_pos hc)) ?_
      refine ev_runs 1 (24, [some (.inr (.inr 92)), some (.inl a1), some (.inl q1.1), none], [], q1.2) (25, [some (.inr (.inr 92)), some (.inl a1), some (.inl q1.1), none], [.inr (.inr 92)], q1.2) rfl ?_
      obtain ⟨q2, hq, h⟩ := Option.bind_eq_some_iff.mp h
      refine ec 226 28 [.inr (.inr 92)] [] rfl (ev_Md_outOf q1.2 q2.1 q2.2 hq) ?_
      show Ev 227 28 [some (.inr (.inr 92)), some (.inl a1), some (.inl q1.1), none] [.inl q2.1] q2.2 _ _
      refine ev_runs 3 (28, [some (.inr (.inr 92)), some (.inl a1), some (.inl q1.1), none], [.inl q2.1], q2.2) (31, [some (.inr (.inr 92)), some (.inl a1), some (.inl q1.1), some (.inl q2.1)], [.inl (-1), .inl q2.1], q2.2) rfl ?_
      by_cases hc : q2.1 = (-1)
      · rw [if_pos hc] at h
        refine es (38, [some (.inr (.inr 92)), some (.inl a1), some (.inl q1.1), some (.inl q2.1)], [], q2.2) (congrArg some (if_pos hc)) ?_
        refine ev_runs 2 (38, [some (.inr (.inr 92)), some (.inl a1), some (.inl q1.1), some (.inl q2.1)], [], q2.2) (51, [some (.inr (.inr 92)), some (.inl a1), some (.inl q1.1), some (.inl q2.1)], [.inl q2.1], q2.2) rfl ?_
        cases h
        exact er rfl
      · rw [if_neg hc] at h
        refine es (34, [some (.inr (.inr 92)), some (.inl a1), some (.inl q1.1), some (.inl q2.1)], [], q2.2) (congrArg some (if_neg hc)) ?_
        refine ev_runs 1 (34, [some (.inr (.inr 92)), some (.inl a1), some (.inl q1.1), some (.inl q2.1)], [], q2.2) (35, [some (.inr (.inr 92)), some (.inl a1), some (.inl q1.1), some (.inl q2.1)], [.inl a1], q2.2) rfl ?_
        by_cases hc : ¬ a1 = 0
        · rw [if_pos hc] at h
          refine es (42, [some (.inr (.inr 92)), some (.inl a1), some (.inl q1.1), some (.inl q2.1)], [], q2.2) (congrArg some (if_pos hc)) ?_
          refine ev_runs 3 (42, [some (.inr (.inr 92)), some (.inl a1), some (.inl q1.1), some (.inl q2.1)], [], q2.2) (47, [some (.inr (.inr 92)), some (.inl a1), some (.inl q1.1), some (.inl q2.1)], [.inl q2.1, .inr (.inr 127)], q2.2) rfl ?_
          by_cases hc : 0 ≤ q2.1 ∧ q2.1 < 40
          · rw [if_pos hc] at h
            refine es (48, [some (.inr (.inr 92)), some (.inl a1), some (.inl q1.1), some (.inl q2.1)], [.inl (q2.2 127 q2.1.toNat)], q2.2) (if_pos hc) ?_
            refine ec 99 51 [.inl (q2.2 127 q2.1.toNat)] [] rfl (ev_Md_from (q2.2 127 q2.1.toNat) q2.2 _ rfl) ?_
            show Ev 227 51 [some (.inr (.inr 92)), some (.inl a1), some (.inl q1.1), some (.inl q2.1)] [.inl (Md_from (q2.2 127 q2.1.toNat))] q2.2 _ _
            cases h
            exact er rfl
          · rw [if_neg hc] at h; cases h
        · rw [if_neg hc] at h
          refine es (38, [some (.inr (.inr 92)), some (.inl a1), some (.inl q1.1), some (.inl q2.1)], [], q2.2) (congrArg some (if_neg hc)) ?_
          refine ev_runs 2 (38, [some (.inr (.inr 92)), some (.inl a1), some (.inl q1.1), some (.inl q2.1)], [], q2.2) (51, [some (.inr (.inr 92)), some (.inl a1), some (.inl q1.1), some (.inl q2.1)], [.inl q2.1], q2.2) rfl ?_
          cases h
          exact er rfl
    · rw [if_neg hc] at h
      refine es (22, [some (.inr (.inr 92)), some (.inl a1), some (.inl q1.1), none], [], q1.2) (congrArg some (if_neg hc)) ?_
      refine ev_runs 1 (22, [some (.inr (.inr 92)), some (.inl a1), some (.inl q1.1), none], [], q1.2) (23, [some (.inr (.inr 92)), some (.inl a1), some (.inl q1.1), none], [.inl q1.1], q1.2) rfl ?_
      cases h
      exact er rfl
  · rw [if_neg hc] at h
    refine es (10, [some (.inr (.inr 92)), some (.inl a1), none, none], [], g) (congrArg some (if_neg hc)) ?_
    refine ev_runs 1 (10, [some (.inr (.inr 92)), some (.inl a1), none, none], [], g) (12, [some (.inr (.inr 92)), some (.inl a1), none, none], [.inl (-2)], g) rfl ?_
    cases h
    exact er rfl
set_option maxRecDepth 100000 in
set_option maxHeartbeats 4000000 in
theorem ev_Bd_leftAtLast (g : Gx) (r : Int) (g' : Gx) (h : Bd_leftAtLast g = some (r, g')) : Ev 228 0 [some (.inr (.inr 78))] [] g (some (.inl r)) g' := by
  rw [Bd_leftAtLast] at h
  refine ev_runs 2 (0, [some (.inr (.inr 78))], [], g) (2, [some (.inr (.inr 78))], [.inr (.inr 78), .inr (.inr 78)], g) rfl ?_
  obtain ⟨q1, hq, h⟩ := Option.bind_eq_some_iff.mp h
  refine ec 222 5 [.inr (.inr 78)] [.inr (.inr 78)] rfl (ev_Bd_mostBorne g q1.1 q1.2 hq) ?_
  show Ev 228 5 [some (.inr (.inr 78))] [.inl q1.1, .inr (.inr 78)] q1.2 _ _
  obtain ⟨q2, hq, h⟩ := Option.bind_eq_some_iff.mp h
  refine ec 217 8 [.inr (.inr 78), .inl q1.1] [] rfl (ev_Bd_leftBy q1.1 q1.2 q2.1 q2.2 hq) ?_
  show Ev 228 8 [some (.inr (.inr 78))] [.inl q2.1] q2.2 _ _
  cases h
  exact er rfl
set_option maxRecDepth 100000 in
set_option maxHeartbeats 4000000 in
theorem ev_Lk_mostTelling_l7 (c1 : Int) (K7_45 : Int → Gx → Option (Int × Gx)) (hK7_45 : ∀ (x2 : Int) (g : Gx) (r : Int) (g' : Gx), K7_45 x2 g = some (r, g') → Ev 229 45 [none, none, some (.inl x2), none, none, none] [] g (some (.inl r)) g') : ∀ (n7 : Nat) (v2 v3 v4 : Int) (g : Gx) (r : Int) (g' : Gx), Lk_mostTelling_l7 c1 K7_45 n7 v2 v3 v4 g = some (r, g') → Ev 229 7 [some (.inr (.inr 50)), some (.inl c1), some (.inl v2), some (.inl v3), some (.inl v4), none] [] g (some (.inl r)) g' := by
  intro n7
  induction n7 with
  | zero => intro v2 v3 v4 g r g' h; cases h
  | succ n7 ih7 =>
    intro v2 v3 v4 g r g' h
    rw [Lk_mostTelling_l7] at h
    refine ev_runs 2 (7, [some (.inr (.inr 50)), some (.inl c1), some (.inl v2), some (.inl v3), some (.inl v4), none], [], g) (11, [some (.inr (.inr 50)), some (.inl c1), some (.inl v2), some (.inl v3), some (.inl v4), none], [.inl 6, .inl v4], g) rfl ?_
    by_cases hc : 6 ≤ v4
    · rw [if_pos hc] at h
      refine es (45, [some (.inr (.inr 50)), some (.inl c1), some (.inl v2), some (.inl v3), some (.inl v4), none], [], g) (congrArg some (if_pos hc)) ?_
      exact ev_le (L := [none, none, some (.inl v2), none, none, none]) (by simp [Lle]) (hK7_45 v2 g r g' h)
    · rw [if_neg hc] at h
      refine es (14, [some (.inr (.inr 50)), some (.inl c1), some (.inl v2), some (.inl v3), some (.inl v4), none], [], g) (congrArg some (if_neg hc)) ?_
      refine ev_runs 2 (14, [some (.inr (.inr 50)), some (.inl c1), some (.inl v2), some (.inl v3), some (.inl v4), none], [], g) (17, [some (.inr (.inr 50)), some (.inl c1), some (.inl v2), some (.inl v3), some (.inl v4), none], [.inl v4, .inr (.inr 50)], g) rfl ?_
      obtain ⟨g1, hq, h⟩ := Option.bind_eq_some_iff.mp h
      refine ec 94 20 [.inr (.inr 50), .inl v4] [] rfl (ev_Lk_load v4 g g1 hq) ?_
      show Ev 229 20 [some (.inr (.inr 50)), some (.inl c1), some (.inl v2), some (.inl v3), some (.inl v4), none] [] g1 _ _
      refine ev_runs 2 (20, [some (.inr (.inr 50)), some (.inl c1), some (.inl v2), some (.inl v3), some (.inl v4), none], [], g1) (22, [some (.inr (.inr 50)), some (.inl c1), some (.inl v2), some (.inl v3), some (.inl v4), none], [.inl c1, .inr (.inr 50)], g1) rfl ?_
      obtain ⟨q2, hq, h⟩ := Option.bind_eq_some_iff.mp h
      refine ec 108 25 [.inr (.inr 50), .inl c1] [] rfl (ev_Lk_unlike c1 g1 q2.1 q2.2 hq) ?_
      show Ev 229 25 [some (.inr (.inr 50)), some (.inl c1), some (.inl v2), some (.inl v3), some (.inl v4), none] [.inl q2.1] q2.2 _ _
      refine ev_runs 3 (25, [some (.inr (.inr 50)), some (.inl c1), some (.inl v2), some (.inl v3), some (.inl v4), none], [.inl q2.1], q2.2) (30, [some (.inr (.inr 50)), some (.inl c1), some (.inl v2), some (.inl v3), some (.inl v4), some (.inl q2.1)], [.inl v3, .inl q2.1], q2.2) rfl ?_
      by_cases hc : q2.1 ≤ v3
      · rw [if_pos hc] at h
        refine es (39, [some (.inr (.inr 50)), some (.inl c1), some (.inl v2), some (.inl v3), some (.inl v4), some (.inl q2.1)], [], q2.2) (congrArg some (if_pos hc)) ?_
        refine ev_runs 2 (39, [some (.inr (.inr 50)), some (.inl c1), some (.inl v2), some (.inl v3), some (.inl v4), some (.inl q2.1)], [], q2.2) (7, [some (.inr (.inr 50)), some (.inl c1), some (.inl v2), some (.inl v3), some (.inl (wr (v4 + 1))), some (.inl q2.1)], [], q2.2) rfl ?_
        exact ev_le (L := [some (.inr (.inr 50)), some (.inl c1), some (.inl v2), some (.inl v3), some (.inl (wr (v4 + 1))), none]) (by simp [Lle]) (ih7 v2 v3 (wr (v4 + 1)) q2.2 r g' h)
      · rw [if_neg hc] at h
        refine es (33, [some (.inr (.inr 50)), some (.inl c1), some (.inl v2), some (.inl v3), some (.inl v4), some (.inl q2.1)], [], q2.2) (congrArg some (if_neg hc)) ?_
        refine ev_runs 6 (33, [some (.inr (.inr 50)), some (.inl c1), some (.inl v2), some (.inl v3), some (.inl v4), some (.inl q2.1)], [], q2.2) (7, [some (.inr (.inr 50)), some (.inl c1), some (.inl v4), some (.inl q2.1), some (.inl (wr (v4 + 1))), some (.inl q2.1)], [], q2.2) rfl ?_
        exact ev_le (L := [some (.inr (.inr 50)), some (.inl c1), some (.inl v4), some (.inl q2.1), some (.inl (wr (v4 + 1))), none]) (by simp [Lle]) (ih7 v4 q2.1 (wr (v4 + 1)) q2.2 r g' h)
set_option maxRecDepth 100000 in
set_option maxHeartbeats 4000000 in
theorem ev_Lk_mostTelling (a1 : Int) (g : Gx) (r : Int) (g' : Gx) (h : Lk_mostTelling a1 g = some (r, g')) : Ev 229 0 [some (.inr (.inr 50)), some (.inl a1), none, none, none, none] [] g (some (.inl r)) g' := by
  rw [Lk_mostTelling] at h
  refine ev_runs 6 (0, [some (.inr (.inr 50)), some (.inl a1), none, none, none, none], [], g) (7, [some (.inr (.inr 50)), some (.inl a1), some (.inl 0), some (.inl 0), some (.inl 0), none], [], g) rfl ?_
  refine ev_le (L := [some (.inr (.inr 50)), some (.inl a1), some (.inl 0), some (.inl 0), some (.inl 0), none]) (by simp [Lle]) ?_
  refine ev_Lk_mostTelling_l7 a1 _ ?_ fu 0 0 0 g r g' h
  · intro x3 g4 r g' h
    refine ev_runs 1 (45, [none, none, some (.inl x3), none, none, none], [], g4) (46, [none, none, some (.inl x3), none, none, none], [.inl x3], g4) rfl ?_
    cases h
    exact er rfl
set_option maxRecDepth 100000 in
set_option maxHeartbeats 4000000 in
theorem ev_Op_ask (g : Gx) (r : Int) (g' : Gx) (h : Op_ask g = some (r, g')) : Ev 230 0 [some (.inr (.inr 0)), none, none] [] g (some (.inl r)) g' := by
  rw [Op_ask] at h
  refine ev_runs 2 (0, [some (.inr (.inr 0)), none, none], [], g) (2, [some (.inr (.inr 0)), none, none], [.inl 0, .inr (.inr 0)], g) rfl ?_
  obtain ⟨q1, hq, h⟩ := Option.bind_eq_some_iff.mp h
  refine ec 75 5 [.inr (.inr 0), .inl 0] [] rfl (ev_Op_hindrance 0 g q1.1 q1.2 hq) ?_
  show Ev 230 5 [some (.inr (.inr 0)), none, none] [.inl q1.1] q1.2 _ _
  refine ev_runs 2 (5, [some (.inr (.inr 0)), none, none], [.inl q1.1], q1.2) (7, [some (.inr (.inr 0)), some (.inl q1.1), none], [.inl q1.1], q1.2) rfl ?_
  by_cases hc : q1.1 = 0
  · rw [if_pos hc] at h
    refine es (22, [some (.inr (.inr 0)), some (.inl q1.1), none], [], q1.2) (congrArg some (if_pos hc)) ?_
    refine ev_runs 2 (22, [some (.inr (.inr 0)), some (.inl q1.1), none], [], q1.2) (26, [some (.inr (.inr 0)), some (.inl q1.1), none], [.inr (.inr 78)], q1.2) rfl ?_
    obtain ⟨g2, hq, h⟩ := Option.bind_eq_some_iff.mp h
    refine ec 216 29 [.inr (.inr 78)] [] rfl (ev_Bd_compare q1.2 g2 hq) ?_
    show Ev 230 29 [some (.inr (.inr 0)), some (.inl q1.1), none] [] g2 _ _
    refine ev_runs 2 (29, [some (.inr (.inr 0)), some (.inl q1.1), none], [], g2) (33, [some (.inr (.inr 0)), some (.inl q1.1), none], [.inr (.inr 78)], g2) rfl ?_
    obtain ⟨q3, hq, h⟩ := Option.bind_eq_some_iff.mp h
    refine ec 228 36 [.inr (.inr 78)] [] rfl (ev_Bd_leftAtLast g2 q3.1 q3.2 hq) ?_
    show Ev 230 36 [some (.inr (.inr 0)), some (.inl q1.1), none] [.inl q3.1] q3.2 _ _
    refine ev_runs 2 (36, [some (.inr (.inr 0)), some (.inl q1.1), none], [.inl q3.1], q3.2) (38, [some (.inr (.inr 0)), some (.inl q1.1), some (.inl q3.1)], [.inl q3.1], q3.2) rfl ?_
    refine ec 58 41 [.inl q3.1] [] rfl (ev_Ji_bitCount q3.1 q3.2 _ rfl) ?_
    show Ev 230 41 [some (.inr (.inr 0)), some (.inl q1.1), some (.inl q3.1)] [.inl (Ji_bitCount q3.1)] q3.2 _ _
    refine ev_runs 1 (41, [some (.inr (.inr 0)), some (.inl q1.1), some (.inl q3.1)], [.inl (Ji_bitCount q3.1)], q3.2) (42, [some (.inr (.inr 0)), some (.inl q1.1), some (.inl q3.1)], [.inl 1, .inl (Ji_bitCount q3.1)], q3.2) rfl ?_
    by_cases hc : ¬ (Ji_bitCount q3.1) = 1
    · rw [if_pos hc] at h
      refine es (49, [some (.inr (.inr 0)), some (.inl q1.1), some (.inl q3.1)], [], q3.2) (congrArg some (if_pos hc)) ?_
      refine ev_runs 3 (49, [some (.inr (.inr 0)), some (.inl q1.1), some (.inl q3.1)], [], q3.2) (54, [some (.inr (.inr 0)), some (.inl q1.1), some (.inl q3.1)], [.inl q3.1, .inr (.inr 50)], q3.2) rfl ?_
      obtain ⟨q4, hq, h⟩ := Option.bind_eq_some_iff.mp h
      refine ec 229 57 [.inr (.inr 50), .inl q3.1] [] rfl (ev_Lk_mostTelling q3.1 q3.2 q4.1 q4.2 hq) ?_
      show Ev 230 57 [some (.inr (.inr 0)), some (.inl q1.1), some (.inl q3.1)] [.inl q4.1] q4.2 _ _
      cases h
      exact er rfl
    · rw [if_neg hc] at h
      refine es (45, [some (.inr (.inr 0)), some (.inl q1.1), some (.inl q3.1)], [], q3.2) (congrArg some (if_neg hc)) ?_
      refine ev_runs 2 (45, [some (.inr (.inr 0)), some (.inl q1.1), some (.inl q3.1)], [], q3.2) (57, [some (.inr (.inr 0)), some (.inl q1.1), some (.inl q3.1)], [.inl (-1)], q3.2) rfl ?_
      cases h
      exact er rfl
  · rw [if_neg hc] at h
    refine es (10, [some (.inr (.inr 0)), some (.inl q1.1), none], [], q1.2) (congrArg some (if_neg hc)) ?_
    refine ev_runs 2 (10, [some (.inr (.inr 0)), some (.inl q1.1), none], [], q1.2) (13, [some (.inr (.inr 0)), some (.inl q1.1), none], [.inl (-4), .inl q1.1], q1.2) rfl ?_
    by_cases hc : ¬ q1.1 = (-4)
    · rw [if_pos hc] at h
      refine es (20, [some (.inr (.inr 0)), some (.inl q1.1), none], [], q1.2) (congrArg some (if_pos hc)) ?_
      refine ev_runs 1 (20, [some (.inr (.inr 0)), some (.inl q1.1), none], [], q1.2) (21, [some (.inr (.inr 0)), some (.inl q1.1), none], [.inl q1.1], q1.2) rfl ?_
      cases h
      exact er rfl
    · rw [if_neg hc] at h
      refine es (16, [some (.inr (.inr 0)), some (.inl q1.1), none], [], q1.2) (congrArg some (if_neg hc)) ?_
      refine ev_runs 2 (16, [some (.inr (.inr 0)), some (.inl q1.1), none], [], q1.2) (21, [some (.inr (.inr 0)), some (.inl q1.1), none], [.inl (-1)], q1.2) rfl ?_
      cases h
      exact er rfl
