/-! The small machine does what the functions say. Printed by wip/gen/gen_parts.py. -/
set_option maxRecDepth 100000 in
set_option maxHeartbeats 4000000 in
theorem ev_Md_looksOf_l34 (c1 : Int) (c2 : Int) (c3 : Int) (c4 : Int) (K34_81 : Int → Gx → Option (Int × Gx)) (hK34_81 : ∀ (x5 : Int) (g : Gx) (r : Int) (g' : Gx), K34_81 x5 g = some (r, g') → Ev 112 81 [some (.inr (.inr 92)), some (.inl c1), some (.inl c2), some (.inl c3), some (.inl c4), some (.inl x5), none] [] g (some (.inl r)) g') : ∀ (n34 : Nat) (v5 v6 : Int) (g : Gx) (r : Int) (g' : Gx), Md_looksOf_l34 c1 c2 c3 c4 K34_81 n34 v5 v6 g = some (r, g') → Ev 112 34 [some (.inr (.inr 92)), some (.inl c1), some (.inl c2), some (.inl c3), some (.inl c4), some (.inl v5), some (.inl v6)] [] g (some (.inl r)) g' := by
  intro n34
  induction n34 with
  | zero => intro v5 v6 g r g' h; cases h
  | succ n34 ih34 =>
    intro v5 v6 g r g' h
    rw [Md_looksOf_l34] at h
    refine ev_runs 2 (34, [some (.inr (.inr 92)), some (.inl c1), some (.inl c2), some (.inl c3), some (.inl c4), some (.inl v5), some (.inl v6)], [], g) (38, [some (.inr (.inr 92)), some (.inl c1), some (.inl c2), some (.inl c3), some (.inl c4), some (.inl v5), some (.inl v6)], [.inl c4, .inl v6], g) rfl ?_
    by_cases hc : c4 ≤ v6
    · rw [if_pos hc] at h
      refine es (81, [some (.inr (.inr 92)), some (.inl c1), some (.inl c2), some (.inl c3), some (.inl c4), some (.inl v5), some (.inl v6)], [], g) (congrArg some (if_pos hc)) ?_
      exact ev_le (L := [some (.inr (.inr 92)), some (.inl c1), some (.inl c2), some (.inl c3), some (.inl c4), some (.inl v5), none]) (by simp [Lle]) (hK34_81 v5 g r g' h)
    · rw [if_neg hc] at h
      refine es (41, [some (.inr (.inr 92)), some (.inl c1), some (.inl c2), some (.inl c3), some (.inl c4), some (.inl v5), some (.inl v6)], [], g) (congrArg some (if_neg hc)) ?_
      refine ev_runs 1 (41, [some (.inr (.inr 92)), some (.inl c1), some (.inl c2), some (.inl c3), some (.inl c4), some (.inl v5), some (.inl v6)], [], g) (43, [some (.inr (.inr 92)), some (.inl c1), some (.inl c2), some (.inl c3), some (.inl c4), some (.inl v5), some (.inl v6)], [.inl v5], g) rfl ?_
      by_cases hc : v5 = 0
      · rw [if_pos hc] at h
        refine es (72, [some (.inr (.inr 92)), some (.inl c1), some (.inl c2), some (.inl c3), some (.inl c4), some (.inl v5), some (.inl v6)], [], g) (congrArg some (if_pos hc)) ?_
        refine ev_runs 4 (72, [some (.inr (.inr 92)), some (.inl c1), some (.inl c2), some (.inl c3), some (.inl c4), some (.inl v5), some (.inl v6)], [], g) (34, [some (.inr (.inr 92)), some (.inl c1), some (.inl c2), some (.inl c3), some (.inl c4), some (.inl 0), some (.inl (wr (v6 + 1)))], [], g) rfl ?_
        exact ev_le (L := [some (.inr (.inr 92)), some (.inl c1), some (.inl c2), some (.inl c3), some (.inl c4), some (.inl 0), some (.inl (wr (v6 + 1)))]) (by simp [Lle]) (ih34 0 (wr (v6 + 1)) g r g' h)
      · rw [if_neg hc] at h
        refine es (46, [some (.inr (.inr 92)), some (.inl c1), some (.inl c2), some (.inl c3), some (.inl c4), some (.inl v5), some (.inl v6)], [], g) (congrArg some (if_neg hc)) ?_
        refine ev_runs 5 (46, [some (.inr (.inr 92)), some (.inl c1), some (.inl c2), some (.inl c3), some (.inl c4), some (.inl v5), some (.inl v6)], [], g) (52, [some (.inr (.inr 92)), some (.inl c1), some (.inl c2), some (.inl c3), some (.inl c4), some (.inl v5), some (.inl v6)], [.inl (jand (jshr c2 v6) 1)], g) rfl ?_
        by_cases hc : (jand (jshr c2 v6) 1) = 0
        · rw [if_pos hc] at h
          refine es (68, [some (.inr (.inr 92)), some (.inl c1), some (.inl c2), some (.inl c3), some (.inl c4), some (.inl v5), some (.inl v6)], [], g) (congrArg some (if_pos hc)) ?_
          refine ev_runs 5 (68, [some (.inr (.inr 92)), some (.inl c1), some (.inl c2), some (.inl c3), some (.inl c4), some (.inl v5), some (.inl v6)], [], g) (34, [some (.inr (.inr 92)), some (.inl c1), some (.inl c2), some (.inl c3), some (.inl c4), some (.inl 1), some (.inl (wr (v6 + 1)))], [], g) rfl ?_
          exact ev_le (L := [some (.inr (.inr 92)), some (.inl c1), some (.inl c2), some (.inl c3), some (.inl c4), some (.inl 1), some (.inl (wr (v6 + 1)))]) (by simp [Lle]) (ih34 1 (wr (v6 + 1)) g r g' h)
        · rw [if_neg hc] at h
          refine es (55, [some (.inr (.inr 92)), some (.inl c1), some (.inl c2), some (.inl c3), some (.inl c4), some (.inl v5), some (.inl v6)], [], g) (congrArg some (if_neg hc)) ?_
          refine ev_runs 4 (55, [some (.inr (.inr 92)), some (.inl c1), some (.inl c2), some (.inl c3), some (.inl c4), some (.inl v5), some (.inl v6)], [], g) (61, [some (.inr (.inr 92)), some (.inl c1), some (.inl c2), some (.inl c3), some (.inl c4), some (.inl v5), some (.inl v6)], [.inl c4, .inl v6, .inl c1, .inr (.inr 92)], g) rfl ?_
          obtain ⟨q1, hq, h⟩ := Option.bind_eq_some_iff.mp h
          refine ec 111 64 [.inr (.inr 92), .inl c1, .inl v6, .inl c4] [] rfl (ev_Md_unlike c1 v6 c4 g q1.1 q1.2 hq) ?_
          show Ev 112 64 [some (.inr (.inr 92)), some (.inl c1), some (.inl c2), some (.inl c3), some (.inl c4), some (.inl v5), some (.inl v6)] [.inl q1.1] q1.2 _ _
          refine ev_runs 1 (64, [some (.inr (.inr 92)), some (.inl c1), some (.inl c2), some (.inl c3), some (.inl c4), some (.inl v5), some (.inl v6)], [.inl q1.1], q1.2) (65, [some (.inr (.inr 92)), some (.inl c1), some (.inl c2), some (.inl c3), some (.inl c4), some (.inl v5), some (.inl v6)], [.inl (-1), .inl q1.1], q1.2) rfl ?_
          by_cases hc : q1.1 = (-1)
          · rw [if_pos hc] at h
            refine es (72, [some (.inr (.inr 92)), some (.inl c1), some (.inl c2), some (.inl c3), some (.inl c4), some (.inl v5), some (.inl v6)], [], q1.2) (congrArg some (if_pos hc)) ?_
            refine ev_runs 4 (72, [some (.inr (.inr 92)), some (.inl c1), some (.inl c2), some (.inl c3), some (.inl c4), some (.inl v5), some (.inl v6)], [], q1.2) (34, [some (.inr (.inr 92)), some (.inl c1), some (.inl c2), some (.inl c3), some (.inl c4), some (.inl 0), some (.inl (wr (v6 + 1)))], [], q1.2) rfl ?_
            exact ev_le (L := [some (.inr (.inr 92)), some (.inl c1), some (.inl c2), some (.inl c3), some (.inl c4), some (.inl 0), some (.inl (wr (v6 + 1)))]) (by simp [Lle]) (ih34 0 (wr (v6 + 1)) q1.2 r g' h)
          · rw [if_neg hc] at h
            refine es (68, [some (.inr (.inr 92)), some (.inl c1), some (.inl c2), some (.inl c3), some (.inl c4), some (.inl v5), some (.inl v6)], [], q1.2) (congrArg some (if_neg hc)) ?_
            refine ev_runs 5 (68, [some (.inr (.inr 92)), some (.inl c1), some (.inl c2), some (.inl c3), some (.inl c4), some (.inl v5), some (.inl v6)], [], q1.2) (34, [some (.inr (.inr 92)), some (.inl c1), some (.inl c2), some (.inl c3), some (.inl c4), some (.inl 1), some (.inl (wr (v6 + 1)))], [], q1.2) rfl ?_
            exact ev_le (L := [some (.inr (.inr 92)), some (.inl c1), some (.inl c2), some (.inl c3), some (.inl c4), some (.inl 1), some (.inl (wr (v6 + 1)))]) (by simp [Lle]) (ih34 1 (wr (v6 + 1)) q1.2 r g' h)
set_option maxRecDepth 100000 in
set_option maxHeartbeats 4000000 in
theorem ev_Md_looksOf_l5 (c1 : Int) (c2 : Int) (K5_100 : Int → Gx → Option (Int × Gx)) (hK5_100 : ∀ (x3 : Int) (g : Gx) (r : Int) (g' : Gx), K5_100 x3 g = some (r, g') → Ev 112 100 [none, none, none, some (.inl x3), none, none, none] [] g (some (.inl r)) g') : ∀ (n5 : Nat) (v3 v4 : Int) (g : Gx) (r : Int) (g' : Gx), Md_looksOf_l5 c1 c2 K5_100 n5 v3 v4 g = some (r, g') → Ev 112 5 [some (.inr (.inr 92)), some (.inl c1), some (.inl c2), some (.inl v3), some (.inl v4), none, none] [] g (some (.inl r)) g' := by
  intro n5
  induction n5 with
  | zero => intro v3 v4 g r g' h; cases h
  | succ n5 ih5 =>
    intro v3 v4 g r g' h
    rw [Md_looksOf_l5] at h
    refine ev_runs 3 (5, [some (.inr (.inr 92)), some (.inl c1), some (.inl c2), some (.inl v3), some (.inl v4), none, none], [], g) (11, [some (.inr (.inr 92)), some (.inl c1), some (.inl c2), some (.inl v3), some (.inl v4), none, none], [.inl (g 92 26), .inl v4], g) rfl ?_
    by_cases hc : (g 92 26) ≤ v4
    · rw [if_pos hc] at h
      refine es (100, [some (.inr (.inr 92)), some (.inl c1), some (.inl c2), some (.inl v3), some (.inl v4), none, none], [], g) (congrArg some (if_pos hc)) ?_
      exact ev_le (L := [none, none, none, some (.inl v3), none, none, none]) (by simp [Lle]) (hK5_100 v3 g r g' h)
    · rw [if_neg hc] at h
      refine es (14, [some (.inr (.inr 92)), some (.inl c1), some (.inl c2), some (.inl v3), some (.inl v4), none, none], [], g) (congrArg some (if_neg hc)) ?_
      refine ev_runs 6 (14, [some (.inr (.inr 92)), some (.inl c1), some (.inl c2), some (.inl v3), some (.inl v4), none, none], [], g) (21, [some (.inr (.inr 92)), some (.inl c1), some (.inl c2), some (.inl v3), some (.inl v4), none, none], [.inl 1, .inl (jand (jshr c2 v4) 1)], g) rfl ?_
      by_cases hc : ¬ (jand (jshr c2 v4) 1) = 1
      · rw [if_pos hc] at h
        refine es (28, [some (.inr (.inr 92)), some (.inl c1), some (.inl c2), some (.inl v3), some (.inl v4), none, none], [], g) (congrArg some (if_pos hc)) ?_
        refine ev_runs 4 (28, [some (.inr (.inr 92)), some (.inl c1), some (.inl c2), some (.inl v3), some (.inl v4), none, none], [], g) (34, [some (.inr (.inr 92)), some (.inl c1), some (.inl c2), some (.inl v3), some (.inl v4), some (.inl 0), some (.inl 0)], [], g) rfl ?_
        refine ev_le (L := [some (.inr (.inr 92)), some (.inl c1), some (.inl c2), some (.inl v3), some (.inl v4), some (.inl 0), some (.inl 0)]) (by simp [Lle]) ?_
        refine ev_Md_looksOf_l34 c1 c2 v3 v4 _ ?_ fu 0 0 g r g' h
        · intro x2 g3 r g' h
          refine ev_runs 2 (81, [some (.inr (.inr 92)), some (.inl c1), some (.inl c2), some (.inl v3), some (.inl v4), some (.inl x2), none], [], g3) (84, [some (.inr (.inr 92)), some (.inl c1), some (.inl c2), some (.inl v3), some (.inl v4), some (.inl x2), none], [.inl x2, .inl v3], g3) rfl ?_
          by_cases hc : x2 = 0
          · rw [if_pos hc] at h
            refine es (91, [some (.inr (.inr 92)), some (.inl c1), some (.inl c2), some (.inl v3), some (.inl v4), some (.inl x2), none], [.inl v3], g3) (congrArg some (if_pos hc)) ?_
            refine ev_runs 5 (91, [some (.inr (.inr 92)), some (.inl c1), some (.inl c2), some (.inl v3), some (.inl v4), some (.inl x2), none], [.inl v3], g3) (5, [some (.inr (.inr 92)), some (.inl c1), some (.inl c2), some (.inl (wr (v3 + 0))), some (.inl (wr (v4 + 1))), some (.inl x2), none], [], g3) rfl ?_
            exact ev_le (L := [some (.inr (.inr 92)), some (.inl c1), some (.inl c2), some (.inl (wr (v3 + 0))), some (.inl (wr (v4 + 1))), none, none]) (by simp [Lle]) (ih5 (wr (v3 + 0)) (wr (v4 + 1)) g3 r g' h)
          · rw [if_neg hc] at h
            refine es (87, [some (.inr (.inr 92)), some (.inl c1), some (.inl c2), some (.inl v3), some (.inl v4), some (.inl x2), none], [.inl v3], g3) (congrArg some (if_neg hc)) ?_
            refine ev_runs 6 (87, [some (.inr (.inr 92)), some (.inl c1), some (.inl c2), some (.inl v3), some (.inl v4), some (.inl x2), none], [.inl v3], g3) (5, [some (.inr (.inr 92)), some (.inl c1), some (.inl c2), some (.inl (wr (v3 + 1))), some (.inl (wr (v4 + 1))), some (.inl x2), none], [], g3) rfl ?_
            exact ev_le (L := [some (.inr (.inr 92)), some (.inl c1), some (.inl c2), some (.inl (wr (v3 + 1))), some (.inl (wr (v4 + 1))), none, none]) (by simp [Lle]) (ih5 (wr (v3 + 1)) (wr (v4 + 1)) g3 r g' h)
      · rw [if_neg hc] at h
        refine es (24, [some (.inr (.inr 92)), some (.inl c1), some (.inl c2), some (.inl v3), some (.inl v4), none, none], [], g) (congrArg some (if_neg hc)) ?_
        refine ev_runs 5 (24, [some (.inr (.inr 92)), some (.inl c1), some (.inl c2), some (.inl v3), some (.inl v4), none, none], [], g) (34, [some (.inr (.inr 92)), some (.inl c1), some (.inl c2), some (.inl v3), some (.inl v4), some (.inl 1), some (.inl 0)], [], g) rfl ?_
        refine ev_le (L := [some (.inr (.inr 92)), some (.inl c1), some (.inl c2), some (.inl v3), some (.inl v4), some (.inl 1), some (.inl 0)]) (by simp [Lle]) ?_
        refine ev_Md_looksOf_l34 c1 c2 v3 v4 _ ?_ fu 1 0 g r g' h
        · intro x4 g5 r g' h
          refine ev_runs 2 (81, [some (.inr (.inr 92)), some (.inl c1), some (.inl c2), some (.inl v3), some (.inl v4), some (.inl x4), none], [], g5) (84, [some (.inr (.inr 92)), some (.inl c1), some (.inl c2), some (.inl v3), some (.inl v4), some (.inl x4), none], [.inl x4, .inl v3], g5) rfl ?_
          by_cases hc : x4 = 0
          · rw [if_pos hc] at h
            refine es (91, [some (.inr (.inr 92)), some (.inl c1), some (.inl c2), some (.inl v3), some (.inl v4), some (.inl x4), none], [.inl v3], g5) (congrArg some (if_pos hc)) ?_
            refine ev_runs 5 (91, [some (.inr (.inr 92)), some (.inl c1), some (.inl c2), some (.inl v3), some (.inl v4), some (.inl x4), none], [.inl v3], g5) (5, [some (.inr (.inr 92)), some (.inl c1), some (.inl c2), some (.inl (wr (v3 + 0))), some (.inl (wr (v4 + 1))), some (.inl x4), none], [], g5) rfl ?_
            exact ev_le (L := [some (.inr (.inr 92)), some (.inl c1), some (.inl c2), some (.inl (wr (v3 + 0))), some (.inl (wr (v4 + 1))), none, none]) (by simp [Lle]) (ih5 (wr (v3 + 0)) (wr (v4 + 1)) g5 r g' h)
          · rw [if_neg hc] at h
            refine es (87, [some (.inr (.inr 92)), some (.inl c1), some (.inl c2), some (.inl v3), some (.inl v4), some (.inl x4), none], [.inl v3], g5) (congrArg some (if_neg hc)) ?_
            refine ev_runs 6 (87, [some (.inr (.inr 92)), some (.inl c1), some (.inl c2), some (.inl v3), some (.inl v4), some (.inl x4), none], [.inl v3], g5) (5, [some (.inr (.inr 92)), some (.inl c1), some (.inl c2), some (.inl (wr (v3 + 1))), some (.inl (wr (v4 + 1))), some (.inl x4), none], [], g5) rfl ?_
            exact ev_le (L := [some (.inr (.inr 92)), some (.inl c1), some (.inl c2), some (.inl (wr (v3 + 1))), some (.inl (wr (v4 + 1))), none, none]) (by simp [Lle]) (ih5 (wr (v3 + 1)) (wr (v4 + 1)) g5 r g' h)
set_option maxRecDepth 100000 in
set_option maxHeartbeats 4000000 in
theorem ev_Md_looksOf (a1 a2 : Int) (g : Gx) (r : Int) (g' : Gx) (h : Md_looksOf a1 a2 g = some (r, g')) : Ev 112 0 [some (.inr (.inr 92)), some (.inl a1), some (.inl a2), none, none, none, none] [] g (some (.inl r)) g' := by
  rw [Md_looksOf] at h
  refine ev_runs 4 (0, [some (.inr (.inr 92)), some (.inl a1), some (.inl a2), none, none, none, none], [], g) (5, [some (.inr (.inr 92)), some (.inl a1), some (.inl a2), some (.inl 0), some (.inl 0), none, none], [], g) rfl ?_
  refine ev_le (L := [some (.inr (.inr 92)), some (.inl a1), some (.inl a2), some (.inl 0), some (.inl 0), none, none]) (by simp [Lle]) ?_
  refine ev_Md_looksOf_l5 a1 a2 _ ?_ fu 0 0 g r g' h
  · intro x6 g7 r g' h
    refine ev_runs 1 (100, [none, none, none, some (.inl x6), none, none, none], [], g7) (101, [none, none, none, some (.inl x6), none, none, none], [.inl x6], g7) rfl ?_
    cases h
    exact er rfl
set_option maxRecDepth 100000 in
set_option maxHeartbeats 4000000 in
theorem ev_Md_looks (a1 : Int) (g : Gx) (r : Int) (g' : Gx) (h : Md_looks a1 g = some (r, g')) : Ev 113 0 [some (.inr (.inr 92)), some (.inl a1), none] [] g (some (.inl r)) g' := by
  rw [Md_looks] at h
  refine ev_runs 1 (0, [some (.inr (.inr 92)), some (.inl a1), none], [], g) (1, [some (.inr (.inr 92)), some (.inl a1), none], [.inl a1], g) rfl ?_
  refine ec 98 4 [.inl a1] [] rfl (ev_Md_isOne a1 g _ rfl) ?_
  show Ev 113 4 [some (.inr (.inr 92)), some (.inl a1), none] [.inl (Md_isOne a1)] g _ _
  by_cases hc : ¬ (Md_isOne a1) = 0
  · rw [if_pos hc] at h
    refine es (10, [some (.inr (.inr 92)), some (.inl a1), none], [], g) (congrArg some (if_pos hc)) ?_
    refine ev_runs 1 (10, [some (.inr (.inr 92)), some (.inl a1), none], [], g) (11, [some (.inr (.inr 92)), some (.inl a1), none], [.inr (.inr 92)], g) rfl ?_
    obtain ⟨q1, hq, h⟩ := Option.bind_eq_some_iff.mp h
    refine ec 81 14 [.inr (.inr 92)] [] rfl (ev_Md_without g q1.1 q1.2 hq) ?_
    show Ev 113 14 [some (.inr (.inr 92)), some (.inl a1), none] [.inl q1.1] q1.2 _ _
    refine ev_runs 2 (14, [some (.inr (.inr 92)), some (.inl a1), none], [.inl q1.1], q1.2) (16, [some (.inr (.inr 92)), some (.inl a1), some (.inl q1.1)], [.inl q1.1], q1.2) rfl ?_
    by_cases hc : q1.1 = 0
    · rw [if_pos hc] at h
      refine es (21, [some (.inr (.inr 92)), some (.inl a1), some (.inl q1.1)], [], q1.2) (congrArg some (if_pos hc)) ?_
      refine ev_runs 1 (21, [some (.inr (.inr 92)), some (.inl a1), some (.inl q1.1)], [], q1.2) (22, [some (.inr (.inr 92)), some (.inl a1), some (.inl q1.1)], [.inr (.inr 92)], q1.2) rfl ?_
      obtain ⟨g2, hq, h⟩ := Option.bind_eq_some_iff.mp h
      refine ec 101 25 [.inr (.inr 92)] [] rfl (ev_Md_findLooks q1.2 g2 hq) ?_
      show Ev 113 25 [some (.inr (.inr 92)), some (.inl a1), some (.inl q1.1)] [] g2 _ _
      refine ev_runs 3 (25, [some (.inr (.inr 92)), some (.inl a1), some (.inl q1.1)], [], g2) (28, [some (.inr (.inr 92)), some (.inl a1), some (.inl q1.1)], [.inr (.inr 92), .inl a1, .inr (.inr 92)], g2) rfl ?_
      refine ec 110 31 [.inr (.inr 92)] [.inl a1, .inr (.inr 92)] rfl (ev_Md_allBits g2 _ rfl) ?_
      show Ev 113 31 [some (.inr (.inr 92)), some (.inl a1), some (.inl q1.1)] [.inl (Md_allBits g2), .inl a1, .inr (.inr 92)] g2 _ _
      obtain ⟨q3, hq, h⟩ := Option.bind_eq_some_iff.mp h
      refine ec 112 34 [.inr (.inr 92), .inl a1, .inl (Md_allBits g2)] [] rfl (ev_Md_looksOf a1 (Md_allBits g2) g2 q3.1 q3.2 hq) ?_
      show Ev 113 34 [some (.inr (.inr 92)), some (.inl a1), some (.inl q1.1)] [.inl q3.1] q3.2 _ _
      cases h
      exact er rfl
    · rw [if_neg hc] at h
      refine es (19, [some (.inr (.inr 92)), some (.inl a1), some (.inl q1.1)], [], q1.2) (congrArg some (if_neg hc)) ?_
      refine ev_runs 1 (19, [some (.inr (.inr 92)), some (.inl a1), some (.inl q1.1)], [], q1.2) (20, [some (.inr (.inr 92)), some (.inl a1), some (.inl q1.1)], [.inl q1.1], q1.2) rfl ?_
      cases h
      exact er rfl
  · rw [if_neg hc] at h
    refine es (7, [some (.inr (.inr 92)), some (.inl a1), none], [], g) (congrArg some (if_neg hc)) ?_
    refine ev_runs 1 (7, [some (.inr (.inr 92)), some (.inl a1), none], [], g) (9, [some (.inr (.inr 92)), some (.inl a1), none], [.inl (-2)], g) rfl ?_
    cases h
    exact er rfl
set_option maxRecDepth 100000 in
set_option maxHeartbeats 4000000 in
theorem ev_Hi_parter_l19 (c3 : Int) (K19_56 : Int → Gx → Option (Int × Gx)) (hK19_56 : ∀ (x4 : Int) (g : Gx) (r : Int) (g' : Gx), K19_56 x4 g = some (r, g') → Ev 114 56 [some (.inr (.inr 33)), none, none, none, some (.inl x4), none] [] g (some (.inl r)) g') : ∀ (n19 : Nat) (v4 v5 : Int) (g : Gx) (r : Int) (g' : Gx), Hi_parter_l19 c3 K19_56 n19 v4 v5 g = some (r, g') → Ev 114 19 [some (.inr (.inr 33)), none, none, some (.inl c3), some (.inl v4), some (.inl v5)] [] g (some (.inl r)) g' := by
  intro n19
  induction n19 with
  | zero => intro v4 v5 g r g' h; cases h
  | succ n19 ih19 =>
    intro v4 v5 g r g' h
    rw [Hi_parter_l19] at h
    refine ev_runs 2 (19, [some (.inr (.inr 33)), none, none, some (.inl c3), some (.inl v4), some (.inl v5)], [], g) (22, [some (.inr (.inr 33)), none, none, some (.inl c3), some (.inl v4), some (.inl v5)], [.inl c3, .inl v5], g) rfl ?_
    by_cases hc : c3 ≤ v5
    · rw [if_pos hc] at h
      refine es (56, [some (.inr (.inr 33)), none, none, some (.inl c3), some (.inl v4), some (.inl v5)], [], g) (congrArg some (if_pos hc)) ?_
      exact ev_le (L := [some (.inr (.inr 33)), none, none, none, some (.inl v4), none]) (by simp [Lle]) (hK19_56 v4 g r g' h)
    · rw [if_neg hc] at h
      refine es (25, [some (.inr (.inr 33)), none, none, some (.inl c3), some (.inl v4), some (.inl v5)], [], g) (congrArg some (if_neg hc)) ?_
      refine ev_runs 3 (25, [some (.inr (.inr 33)), none, none, some (.inl c3), some (.inl v4), some (.inl v5)], [], g) (31, [some (.inr (.inr 33)), none, none, some (.inl c3), some (.inl v4), some (.inl v5)], [.inl v5, .inr (.inr 42)], g) rfl ?_
      refine ec 13 34 [.inr (.inr 42), .inl v5] [] rfl (ev_Row_at rfl rfl _ _) ?_
      show Ev 114 34 [some (.inr (.inr 33)), none, none, some (.inl c3), some (.inl v4), some (.inl v5)] [.inl (rat g 43 30 v5)] g _ _
      refine ev_runs 3 (34, [some (.inr (.inr 33)), none, none, some (.inl c3), some (.inl v4), some (.inl v5)], [.inl (rat g 43 30 v5)], g) (40, [some (.inr (.inr 33)), none, none, some (.inl c3), some (.inl v4), some (.inl v5)], [.inl v4, .inr (.inr 42), .inl (rat g 43 30 v5)], g) rfl ?_
      refine ec 13 43 [.inr (.inr 42), .inl v4] [.inl (rat g 43 30 v5)] rfl (ev_Row_at rfl rfl _ _) ?_
      show Ev 114 43 [some (.inr (.inr 33)), none, none, some (.inl c3), some (.inl v4), some (.inl v5)] [.inl (rat g 43 30 v4), .inl (rat g 43 30 v5)] g _ _
      by_cases hc : (rat g 43 30 v4) ≤ (rat g 43 30 v5)
      · rw [if_pos hc] at h
        refine es (50, [some (.inr (.inr 33)), none, none, some (.inl c3), some (.inl v4), some (.inl v5)], [], g) (congrArg some (if_pos hc)) ?_
        refine ev_runs 2 (50, [some (.inr (.inr 33)), none, none, some (.inl c3), some (.inl v4), some (.inl v5)], [], g) (19, [some (.inr (.inr 33)), none, none, some (.inl c3), some (.inl v4), some (.inl (wr (v5 + 1)))], [], g) rfl ?_
        exact ev_le (L := [some (.inr (.inr 33)), none, none, some (.inl c3), some (.inl v4), some (.inl (wr (v5 + 1)))]) (by simp [Lle]) (ih19 v4 (wr (v5 + 1)) g r g' h)
      · rw [if_neg hc] at h
        refine es (46, [some (.inr (.inr 33)), none, none, some (.inl c3), some (.inl v4), some (.inl v5)], [], g) (congrArg some (if_neg hc)) ?_
        refine ev_runs 4 (46, [some (.inr (.inr 33)), none, none, some (.inl c3), some (.inl v4), some (.inl v5)], [], g) (19, [some (.inr (.inr 33)), none, none, some (.inl c3), some (.inl v5), some (.inl (wr (v5 + 1)))], [], g) rfl ?_
        exact ev_le (L := [some (.inr (.inr 33)), none, none, some (.inl c3), some (.inl v5), some (.inl (wr (v5 + 1)))]) (by simp [Lle]) (ih19 v5 (wr (v5 + 1)) g r g' h)
set_option maxRecDepth 100000 in
set_option maxHeartbeats 4000000 in
theorem ev_Hi_parter (a1 a2 : Int) (g : Gx) (r : Int) (g' : Gx) (h : Hi_parter a1 a2 g = some (r, g')) : Ev 114 0 [some (.inr (.inr 33)), some (.inl a1), some (.inl a2), none, none, none] [] g (some (.inl r)) g' := by
  rw [Hi_parter] at h
  refine ev_runs 12 (0, [some (.inr (.inr 33)), some (.inl a1), some (.inl a2), none, none, none], [], g) (19, [some (.inr (.inr 33)), some (.inl a1), some (.inl a2), some (.inl (imax a1 a2)), some (.inl (imin a1 a2)), some (.inl (wr ((imin a1 a2) + 1)))], [], g) rfl ?_
  refine ev_le (L := [some (.inr (.inr 33)), none, none, some (.inl (imax a1 a2)), some (.inl (imin a1 a2)), some (.inl (wr ((imin a1 a2) + 1)))]) (by simp [Lle]) ?_
  refine ev_Hi_parter_l19 (imax a1 a2) _ ?_ fu (imin a1 a2) (wr ((imin a1 a2) + 1)) g r g' h
  · intro x1 g2 r g' h
    refine ev_runs 3 (56, [some (.inr (.inr 33)), none, none, none, some (.inl x1), none], [], g2) (62, [some (.inr (.inr 33)), none, none, none, some (.inl x1), none], [.inl x1, .inr (.inr 44)], g2) rfl ?_
    refine ec 13 65 [.inr (.inr 44), .inl x1] [] rfl (ev_Row_at rfl rfl _ _) ?_
    show Ev 114 65 [some (.inr (.inr 33)), none, none, none, some (.inl x1), none] [.inl (rat g2 45 30 x1)] g2 _ _
    cases h
    exact er rfl
set_option maxRecDepth 100000 in
set_option maxHeartbeats 4000000 in
theorem ev_Op_parts (a1 a2 : Int) (g : Gx) (r : Int) (g' : Gx) (h : Op_parts a1 a2 g = some (r, g')) : Ev 115 0 [some (.inr (.inr 0)), some (.inl a1), some (.inl a2), none] [] g (some (.inl r)) g' := by
  rw [Op_parts] at h
  refine ev_runs 1 (0, [some (.inr (.inr 0)), some (.inl a1), some (.inl a2), none], [], g) (1, [some (.inr (.inr 0)), some (.inl a1), some (.inl a2), none], [.inl a1], g) rfl ?_
  refine ec 83 4 [.inl a1] [] rfl (ev_Op_isHistory a1 g _ rfl) ?_
  show Ev 115 4 [some (.inr (.inr 0)), some (.inl a1), some (.inl a2), none] [.inl (Op_isHistory a1)] g _ _
  by_cases hc : (Op_isHistory a1) = 0
  · rw [if_pos hc] at h
    refine es (19, [some (.inr (.inr 0)), some (.inl a1), some (.inl a2), none], [], g) (congrArg some (if_pos hc)) ?_
    refine ev_runs 1 (19, [some (.inr (.inr 0)), some (.inl a1), some (.inl a2), none], [], g) (21, [some (.inr (.inr 0)), some (.inl a1), some (.inl a2), none], [.inl (-2)], g) rfl ?_
    cases h
    exact er rfl
  · rw [if_neg hc] at h
    refine es (7, [some (.inr (.inr 0)), some (.inl a1), some (.inl a2), none], [], g) (congrArg some (if_neg hc)) ?_
    refine ev_runs 1 (7, [some (.inr (.inr 0)), some (.inl a1), some (.inl a2), none], [], g) (8, [some (.inr (.inr 0)), some (.inl a1), some (.inl a2), none], [.inl a2], g) rfl ?_
    refine ec 83 11 [.inl a2] [] rfl (ev_Op_isHistory a2 g _ rfl) ?_
    show Ev 115 11 [some (.inr (.inr 0)), some (.inl a1), some (.inl a2), none] [.inl (Op_isHistory a2)] g _ _
    by_cases hc : (Op_isHistory a2) = 0
    · rw [if_pos hc] at h
      refine es (19, [some (.inr (.inr 0)), some (.inl a1), some (.inl a2), none], [], g) (congrArg some (if_pos hc)) ?_
      refine ev_runs 1 (19, [some (.inr (.inr 0)), some (.inl a1), some (.inl a2), none], [], g) (21, [some (.inr (.inr 0)), some (.inl a1), some (.inl a2), none], [.inl (-2)], g) rfl ?_
      cases h
      exact er rfl
    · rw [if_neg hc] at h
      refine es (14, [some (.inr (.inr 0)), some (.inl a1), some (.inl a2), none], [], g) (congrArg some (if_neg hc)) ?_
      refine ev_runs 2 (14, [some (.inr (.inr 0)), some (.inl a1), some (.inl a2), none], [], g) (16, [some (.inr (.inr 0)), some (.inl a1), some (.inl a2), none], [.inl a2, .inl a1], g) rfl ?_
      by_cases hc : ¬ a1 = a2
      · rw [if_pos hc] at h
        refine es (22, [some (.inr (.inr 0)), some (.inl a1), some (.inl a2), none], [], g) (congrArg some (if_pos hc)) ?_
        refine ev_runs 4 (22, [some (.inr (.inr 0)), some (.inl a1), some (.inl a2), none], [], g) (28, [some (.inr (.inr 0)), some (.inl a1), some (.inl a2), none], [.inl (imax a1 a2), .inr (.inr 0)], g) rfl ?_
        obtain ⟨q1, hq, h⟩ := Option.bind_eq_some_iff.mp h
        refine ec 75 31 [.inr (.inr 0), .inl (imax a1 a2)] [] rfl (ev_Op_hindrance (imax a1 a2) g q1.1 q1.2 hq) ?_
        show Ev 115 31 [some (.inr (.inr 0)), some (.inl a1), some (.inl a2), none] [.inl q1.1] q1.2 _ _
        refine ev_runs 2 (31, [some (.inr (.inr 0)), some (.inl a1), some (.inl a2), none], [.inl q1.1], q1.2) (33, [some (.inr (.inr 0)), some (.inl a1), some (.inl a2), some (.inl q1.1)], [.inl q1.1], q1.2) rfl ?_
        by_cases hc : q1.1 = 0
        · rw [if_pos hc] at h
          refine es (40, [some (.inr (.inr 0)), some (.inl a1), some (.inl a2), some (.inl q1.1)], [], q1.2) (congrArg some (if_pos hc)) ?_
          refine ev_runs 4 (40, [some (.inr (.inr 0)), some (.inl a1), some (.inl a2), some (.inl q1.1)], [], q1.2) (46, [some (.inr (.inr 0)), some (.inl a1), some (.inl a2), some (.inl q1.1)], [.inl a2, .inl a1, .inr (.inr 33)], q1.2) rfl ?_
          obtain ⟨q2, hq, h⟩ := Option.bind_eq_some_iff.mp h
          refine ec 114 49 [.inr (.inr 33), .inl a1, .inl a2] [] rfl (ev_Hi_parter a1 a2 q1.2 q2.1 q2.2 hq) ?_
          show Ev 115 49 [some (.inr (.inr 0)), some (.inl a1), some (.inl a2), some (.inl q1.1)] [.inl q2.1] q2.2 _ _
          cases h
          exact er rfl
        · rw [if_neg hc] at h
          refine es (36, [some (.inr (.inr 0)), some (.inl a1), some (.inl a2), some (.inl q1.1)], [], q1.2) (congrArg some (if_neg hc)) ?_
          refine ev_runs 2 (36, [some (.inr (.inr 0)), some (.inl a1), some (.inl a2), some (.inl q1.1)], [], q1.2) (49, [some (.inr (.inr 0)), some (.inl a1), some (.inl a2), some (.inl q1.1)], [.inl q1.1], q1.2) rfl ?_
          cases h
          exact er rfl
      · rw [if_neg hc] at h
        refine es (19, [some (.inr (.inr 0)), some (.inl a1), some (.inl a2), none], [], g) (congrArg some (if_neg hc)) ?_
        refine ev_runs 1 (19, [some (.inr (.inr 0)), some (.inl a1), some (.inl a2), none], [], g) (21, [some (.inr (.inr 0)), some (.inl a1), some (.inl a2), none], [.inl (-2)], g) rfl ?_
        cases h
        exact er rfl
set_option maxRecDepth 100000 in
set_option maxHeartbeats 4000000 in
theorem ev_Md_parting_l2 (c1 : Int) (c2 : Int) (K2_33 : Int → Gx → Option (Int × Gx)) (hK2_33 : ∀ (x3 : Int) (g : Gx) (r : Int) (g' : Gx), K2_33 x3 g = some (r, g') → Ev 116 33 [some (.inr (.inr 92)), some (.inl c1), none, some (.inl x3)] [] g (some (.inl r)) g') : ∀ (n2 : Nat) (v3 : Int) (g : Gx) (r : Int) (g' : Gx), Md_parting_l2 c1 c2 K2_33 n2 v3 g = some (r, g') → Ev 116 2 [some (.inr (.inr 92)), some (.inl c1), some (.inl c2), some (.inl v3)] [] g (some (.inl r)) g' := by
  intro n2
  induction n2 with
  | zero => intro v3 g r g' h; cases h
  | succ n2 ih2 =>
    intro v3 g r g' h
    rw [Md_parting_l2] at h
    refine ev_runs 7 (2, [some (.inr (.inr 92)), some (.inl c1), some (.inl c2), some (.inl v3)], [], g) (12, [some (.inr (.inr 92)), some (.inl c1), some (.inl c2), some (.inl v3)], [.inl (wr ((wr (30 * c1)) + v3)), .inr (.inr 112)], g) rfl ?_
    by_cases hc : 0 ≤ (wr ((wr (30 * c1)) + v3)) ∧ (wr ((wr (30 * c1)) + v3)) < 900
    · rw [if_pos hc] at h
      refine es (13, [some (.inr (.inr 92)), some (.inl c1), some (.inl c2), some (.inl v3)], [.inl (g 112 (wr ((wr (30 * c1)) + v3)).toNat)], g) (if_pos hc) ?_
      refine ev_runs 7 (13, [some (.inr (.inr 92)), some (.inl c1), some (.inl c2), some (.inl v3)], [.inl (g 112 (wr ((wr (30 * c1)) + v3)).toNat)], g) (23, [some (.inr (.inr 92)), some (.inl c1), some (.inl c2), some (.inl v3)], [.inl (wr ((wr (30 * c2)) + v3)), .inr (.inr 112), .inl (g 112 (wr ((wr (30 * c1)) + v3)).toNat)], g) rfl ?_
      by_cases hc : 0 ≤ (wr ((wr (30 * c2)) + v3)) ∧ (wr ((wr (30 * c2)) + v3)) < 900
      · rw [if_pos hc] at h
        refine es (24, [some (.inr (.inr 92)), some (.inl c1), some (.inl c2), some (.inl v3)], [.inl (g 112 (wr ((wr (30 * c2)) + v3)).toNat), .inl (g 112 (wr ((wr (30 * c1)) + v3)).toNat)], g) (if_pos hc) ?_
        by_cases hc : ¬ (g 112 (wr ((wr (30 * c1)) + v3)).toNat) = (g 112 (wr ((wr (30 * c2)) + v3)).toNat)
        · rw [if_pos hc] at h
          refine es (33, [some (.inr (.inr 92)), some (.inl c1), some (.inl c2), some (.inl v3)], [], g) (congrArg some (if_pos hc)) ?_
          exact ev_le (L := [some (.inr (.inr 92)), some (.inl c1), none, some (.inl v3)]) (by simp [Lle]) (hK2_33 v3 g r g' h)
        · rw [if_neg hc] at h
          refine es (27, [some (.inr (.inr 92)), some (.inl c1), some (.inl c2), some (.inl v3)], [], g) (congrArg some (if_neg hc)) ?_
          refine ev_runs 2 (27, [some (.inr (.inr 92)), some (.inl c1), some (.inl c2), some (.inl v3)], [], g) (2, [some (.inr (.inr 92)), some (.inl c1), some (.inl c2), some (.inl (wr (v3 + 1)))], [], g) rfl ?_
          exact ev_le (L := [some (.inr (.inr 92)), some (.inl c1), some (.inl c2), some (.inl (wr (v3 + 1)))]) (by simp [Lle]) (ih2 (wr (v3 + 1)) g r g' h)
      · rw [if_neg hc] at h; cases h
    · rw [if_neg hc] at h; cases h
set_option maxRecDepth 100000 in
set_option maxHeartbeats 4000000 in
theorem ev_Md_parting (a1 a2 : Int) (g : Gx) (r : Int) (g' : Gx) (h : Md_parting a1 a2 g = some (r, g')) : Ev 116 0 [some (.inr (.inr 92)), some (.inl a1), some (.inl a2), none] [] g (some (.inl r)) g' := by
  rw [Md_parting] at h
  refine ev_runs 2 (0, [some (.inr (.inr 92)), some (.inl a1), some (.inl a2), none], [], g) (2, [some (.inr (.inr 92)), some (.inl a1), some (.inl a2), some (.inl 0)], [], g) rfl ?_
  refine ev_le (L := [some (.inr (.inr 92)), some (.inl a1), some (.inl a2), some (.inl 0)]) (by simp [Lle]) ?_
  refine ev_Md_parting_l2 a1 a2 _ ?_ fu 0 g r g' h
  · intro x1 g2 r g' h
    refine ev_runs 7 (33, [some (.inr (.inr 92)), some (.inl a1), none, some (.inl x1)], [], g2) (43, [some (.inr (.inr 92)), some (.inl a1), none, some (.inl x1)], [.inl (wr ((wr (30 * a1)) + x1)), .inr (.inr 113)], g2) rfl ?_
    by_cases hc : 0 ≤ (wr ((wr (30 * a1)) + x1)) ∧ (wr ((wr (30 * a1)) + x1)) < 900
    · rw [if_pos hc] at h
      refine es (44, [some (.inr (.inr 92)), some (.inl a1), none, some (.inl x1)], [.inl (g2 113 (wr ((wr (30 * a1)) + x1)).toNat)], g2) (if_pos hc) ?_
      cases h
      exact er rfl
    · rw [if_neg hc] at h; cases h
set_option maxRecDepth 100000 in
set_option maxHeartbeats 4000000 in
theorem ev_Md_parts (a1 a2 : Int) (g : Gx) (r : Int) (g' : Gx) (h : Md_parts a1 a2 g = some (r, g')) : Ev 117 0 [some (.inr (.inr 92)), some (.inl a1), some (.inl a2), none] [] g (some (.inl r)) g' := by
  rw [Md_parts] at h
  refine ev_runs 1 (0, [some (.inr (.inr 92)), some (.inl a1), some (.inl a2), none], [], g) (1, [some (.inr (.inr 92)), some (.inl a1), some (.inl a2), none], [.inl a1], g) rfl ?_
  refine ec 87 4 [.inl a1] [] rfl (ev_Md_isHistory a1 g _ rfl) ?_
  show Ev 117 4 [some (.inr (.inr 92)), some (.inl a1), some (.inl a2), none] [.inl (Md_isHistory a1)] g _ _
  by_cases hc : (Md_isHistory a1) = 0
  · rw [if_pos hc] at h
    refine es (19, [some (.inr (.inr 92)), some (.inl a1), some (.inl a2), none], [], g) (congrArg some (if_pos hc)) ?_
    refine ev_runs 1 (19, [some (.inr (.inr 92)), some (.inl a1), some (.inl a2), none], [], g) (21, [some (.inr (.inr 92)), some (.inl a1), some (.inl a2), none], [.inl (-2)], g) rfl ?_
    cases h
    exact er rfl
  · rw [if_neg hc] at h
    refine es (7, [some (.inr (.inr 92)), some (.inl a1), some (.inl a2), none], [], g) (congrArg some (if_neg hc)) ?_
    refine ev_runs 1 (7, [some (.inr (.inr 92)), some (.inl a1), some (.inl a2), none], [], g) (8, [some (.inr (.inr 92)), some (.inl a1), some (.inl a2), none], [.inl a2], g) rfl ?_
    refine ec 87 11 [.inl a2] [] rfl (ev_Md_isHistory a2 g _ rfl) ?_
    show Ev 117 11 [some (.inr (.inr 92)), some (.inl a1), some (.inl a2), none] [.inl (Md_isHistory a2)] g _ _
    by_cases hc : (Md_isHistory a2) = 0
    · rw [if_pos hc] at h
      refine es (19, [some (.inr (.inr 92)), some (.inl a1), some (.inl a2), none], [], g) (congrArg some (if_pos hc)) ?_
      refine ev_runs 1 (19, [some (.inr (.inr 92)), some (.inl a1), some (.inl a2), none], [], g) (21, [some (.inr (.inr 92)), some (.inl a1), some (.inl a2), none], [.inl (-2)], g) rfl ?_
      cases h
      exact er rfl
    · rw [if_neg hc] at h
      refine es (14, [some (.inr (.inr 92)), some (.inl a1), some (.inl a2), none], [], g) (congrArg some (if_neg hc)) ?_
      refine ev_runs 2 (14, [some (.inr (.inr 92)), some (.inl a1), some (.inl a2), none], [], g) (16, [some (.inr (.inr 92)), some (.inl a1), some (.inl a2), none], [.inl a2, .inl a1], g) rfl ?_
      by_cases hc : ¬ a1 = a2
      · rw [if_pos hc] at h
        refine es (22, [some (.inr (.inr 92)), some (.inl a1), some (.inl a2), none], [], g) (congrArg some (if_pos hc)) ?_
        refine ev_runs 3 (22, [some (.inr (.inr 92)), some (.inl a1), some (.inl a2), none], [], g) (25, [some (.inr (.inr 92)), some (.inl a1), some (.inl a2), none], [.inl a2, .inl a1, .inr (.inr 92)], g) rfl ?_
        obtain ⟨y1, hy1, h⟩ := lett_inv h
        have hjy1 : Ev 117 33 [some (.inr (.inr 92)), some (.inl a1), some (.inl a2), none] [.inl y1, .inr (.inr 92)] g (some (.inl r)) g' := by
          obtain ⟨q2, hq, h⟩ := Option.bind_eq_some_iff.mp h
          refine ec 88 36 [.inr (.inr 92), .inl y1] [] rfl (ev_Md_lacksOne y1 g q2.1 q2.2 hq) ?_
          show Ev 117 36 [some (.inr (.inr 92)), some (.inl a1), some (.inl a2), none] [.inl q2.1] q2.2 _ _
          refine ev_runs 2 (36, [some (.inr (.inr 92)), some (.inl a1), some (.inl a2), none], [.inl q2.1], q2.2) (38, [some (.inr (.inr 92)), some (.inl a1), some (.inl a2), some (.inl q2.1)], [.inl q2.1], q2.2) rfl ?_
          by_cases hc : q2.1 = 0
          · rw [if_pos hc] at h
            refine es (45, [some (.inr (.inr 92)), some (.inl a1), some (.inl a2), some (.inl q2.1)], [], q2.2) (congrArg some (if_pos hc)) ?_
            refine ev_runs 3 (45, [some (.inr (.inr 92)), some (.inl a1), some (.inl a2), some (.inl q2.1)], [], q2.2) (48, [some (.inr (.inr 92)), some (.inl a1), some (.inl a2), some (.inl q2.1)], [.inl a2, .inl a1, .inr (.inr 92)], q2.2) rfl ?_
            obtain ⟨q3, hq, h⟩ := Option.bind_eq_some_iff.mp h
            refine ec 116 51 [.inr (.inr 92), .inl a1, .inl a2] [] rfl (ev_Md_parting a1 a2 q2.2 q3.1 q3.2 hq) ?_
            show Ev 117 51 [some (.inr (.inr 92)), some (.inl a1), some (.inl a2), some (.inl q2.1)] [.inl q3.1] q3.2 _ _
            cases h
            exact er rfl
          · rw [if_neg hc] at h
            refine es (41, [some (.inr (.inr 92)), some (.inl a1), some (.inl a2), some (.inl q2.1)], [], q2.2) (congrArg some (if_neg hc)) ?_
            refine ev_runs 2 (41, [some (.inr (.inr 92)), some (.inl a1), some (.inl a2), some (.inl q2.1)], [], q2.2) (51, [some (.inr (.inr 92)), some (.inl a1), some (.inl a2), some (.inl q2.1)], [.inl q2.1], q2.2) rfl ?_
            cases h
            exact er rfl
        by_cases hc : a1 ≤ a2
        · rw [if_pos hc] at hy1
          refine es (32, [some (.inr (.inr 92)), some (.inl a1), some (.inl a2), none], [.inr (.inr 92)], g) (congrArg some (if_pos hc)) ?_
          refine ev_runs 1 (32, [some (.inr (.inr 92)), some (.inl a1), some (.inl a2), none], [.inr (.inr 92)], g) (33, [some (.inr (.inr 92)), some (.inl a1), some (.inl a2), none], [.inl a2, .inr (.inr 92)], g) rfl ?_
          rw [hy1] at hjy1
          exact ev_le (L := [some (.inr (.inr 92)), some (.inl a1), some (.inl a2), none]) (by simp [Lle]) hjy1
        · rw [if_neg hc] at hy1
          refine es (28, [some (.inr (.inr 92)), some (.inl a1), some (.inl a2), none], [.inr (.inr 92)], g) (congrArg some (if_neg hc)) ?_
          refine ev_runs 2 (28, [some (.inr (.inr 92)), some (.inl a1), some (.inl a2), none], [.inr (.inr 92)], g) (33, [some (.inr (.inr 92)), some (.inl a1), some (.inl a2), none], [.inl a1, .inr (.inr 92)], g) rfl ?_
          rw [hy1] at hjy1
          exact ev_le (L := [some (.inr (.inr 92)), some (.inl a1), some (.inl a2), none]) (by simp [Lle]) hjy1
      · rw [if_neg hc] at h
        refine es (19, [some (.inr (.inr 92)), some (.inl a1), some (.inl a2), none], [], g) (congrArg some (if_neg hc)) ?_
        refine ev_runs 1 (19, [some (.inr (.inr 92)), some (.inl a1), some (.inl a2), none], [], g) (21, [some (.inr (.inr 92)), some (.inl a1), some (.inl a2), none], [.inl (-2)], g) rfl ?_
        cases h
        exact er rfl
set_option maxRecDepth 100000 in
set_option maxHeartbeats 4000000 in
theorem ev_Hi_makings (g : Gx) (r : Int) (h : Hi_makings g = r) : Ev 118 0 [some (.inr (.inr 33))] [] g (some (.inl r)) g := by
  rw [Hi_makings] at h
  refine ev_runs 2 (0, [some (.inr (.inr 33))], [], g) (4, [some (.inr (.inr 33))], [.inl (g 33 16)], g) rfl ?_
  subst h
  exact er rfl
set_option maxRecDepth 100000 in
set_option maxHeartbeats 4000000 in
theorem ev_Lk_gets (a1 a2 : Int) (g : Gx) (r : Int) (h : Lk_gets a1 a2 g = r) : Ev 120 0 [some (.inr (.inr 50)), some (.inl a1), some (.inl a2)] [] g (some (.inl r)) g := by
  rw [Lk_gets] at h
  refine ev_runs 4 (0, [some (.inr (.inr 50)), some (.inl a1), some (.inl a2)], [], g) (6, [some (.inr (.inr 50)), some (.inl a1), some (.inl a2)], [.inl a1, .inr (.inr 53), .inl a2], g) rfl ?_
  refine ec 13 9 [.inr (.inr 53), .inl a1] [.inl a2] rfl (ev_Row_at rfl rfl _ _) ?_
  show Ev 120 9 [some (.inr (.inr 50)), some (.inl a1), some (.inl a2)] [.inl (rat g 54 30 a1), .inl a2] g _ _
  by_cases hc : (rat g 54 30 a1) ≤ a2
  · rw [if_pos hc] at h
    refine es (35, [some (.inr (.inr 50)), some (.inl a1), some (.inl a2)], [], g) (congrArg some (if_pos hc)) ?_
    refine ev_runs 1 (35, [some (.inr (.inr 50)), some (.inl a1), some (.inl a2)], [], g) (36, [some (.inr (.inr 50)), some (.inl a1), some (.inl a2)], [.inl 0], g) rfl ?_
    subst h
    exact er rfl
  · rw [if_neg hc] at h
    refine es (12, [some (.inr (.inr 50)), some (.inl a1), some (.inl a2)], [], g) (congrArg some (if_neg hc)) ?_
    refine ev_runs 7 (12, [some (.inr (.inr 50)), some (.inl a1), some (.inl a2)], [], g) (22, [some (.inr (.inr 50)), some (.inl a1), some (.inl a2)], [.inl (wr ((wr (a1 * 24)) + a2)), .inr (.inr 51)], g) rfl ?_
    refine ec 13 25 [.inr (.inr 51), .inl (wr ((wr (a1 * 24)) + a2))] [] rfl (ev_Row_at rfl rfl _ _) ?_
    show Ev 120 25 [some (.inr (.inr 50)), some (.inl a1), some (.inl a2)] [.inl (rat g 52 720 (wr ((wr (a1 * 24)) + a2)))] g _ _
    refine ev_runs 1 (25, [some (.inr (.inr 50)), some (.inl a1), some (.inl a2)], [.inl (rat g 52 720 (wr ((wr (a1 * 24)) + a2)))], g) (28, [some (.inr (.inr 50)), some (.inl a1), some (.inl a2)], [.inl 20000, .inl (rat g 52 720 (wr ((wr (a1 * 24)) + a2)))], g) rfl ?_
    by_cases hc : (rat g 52 720 (wr ((wr (a1 * 24)) + a2))) < 20000
    · rw [if_pos hc] at h
      refine es (35, [some (.inr (.inr 50)), some (.inl a1), some (.inl a2)], [], g) (congrArg some (if_pos hc)) ?_
      refine ev_runs 1 (35, [some (.inr (.inr 50)), some (.inl a1), some (.inl a2)], [], g) (36, [some (.inr (.inr 50)), some (.inl a1), some (.inl a2)], [.inl 0], g) rfl ?_
      subst h
      exact er rfl
    · rw [if_neg hc] at h
      refine es (31, [some (.inr (.inr 50)), some (.inl a1), some (.inl a2)], [], g) (congrArg some (if_neg hc)) ?_
      refine ev_runs 2 (31, [some (.inr (.inr 50)), some (.inl a1), some (.inl a2)], [], g) (36, [some (.inr (.inr 50)), some (.inl a1), some (.inl a2)], [.inl 1], g) rfl ?_
      subst h
      exact er rfl
set_option maxRecDepth 100000 in
set_option maxHeartbeats 4000000 in
theorem ev_Kn_bothGet (a1 a2 a3 : Int) (g : Gx) (r : Int) (h : Kn_bothGet a1 a2 a3 g = r) : Ev 121 0 [some (.inr (.inr 55)), some (.inl a1), some (.inl a2), some (.inl a3)] [] g (some (.inl r)) g := by
  rw [Kn_bothGet] at h
  refine ev_runs 4 (0, [some (.inr (.inr 55)), some (.inl a1), some (.inl a2), some (.inl a3)], [], g) (6, [some (.inr (.inr 55)), some (.inl a1), some (.inl a2), some (.inl a3)], [.inl a3, .inl a1, .inr (.inr 50)], g) rfl ?_
  refine ec 120 9 [.inr (.inr 50), .inl a1, .inl a3] [] rfl (ev_Lk_gets a1 a3 g _ rfl) ?_
  show Ev 121 9 [some (.inr (.inr 55)), some (.inl a1), some (.inl a2), some (.inl a3)] [.inl (Lk_gets a1 a3 g)] g _ _
  by_cases hc : (Lk_gets a1 a3 g) = 0
  · rw [if_pos hc] at h
    refine es (28, [some (.inr (.inr 55)), some (.inl a1), some (.inl a2), some (.inl a3)], [], g) (congrArg some (if_pos hc)) ?_
    refine ev_runs 1 (28, [some (.inr (.inr 55)), some (.inl a1), some (.inl a2), some (.inl a3)], [], g) (29, [some (.inr (.inr 55)), some (.inl a1), some (.inl a2), some (.inl a3)], [.inl 0], g) rfl ?_
    subst h
    exact er rfl
  · rw [if_neg hc] at h
    refine es (12, [some (.inr (.inr 55)), some (.inl a1), some (.inl a2), some (.inl a3)], [], g) (congrArg some (if_neg hc)) ?_
    refine ev_runs 4 (12, [some (.inr (.inr 55)), some (.inl a1), some (.inl a2), some (.inl a3)], [], g) (18, [some (.inr (.inr 55)), some (.inl a1), some (.inl a2), some (.inl a3)], [.inl a3, .inl a2, .inr (.inr 50)], g) rfl ?_
    refine ec 120 21 [.inr (.inr 50), .inl a2, .inl a3] [] rfl (ev_Lk_gets a2 a3 g _ rfl) ?_
    show Ev 121 21 [some (.inr (.inr 55)), some (.inl a1), some (.inl a2), some (.inl a3)] [.inl (Lk_gets a2 a3 g)] g _ _
    by_cases hc : (Lk_gets a2 a3 g) = 0
    · rw [if_pos hc] at h
      refine es (28, [some (.inr (.inr 55)), some (.inl a1), some (.inl a2), some (.inl a3)], [], g) (congrArg some (if_pos hc)) ?_
      refine ev_runs 1 (28, [some (.inr (.inr 55)), some (.inl a1), some (.inl a2), some (.inl a3)], [], g) (29, [some (.inr (.inr 55)), some (.inl a1), some (.inl a2), some (.inl a3)], [.inl 0], g) rfl ?_
      subst h
      exact er rfl
    · rw [if_neg hc] at h
      refine es (24, [some (.inr (.inr 55)), some (.inl a1), some (.inl a2), some (.inl a3)], [], g) (congrArg some (if_neg hc)) ?_
      refine ev_runs 2 (24, [some (.inr (.inr 55)), some (.inl a1), some (.inl a2), some (.inl a3)], [], g) (29, [some (.inr (.inr 55)), some (.inl a1), some (.inl a2), some (.inl a3)], [.inl 1], g) rfl ?_
      subst h
      exact er rfl
set_option maxRecDepth 100000 in
set_option maxHeartbeats 4000000 in
theorem ev_Kn_searchFor_l17 (c1 : Int) (c2 : Int) (K17_122 : Gx → Option (Int × Gx)) (hK17_122 : ∀ (g : Gx) (r : Int) (g' : Gx), K17_122 g = some (r, g') → Ev 122 122 [some (.inr (.inr 55)), some (.inl c1), some (.inl c2), none, none] [] g (some (.inl r)) g') : ∀ (n17 : Nat) (v3 : Int) (g : Gx) (r : Int) (g' : Gx), Kn_searchFor_l17 c1 c2 K17_122 n17 v3 g = some (r, g') → Ev 122 17 [some (.inr (.inr 55)), some (.inl c1), some (.inl c2), some (.inl v3), none] [] g (some (.inl r)) g' := by
  intro n17
  induction n17 with
  | zero => intro v3 g r g' h; cases h
  | succ n17 ih17 =>
    intro v3 g r g' h
    rw [Kn_searchFor_l17] at h
    refine ev_runs 3 (17, [some (.inr (.inr 55)), some (.inl c1), some (.inl c2), some (.inl v3), none], [], g) (22, [some (.inr (.inr 55)), some (.inl c1), some (.inl c2), some (.inl v3), none], [.inr (.inr 33), .inl v3], g) rfl ?_
    refine ec 74 25 [.inr (.inr 33)] [.inl v3] rfl (ev_Hi_size g _ rfl) ?_
    show Ev 122 25 [some (.inr (.inr 55)), some (.inl c1), some (.inl c2), some (.inl v3), none] [.inl (Hi_size g), .inl v3] g _ _
    by_cases hc : (Hi_size g) ≤ v3
    · rw [if_pos hc] at h
      refine es (122, [some (.inr (.inr 55)), some (.inl c1), some (.inl c2), some (.inl v3), none], [], g) (congrArg some (if_pos hc)) ?_
      exact ev_le (L := [some (.inr (.inr 55)), some (.inl c1), some (.inl c2), none, none]) (by simp [Lle]) (hK17_122 g r g' h)
    · rw [if_neg hc] at h
      refine es (28, [some (.inr (.inr 55)), some (.inl c1), some (.inl c2), some (.inl v3), none], [], g) (congrArg some (if_neg hc)) ?_
      refine ev_runs 4 (28, [some (.inr (.inr 55)), some (.inl c1), some (.inl c2), some (.inl v3), none], [], g) (34, [some (.inr (.inr 55)), some (.inl c1), some (.inl c2), some (.inl v3), none], [.inl v3, .inl c2, .inr (.inr 50)], g) rfl ?_
      obtain ⟨q1, hq, h⟩ := Option.bind_eq_some_iff.mp h
      refine ec 105 37 [.inr (.inr 50), .inl c2, .inl v3] [] rfl (ev_Lk_common c2 v3 g q1.1 q1.2 hq) ?_
      show Ev 122 37 [some (.inr (.inr 55)), some (.inl c1), some (.inl c2), some (.inl v3), none] [.inl q1.1] q1.2 _ _
      refine ev_runs 6 (37, [some (.inr (.inr 55)), some (.inl c1), some (.inl c2), some (.inl v3), none], [.inl q1.1], q1.2) (47, [some (.inr (.inr 55)), some (.inl c1), some (.inl c2), some (.inl v3), some (.inl q1.1)], [.inl q1.1, .inl v3, .inl c2, .inr (.inr 50)], q1.2) rfl ?_
      refine ec 106 50 [.inr (.inr 50), .inl c2, .inl v3, .inl q1.1] [] rfl (ev_Lk_bothEnd c2 v3 q1.1 q1.2 _ rfl) ?_
      show Ev 122 50 [some (.inr (.inr 55)), some (.inl c1), some (.inl c2), some (.inl v3), some (.inl q1.1)] [.inl (Lk_bothEnd c2 v3 q1.1 q1.2)] q1.2 _ _
      by_cases hc : ¬ (Lk_bothEnd c2 v3 q1.1 q1.2) = 0
      · rw [if_pos hc] at h
        refine es (116, [some (.inr (.inr 55)), some (.inl c1), some (.inl c2), some (.inl v3), some (.inl q1.1)], [], q1.2) (congrArg some (if_pos hc)) ?_
        refine ev_runs 2 (116, [some (.inr (.inr 55)), some (.inl c1), some (.inl c2), some (.inl v3), some (.inl q1.1)], [], q1.2) (17, [some (.inr (.inr 55)), some (.inl c1), some (.inl c2), some (.inl (wr (v3 + 1))), some (.inl q1.1)], [], q1.2) rfl ?_
        exact ev_le (L := [some (.inr (.inr 55)), some (.inl c1), some (.inl c2), some (.inl (wr (v3 + 1))), none]) (by simp [Lle]) (ih17 (wr (v3 + 1)) q1.2 r g' h)
      · rw [if_neg hc] at h
        refine es (53, [some (.inr (.inr 55)), some (.inl c1), some (.inl c2), some (.inl v3), some (.inl q1.1)], [], q1.2) (congrArg some (if_neg hc)) ?_
        refine ev_runs 4 (53, [some (.inr (.inr 55)), some (.inl c1), some (.inl c2), some (.inl v3), some (.inl q1.1)], [], q1.2) (58, [some (.inr (.inr 55)), some (.inl c1), some (.inl c2), some (.inl v3), some (.inl q1.1)], [.inl q1.1, .inl v3, .inl c2, .inr (.inr 55)], q1.2) rfl ?_
        refine ec 121 61 [.inr (.inr 55), .inl c2, .inl v3, .inl q1.1] [] rfl (ev_Kn_bothGet c2 v3 q1.1 q1.2 _ rfl) ?_
        show Ev 122 61 [some (.inr (.inr 55)), some (.inl c1), some (.inl c2), some (.inl v3), some (.inl q1.1)] [.inl (Kn_bothGet c2 v3 q1.1 q1.2)] q1.2 _ _
        by_cases hc : ¬ (Kn_bothGet c2 v3 q1.1 q1.2) = 0
        · rw [if_pos hc] at h
          refine es (116, [some (.inr (.inr 55)), some (.inl c1), some (.inl c2), some (.inl v3), some (.inl q1.1)], [], q1.2) (congrArg some (if_pos hc)) ?_
          refine ev_runs 2 (116, [some (.inr (.inr 55)), some (.inl c1), some (.inl c2), some (.inl v3), some (.inl q1.1)], [], q1.2) (17, [some (.inr (.inr 55)), some (.inl c1), some (.inl c2), some (.inl (wr (v3 + 1))), some (.inl q1.1)], [], q1.2) rfl ?_
          exact ev_le (L := [some (.inr (.inr 55)), some (.inl c1), some (.inl c2), some (.inl (wr (v3 + 1))), none]) (by simp [Lle]) (ih17 (wr (v3 + 1)) q1.2 r g' h)
        · rw [if_neg hc] at h
          refine es (64, [some (.inr (.inr 55)), some (.inl c1), some (.inl c2), some (.inl v3), some (.inl q1.1)], [], q1.2) (congrArg some (if_neg hc)) ?_
          refine ev_runs 4 (64, [some (.inr (.inr 55)), some (.inl c1), some (.inl c2), some (.inl v3), some (.inl q1.1)], [], q1.2) (70, [some (.inr (.inr 55)), some (.inl c1), some (.inl c2), some (.inl v3), some (.inl q1.1)], [.inl v3, .inl c2, .inr (.inr 33)], q1.2) rfl ?_
          obtain ⟨q2, hq, h⟩ := Option.bind_eq_some_iff.mp h
          refine ec 114 73 [.inr (.inr 33), .inl c2, .inl v3] [] rfl (ev_Hi_parter c2 v3 q1.2 q2.1 q2.2 hq) ?_
          show Ev 122 73 [some (.inr (.inr 55)), some (.inl c1), some (.inl c2), some (.inl v3), some (.inl q1.1)] [.inl q2.1] q2.2 _ _
          refine ev_runs 1 (73, [some (.inr (.inr 55)), some (.inl c1), some (.inl c2), some (.inl v3), some (.inl q1.1)], [.inl q2.1], q2.2) (74, [some (.inr (.inr 55)), some (.inl c1), some (.inl c2), some (.inl v3), some (.inl q1.1)], [.inl c1, .inl q2.1], q2.2) rfl ?_
          by_cases hc : q2.1 = c1
          · rw [if_pos hc] at h
            refine es (116, [some (.inr (.inr 55)), some (.inl c1), some (.inl c2), some (.inl v3), some (.inl q1.1)], [], q2.2) (congrArg some (if_pos hc)) ?_
            refine ev_runs 2 (116, [some (.inr (.inr 55)), some (.inl c1), some (.inl c2), some (.inl v3), some (.inl q1.1)], [], q2.2) (17, [some (.inr (.inr 55)), some (.inl c1), some (.inl c2), some (.inl (wr (v3 + 1))), some (.inl q1.1)], [], q2.2) rfl ?_
            exact ev_le (L := [some (.inr (.inr 55)), some (.inl c1), some (.inl c2), some (.inl (wr (v3 + 1))), none]) (by simp [Lle]) (ih17 (wr (v3 + 1)) q2.2 r g' h)
          · rw [if_neg hc] at h
            refine es (77, [some (.inr (.inr 55)), some (.inl c1), some (.inl c2), some (.inl v3), some (.inl q1.1)], [], q2.2) (congrArg some (if_neg hc)) ?_
            refine ev_runs 4 (77, [some (.inr (.inr 55)), some (.inl c1), some (.inl c2), some (.inl v3), some (.inl q1.1)], [], q2.2) (83, [some (.inr (.inr 55)), some (.inl c1), some (.inl c2), some (.inl v3), some (.inl q1.1)], [.inl c1, .inl 0, .inr (.inr 56)], q2.2) rfl ?_
            refine ec 0 86 [.inr (.inr 56), .inl 0, .inl c1] [] rfl (ev_Row_set rfl rfl _ _ _) ?_
            show Ev 122 86 [some (.inr (.inr 55)), some (.inl c1), some (.inl c2), some (.inl v3), some (.inl q1.1)] [] (rset q2.2 57 4 0 c1) _ _
            refine ev_runs 4 (86, [some (.inr (.inr 55)), some (.inl c1), some (.inl c2), some (.inl v3), some (.inl q1.1)], [], (rset q2.2 57 4 0 c1)) (92, [some (.inr (.inr 55)), some (.inl c1), some (.inl c2), some (.inl v3), some (.inl q1.1)], [.inl c2, .inl 1, .inr (.inr 56)], (rset q2.2 57 4 0 c1)) rfl ?_
            refine ec 0 95 [.inr (.inr 56), .inl 1, .inl c2] [] rfl (ev_Row_set rfl rfl _ _ _) ?_
            show Ev 122 95 [some (.inr (.inr 55)), some (.inl c1), some (.inl c2), some (.inl v3), some (.inl q1.1)] [] (rset (rset q2.2 57 4 0 c1) 57 4 1 c2) _ _
            refine ev_runs 4 (95, [some (.inr (.inr 55)), some (.inl c1), some (.inl c2), some (.inl v3), some (.inl q1.1)], [], (rset (rset q2.2 57 4 0 c1) 57 4 1 c2)) (101, [some (.inr (.inr 55)), some (.inl c1), some (.inl c2), some (.inl v3), some (.inl q1.1)], [.inl v3, .inl 2, .inr (.inr 56)], (rset (rset q2.2 57 4 0 c1) 57 4 1 c2)) rfl ?_
            refine ec 0 104 [.inr (.inr 56), .inl 2, .inl v3] [] rfl (ev_Row_set rfl rfl _ _ _) ?_
            show Ev 122 104 [some (.inr (.inr 55)), some (.inl c1), some (.inl c2), some (.inl v3), some (.inl q1.1)] [] (rset (rset (rset q2.2 57 4 0 c1) 57 4 1 c2) 57 4 2 v3) _ _
            refine ev_runs 4 (104, [some (.inr (.inr 55)), some (.inl c1), some (.inl c2), some (.inl v3), some (.inl q1.1)], [], (rset (rset (rset q2.2 57 4 0 c1) 57 4 1 c2) 57 4 2 v3)) (111, [some (.inr (.inr 55)), some (.inl c1), some (.inl c2), some (.inl v3), some (.inl q1.1)], [.inl q1.1, .inl 3, .inr (.inr 56)], (rset (rset (rset q2.2 57 4 0 c1) 57 4 1 c2) 57 4 2 v3)) rfl ?_
            refine ec 0 114 [.inr (.inr 56), .inl 3, .inl q1.1] [] rfl (ev_Row_set rfl rfl _ _ _) ?_
            show Ev 122 114 [some (.inr (.inr 55)), some (.inl c1), some (.inl c2), some (.inl v3), some (.inl q1.1)] [] (rset (rset (rset (rset q2.2 57 4 0 c1) 57 4 1 c2) 57 4 2 v3) 57 4 3 q1.1) _ _
            refine ev_runs 1 (114, [some (.inr (.inr 55)), some (.inl c1), some (.inl c2), some (.inl v3), some (.inl q1.1)], [], (rset (rset (rset (rset q2.2 57 4 0 c1) 57 4 1 c2) 57 4 2 v3) 57 4 3 q1.1)) (115, [some (.inr (.inr 55)), some (.inl c1), some (.inl c2), some (.inl v3), some (.inl q1.1)], [.inl 1], (rset (rset (rset (rset q2.2 57 4 0 c1) 57 4 1 c2) 57 4 2 v3) 57 4 3 q1.1)) rfl ?_
            cases h
            exact er rfl
set_option maxRecDepth 100000 in
set_option maxHeartbeats 4000000 in
theorem ev_Kn_searchFor_l2 (c1 : Int) (K2_128 : Gx → Option (Int × Gx)) (hK2_128 : ∀ (g : Gx) (r : Int) (g' : Gx), K2_128 g = some (r, g') → Ev 122 128 [none, none, none, none, none] [] g (some (.inl r)) g') : ∀ (n2 : Nat) (v2 : Int) (g : Gx) (r : Int) (g' : Gx), Kn_searchFor_l2 c1 K2_128 n2 v2 g = some (r, g') → Ev 122 2 [some (.inr (.inr 55)), some (.inl c1), some (.inl v2), none, none] [] g (some (.inl r)) g' := by
  intro n2
  induction n2 with
  | zero => intro v2 g r g' h; cases h
  | succ n2 ih2 =>
    intro v2 g r g' h
    rw [Kn_searchFor_l2] at h
    refine ev_runs 3 (2, [some (.inr (.inr 55)), some (.inl c1), some (.inl v2), none, none], [], g) (7, [some (.inr (.inr 55)), some (.inl c1), some (.inl v2), none, none], [.inr (.inr 33), .inl v2], g) rfl ?_
    refine ec 74 10 [.inr (.inr 33)] [.inl v2] rfl (ev_Hi_size g _ rfl) ?_
    show Ev 122 10 [some (.inr (.inr 55)), some (.inl c1), some (.inl v2), none, none] [.inl (Hi_size g), .inl v2] g _ _
    by_cases hc : (Hi_size g) ≤ v2
    · rw [if_pos hc] at h
      refine es (128, [some (.inr (.inr 55)), some (.inl c1), some (.inl v2), none, none], [], g) (congrArg some (if_pos hc)) ?_
      exact ev_le (L := [none, none, none, none, none]) (by simp [Lle]) (hK2_128 g r g' h)
    · rw [if_neg hc] at h
      refine es (13, [some (.inr (.inr 55)), some (.inl c1), some (.inl v2), none, none], [], g) (congrArg some (if_neg hc)) ?_
      refine ev_runs 4 (13, [some (.inr (.inr 55)), some (.inl c1), some (.inl v2), none, none], [], g) (17, [some (.inr (.inr 55)), some (.inl c1), some (.inl v2), some (.inl (wr (v2 + 1))), none], [], g) rfl ?_
      refine ev_le (L := [some (.inr (.inr 55)), some (.inl c1), some (.inl v2), some (.inl (wr (v2 + 1))), none]) (by simp [Lle]) ?_
      refine ev_Kn_searchFor_l17 c1 v2 _ ?_ fu (wr (v2 + 1)) g r g' h
      · intro g3 r g' h
        refine ev_runs 2 (122, [some (.inr (.inr 55)), some (.inl c1), some (.inl v2), none, none], [], g3) (2, [some (.inr (.inr 55)), some (.inl c1), some (.inl (wr (v2 + 1))), none, none], [], g3) rfl ?_
        exact ev_le (L := [some (.inr (.inr 55)), some (.inl c1), some (.inl (wr (v2 + 1))), none, none]) (by simp [Lle]) (ih2 (wr (v2 + 1)) g3 r g' h)
set_option maxRecDepth 100000 in
set_option maxHeartbeats 4000000 in
theorem ev_Kn_searchFor (a1 : Int) (g : Gx) (r : Int) (g' : Gx) (h : Kn_searchFor a1 g = some (r, g')) : Ev 122 0 [some (.inr (.inr 55)), some (.inl a1), none, none, none] [] g (some (.inl r)) g' := by
  rw [Kn_searchFor] at h
  refine ev_runs 2 (0, [some (.inr (.inr 55)), some (.inl a1), none, none, none], [], g) (2, [some (.inr (.inr 55)), some (.inl a1), some (.inl 0), none, none], [], g) rfl ?_
  refine ev_le (L := [some (.inr (.inr 55)), some (.inl a1), some (.inl 0), none, none]) (by simp [Lle]) ?_
  refine ev_Kn_searchFor_l2 a1 _ ?_ fu 0 g r g' h
  · intro g4 r g' h
    refine ev_runs 1 (128, [none, none, none, none, none], [], g4) (129, [none, none, none, none, none], [.inl 0], g4) rfl ?_
    cases h
    exact er rfl
set_option maxRecDepth 100000 in
set_option maxHeartbeats 4000000 in
theorem ev_Kn_search_l36 (K36_65 : Gx → Option Gx) (hK36_65 : ∀ (g : Gx) (g' : Gx), K36_65 g = some g' → Ev 123 65 [none, none] [] g none g') : ∀ (n36 : Nat) (v1 : Int) (g : Gx) (g' : Gx), Kn_search_l36 K36_65 n36 v1 g = some g' → Ev 123 36 [some (.inr (.inr 55)), some (.inl v1)] [] g none g' := by
  intro n36
  induction n36 with
  | zero => intro v1 g g' h; cases h
  | succ n36 ih36 =>
    intro v1 g g' h
    rw [Kn_search_l36] at h
    refine ev_runs 2 (36, [some (.inr (.inr 55)), some (.inl v1)], [], g) (39, [some (.inr (.inr 55)), some (.inl v1)], [.inl 6, .inl v1], g) rfl ?_
    by_cases hc : 6 ≤ v1
    · rw [if_pos hc] at h
      refine es (65, [some (.inr (.inr 55)), some (.inl v1)], [], g) (congrArg some (if_pos hc)) ?_
      exact ev_le (L := [none, none]) (by simp [Lle]) (hK36_65 g g' h)
    · rw [if_neg hc] at h
      refine es (42, [some (.inr (.inr 55)), some (.inl v1)], [], g) (congrArg some (if_neg hc)) ?_
      refine ev_runs 3 (42, [some (.inr (.inr 55)), some (.inl v1)], [], g) (47, [some (.inr (.inr 55)), some (.inl v1)], [.inl v1, .inr (.inr 50)], g) rfl ?_
      obtain ⟨g1, hq, h⟩ := Option.bind_eq_some_iff.mp h
      refine ec 94 50 [.inr (.inr 50), .inl v1] [] rfl (ev_Lk_load v1 g g1 hq) ?_
      show Ev 123 50 [some (.inr (.inr 55)), some (.inl v1)] [] g1 _ _
      refine ev_runs 2 (50, [some (.inr (.inr 55)), some (.inl v1)], [], g1) (52, [some (.inr (.inr 55)), some (.inl v1)], [.inl v1, .inr (.inr 55)], g1) rfl ?_
      obtain ⟨q2, hq, h⟩ := Option.bind_eq_some_iff.mp h
      refine ec 122 55 [.inr (.inr 55), .inl v1] [] rfl (ev_Kn_searchFor v1 g1 q2.1 q2.2 hq) ?_
      show Ev 123 55 [some (.inr (.inr 55)), some (.inl v1)] [.inl q2.1] q2.2 _ _
      by_cases hc : q2.1 = 0
      · rw [if_pos hc] at h
        refine es (59, [some (.inr (.inr 55)), some (.inl v1)], [], q2.2) (congrArg some (if_pos hc)) ?_
        refine ev_runs 2 (59, [some (.inr (.inr 55)), some (.inl v1)], [], q2.2) (36, [some (.inr (.inr 55)), some (.inl (wr (v1 + 1)))], [], q2.2) rfl ?_
        exact ev_le (L := [some (.inr (.inr 55)), some (.inl (wr (v1 + 1)))]) (by simp [Lle]) (ih36 (wr (v1 + 1)) q2.2 g' h)
      · rw [if_neg hc] at h
        refine es (58, [some (.inr (.inr 55)), some (.inl v1)], [], q2.2) (congrArg some (if_neg hc)) ?_
        cases h
        exact er rfl
set_option maxRecDepth 100000 in
set_option maxHeartbeats 4000000 in
theorem ev_Kn_search (g : Gx) (g' : Gx) (h : Kn_search g = some g') : Ev 123 0 [some (.inr (.inr 55)), none] [] g none g' := by
  rw [Kn_search] at h
  refine ev_runs 4 (0, [some (.inr (.inr 55)), none], [], g) (8, [some (.inr (.inr 55)), none], [.inr (.inr 33), .inl (g 55 5)], g) rfl ?_
  refine ec 118 11 [.inr (.inr 33)] [.inl (g 55 5)] rfl (ev_Hi_makings g _ rfl) ?_
  show Ev 123 11 [some (.inr (.inr 55)), none] [.inl (Hi_makings g), .inl (g 55 5)] g _ _
  by_cases hc : ¬ (g 55 5) = (Hi_makings g)
  · rw [if_pos hc] at h
    refine es (15, [some (.inr (.inr 55)), none], [], g) (congrArg some (if_pos hc)) ?_
    refine ev_runs 3 (15, [some (.inr (.inr 55)), none], [], g) (20, [some (.inr (.inr 55)), none], [.inr (.inr 33), .inr (.inr 55)], g) rfl ?_
    refine ec 118 23 [.inr (.inr 33)] [.inr (.inr 55)] rfl (ev_Hi_makings g _ rfl) ?_
    show Ev 123 23 [some (.inr (.inr 55)), none] [.inl (Hi_makings g), .inr (.inr 55)] g _ _
    refine ev_runs 4 (23, [some (.inr (.inr 55)), none], [.inl (Hi_makings g), .inr (.inr 55)], g) (31, [some (.inr (.inr 55)), none], [.inl (-1), .inr (.inr 56)], (gset g 55 5 (Hi_makings g))) rfl ?_
    refine ec 119 34 [.inr (.inr 56), .inl (-1)] [] rfl (ev_Row_fill rfl rfl (by decide) _ _) ?_
    show Ev 123 34 [some (.inr (.inr 55)), none] [] (rfill (gset g 55 5 (Hi_makings g)) 57 4 (-1)) _ _
    refine ev_runs 2 (34, [some (.inr (.inr 55)), none], [], (rfill (gset g 55 5 (Hi_makings g)) 57 4 (-1))) (36, [some (.inr (.inr 55)), some (.inl 0)], [], (rfill (gset g 55 5 (Hi_makings g)) 57 4 (-1))) rfl ?_
    refine ev_le (L := [some (.inr (.inr 55)), some (.inl 0)]) (by simp [Lle]) ?_
    refine ev_Kn_search_l36 _ ?_ fu 0 (rfill (gset g 55 5 (Hi_makings g)) 57 4 (-1)) g' h
    · intro g3 g' h
      cases h
      exact er rfl
  · rw [if_neg hc] at h
    refine es (14, [some (.inr (.inr 55)), none], [], g) (congrArg some (if_neg hc)) ?_
    cases h
    exact er rfl
set_option maxRecDepth 100000 in
set_option maxHeartbeats 4000000 in
theorem ev_Kn_soundness (g : Gx) (r : Int) (g' : Gx) (h : Kn_soundness g = some (r, g')) : Ev 124 0 [some (.inr (.inr 55))] [] g (some (.inl r)) g' := by
  rw [Kn_soundness] at h
  refine ev_runs 1 (0, [some (.inr (.inr 55))], [], g) (1, [some (.inr (.inr 55))], [.inr (.inr 55)], g) rfl ?_
  obtain ⟨g1, hq, h⟩ := Option.bind_eq_some_iff.mp h
  refine ec 123 4 [.inr (.inr 55)] [] rfl (ev_Kn_search g g1 hq) ?_
  show Ev 124 4 [some (.inr (.inr 55))] [] g1 _ _
  refine ev_runs 3 (4, [some (.inr (.inr 55))], [], g1) (9, [some (.inr (.inr 55))], [.inl 0, .inr (.inr 56)], g1) rfl ?_
  refine ec 13 12 [.inr (.inr 56), .inl 0] [] rfl (ev_Row_at rfl rfl _ _) ?_
  show Ev 124 12 [some (.inr (.inr 55))] [.inl (rat g1 57 4 0)] g1 _ _
  refine ev_runs 1 (12, [some (.inr (.inr 55))], [.inl (rat g1 57 4 0)], g1) (13, [some (.inr (.inr 55))], [.inl (-1), .inl (rat g1 57 4 0)], g1) rfl ?_
  by_cases hc : ¬ (rat g1 57 4 0) = (-1)
  · rw [if_pos hc] at h
    refine es (20, [some (.inr (.inr 55))], [], g1) (congrArg some (if_pos hc)) ?_
    refine ev_runs 1 (20, [some (.inr (.inr 55))], [], g1) (21, [some (.inr (.inr 55))], [.inl 0], g1) rfl ?_
    cases h
    exact er rfl
  · rw [if_neg hc] at h
    refine es (16, [some (.inr (.inr 55))], [], g1) (congrArg some (if_neg hc)) ?_
    refine ev_runs 2 (16, [some (.inr (.inr 55))], [], g1) (21, [some (.inr (.inr 55))], [.inl 1], g1) rfl ?_
    cases h
    exact er rfl
set_option maxRecDepth 100000 in
set_option maxHeartbeats 4000000 in
theorem ev_Op_sound (g : Gx) (r : Int) (g' : Gx) (h : Op_sound g = some (r, g')) : Ev 125 0 [some (.inr (.inr 0)), none] [] g (some (.inl r)) g' := by
  rw [Op_sound] at h
  refine ev_runs 2 (0, [some (.inr (.inr 0)), none], [], g) (2, [some (.inr (.inr 0)), none], [.inl 0, .inr (.inr 0)], g) rfl ?_
  obtain ⟨q1, hq, h⟩ := Option.bind_eq_some_iff.mp h
  refine ec 75 5 [.inr (.inr 0), .inl 0] [] rfl (ev_Op_hindrance 0 g q1.1 q1.2 hq) ?_
  show Ev 125 5 [some (.inr (.inr 0)), none] [.inl q1.1] q1.2 _ _
  refine ev_runs 2 (5, [some (.inr (.inr 0)), none], [.inl q1.1], q1.2) (7, [some (.inr (.inr 0)), some (.inl q1.1)], [.inl q1.1], q1.2) rfl ?_
  by_cases hc : q1.1 = 0
  · rw [if_pos hc] at h
    refine es (14, [some (.inr (.inr 0)), some (.inl q1.1)], [], q1.2) (congrArg some (if_pos hc)) ?_
    refine ev_runs 2 (14, [some (.inr (.inr 0)), some (.inl q1.1)], [], q1.2) (18, [some (.inr (.inr 0)), some (.inl q1.1)], [.inr (.inr 55)], q1.2) rfl ?_
    obtain ⟨q2, hq, h⟩ := Option.bind_eq_some_iff.mp h
    refine ec 124 21 [.inr (.inr 55)] [] rfl (ev_Kn_soundness q1.2 q2.1 q2.2 hq) ?_
    show Ev 125 21 [some (.inr (.inr 0)), some (.inl q1.1)] [.inl q2.1] q2.2 _ _
    cases h
    exact er rfl
  · rw [if_neg hc] at h
    refine es (10, [some (.inr (.inr 0)), some (.inl q1.1)], [], q1.2) (congrArg some (if_neg hc)) ?_
    refine ev_runs 2 (10, [some (.inr (.inr 0)), some (.inl q1.1)], [], q1.2) (21, [some (.inr (.inr 0)), some (.inl q1.1)], [.inl q1.1], q1.2) rfl ?_
    cases h
    exact er rfl
set_option maxRecDepth 100000 in
set_option maxHeartbeats 4000000 in
theorem ev_Md_isSound_l26 (c1 : Int) (c2 : Int) (K26_124 : Gx → Option (Int × Gx)) (hK26_124 : ∀ (g : Gx) (r : Int) (g' : Gx), K26_124 g = some (r, g') → Ev 126 124 [some (.inr (.inr 92)), some (.inl c1), some (.inl c2), none, none] [] g (some (.inl r)) g') : ∀ (n26 : Nat) (v3 : Int) (g : Gx) (r : Int) (g' : Gx), Md_isSound_l26 c1 c2 K26_124 n26 v3 g = some (r, g') → Ev 126 26 [some (.inr (.inr 92)), some (.inl c1), some (.inl c2), some (.inl v3), none] [] g (some (.inl r)) g' := by
  intro n26
  induction n26 with
  | zero => intro v3 g r g' h; cases h
  | succ n26 ih26 =>
    intro v3 g r g' h
    rw [Md_isSound_l26] at h
    refine ev_runs 3 (26, [some (.inr (.inr 92)), some (.inl c1), some (.inl c2), some (.inl v3), none], [], g) (31, [some (.inr (.inr 92)), some (.inl c1), some (.inl c2), some (.inl v3), none], [.inl (g 92 26), .inl v3], g) rfl ?_
    by_cases hc : (g 92 26) ≤ v3
    · rw [if_pos hc] at h
      refine es (124, [some (.inr (.inr 92)), some (.inl c1), some (.inl c2), some (.inl v3), none], [], g) (congrArg some (if_pos hc)) ?_
      exact ev_le (L := [some (.inr (.inr 92)), some (.inl c1), some (.inl c2), none, none]) (by simp [Lle]) (hK26_124 g r g' h)
    · rw [if_neg hc] at h
      refine es (34, [some (.inr (.inr 92)), some (.inl c1), some (.inl c2), some (.inl v3), none], [], g) (congrArg some (if_neg hc)) ?_
      refine ev_runs 4 (34, [some (.inr (.inr 92)), some (.inl c1), some (.inl c2), some (.inl v3), none], [], g) (38, [some (.inr (.inr 92)), some (.inl c1), some (.inl c2), some (.inl v3), none], [.inl v3, .inl c2, .inl c1, .inr (.inr 92)], g) rfl ?_
      obtain ⟨q2, hq, h⟩ := Option.bind_eq_some_iff.mp h
      refine ec 111 41 [.inr (.inr 92), .inl c1, .inl c2, .inl v3] [] rfl (ev_Md_unlike c1 c2 v3 g q2.1 q2.2 hq) ?_
      show Ev 126 41 [some (.inr (.inr 92)), some (.inl c1), some (.inl c2), some (.inl v3), none] [.inl q2.1] q2.2 _ _
      refine ev_runs 3 (41, [some (.inr (.inr 92)), some (.inl c1), some (.inl c2), some (.inl v3), none], [.inl q2.1], q2.2) (46, [some (.inr (.inr 92)), some (.inl c1), some (.inl c2), some (.inl v3), some (.inl q2.1)], [.inl (-1), .inl q2.1], q2.2) rfl ?_
      by_cases hc : q2.1 = (-1)
      · rw [if_pos hc] at h
        refine es (118, [some (.inr (.inr 92)), some (.inl c1), some (.inl c2), some (.inl v3), some (.inl q2.1)], [], q2.2) (congrArg some (if_pos hc)) ?_
        refine ev_runs 2 (118, [some (.inr (.inr 92)), some (.inl c1), some (.inl c2), some (.inl v3), some (.inl q2.1)], [], q2.2) (26, [some (.inr (.inr 92)), some (.inl c1), some (.inl c2), some (.inl (wr (v3 + 1))), some (.inl q2.1)], [], q2.2) rfl ?_
        exact ev_le (L := [some (.inr (.inr 92)), some (.inl c1), some (.inl c2), some (.inl (wr (v3 + 1))), none]) (by simp [Lle]) (ih26 (wr (v3 + 1)) q2.2 r g' h)
      · rw [if_neg hc] at h
        refine es (49, [some (.inr (.inr 92)), some (.inl c1), some (.inl c2), some (.inl v3), some (.inl q2.1)], [], q2.2) (congrArg some (if_neg hc)) ?_
        refine ev_runs 3 (49, [some (.inr (.inr 92)), some (.inl c1), some (.inl c2), some (.inl v3), some (.inl q2.1)], [], q2.2) (52, [some (.inr (.inr 92)), some (.inl c1), some (.inl c2), some (.inl v3), some (.inl q2.1)], [.inl v3, .inl c2, .inr (.inr 92)], q2.2) rfl ?_
        obtain ⟨q3, hq, h⟩ := Option.bind_eq_some_iff.mp h
        refine ec 116 55 [.inr (.inr 92), .inl c2, .inl v3] [] rfl (ev_Md_parting c2 v3 q2.2 q3.1 q3.2 hq) ?_
        show Ev 126 55 [some (.inr (.inr 92)), some (.inl c1), some (.inl c2), some (.inl v3), some (.inl q2.1)] [.inl q3.1] q3.2 _ _
        refine ev_runs 1 (55, [some (.inr (.inr 92)), some (.inl c1), some (.inl c2), some (.inl v3), some (.inl q2.1)], [.inl q3.1], q3.2) (56, [some (.inr (.inr 92)), some (.inl c1), some (.inl c2), some (.inl v3), some (.inl q2.1)], [.inl c1, .inl q3.1], q3.2) rfl ?_
        by_cases hc : q3.1 = c1
        · rw [if_pos hc] at h
          refine es (118, [some (.inr (.inr 92)), some (.inl c1), some (.inl c2), some (.inl v3), some (.inl q2.1)], [], q3.2) (congrArg some (if_pos hc)) ?_
          refine ev_runs 2 (118, [some (.inr (.inr 92)), some (.inl c1), some (.inl c2), some (.inl v3), some (.inl q2.1)], [], q3.2) (26, [some (.inr (.inr 92)), some (.inl c1), some (.inl c2), some (.inl (wr (v3 + 1))), some (.inl q2.1)], [], q3.2) rfl ?_
          exact ev_le (L := [some (.inr (.inr 92)), some (.inl c1), some (.inl c2), some (.inl (wr (v3 + 1))), none]) (by simp [Lle]) (ih26 (wr (v3 + 1)) q3.2 r g' h)
        · rw [if_neg hc] at h
          refine es (59, [some (.inr (.inr 92)), some (.inl c1), some (.inl c2), some (.inl v3), some (.inl q2.1)], [], q3.2) (congrArg some (if_neg hc)) ?_
          refine ev_runs 4 (59, [some (.inr (.inr 92)), some (.inl c1), some (.inl c2), some (.inl v3), some (.inl q2.1)], [], q3.2) (64, [some (.inr (.inr 92)), some (.inl c1), some (.inl c2), some (.inl v3), some (.inl q2.1)], [.inl q2.1, .inl c2, .inl c1, .inr (.inr 92)], q3.2) rfl ?_
          obtain ⟨q4, hq, h⟩ := Option.bind_eq_some_iff.mp h
          refine ec 102 67 [.inr (.inr 92), .inl c1, .inl c2, .inl q2.1] [] rfl (ev_Md_lookAt c1 c2 q2.1 q3.2 q4.1 q4.2 hq) ?_
          show Ev 126 67 [some (.inr (.inr 92)), some (.inl c1), some (.inl c2), some (.inl v3), some (.inl q2.1)] [.inl q4.1] q4.2 _ _
          refine ev_runs 1 (67, [some (.inr (.inr 92)), some (.inl c1), some (.inl c2), some (.inl v3), some (.inl q2.1)], [.inl q4.1], q4.2) (70, [some (.inr (.inr 92)), some (.inl c1), some (.inl c2), some (.inl v3), some (.inl q2.1)], [.inl 20000, .inl q4.1], q4.2) rfl ?_
          by_cases hc : q4.1 < 20000
          · rw [if_pos hc] at h
            refine es (87, [some (.inr (.inr 92)), some (.inl c1), some (.inl c2), some (.inl v3), some (.inl q2.1)], [], q4.2) (congrArg some (if_pos hc)) ?_
            refine ev_runs 21 (87, [some (.inr (.inr 92)), some (.inl c1), some (.inl c2), some (.inl v3), some (.inl q2.1)], [], q4.2) (117, [some (.inr (.inr 92)), some (.inl c1), some (.inl c2), some (.inl v3), some (.inl q2.1)], [.inl 0], (gset (gset (gset (gset q4.2 120 0 c1) 120 1 c2) 120 2 v3) 120 3 q2.1)) rfl ?_
            cases h
            exact er rfl
          · rw [if_neg hc] at h
            refine es (73, [some (.inr (.inr 92)), some (.inl c1), some (.inl c2), some (.inl v3), some (.inl q2.1)], [], q4.2) (congrArg some (if_neg hc)) ?_
            refine ev_runs 4 (73, [some (.inr (.inr 92)), some (.inl c1), some (.inl c2), some (.inl v3), some (.inl q2.1)], [], q4.2) (78, [some (.inr (.inr 92)), some (.inl c1), some (.inl c2), some (.inl v3), some (.inl q2.1)], [.inl q2.1, .inl v3, .inl c1, .inr (.inr 92)], q4.2) rfl ?_
            obtain ⟨q5, hq, h⟩ := Option.bind_eq_some_iff.mp h
            refine ec 102 81 [.inr (.inr 92), .inl c1, .inl v3, .inl q2.1] [] rfl (ev_Md_lookAt c1 v3 q2.1 q4.2 q5.1 q5.2 hq) ?_
            show Ev 126 81 [some (.inr (.inr 92)), some (.inl c1), some (.inl c2), some (.inl v3), some (.inl q2.1)] [.inl q5.1] q5.2 _ _
            refine ev_runs 1 (81, [some (.inr (.inr 92)), some (.inl c1), some (.inl c2), some (.inl v3), some (.inl q2.1)], [.inl q5.1], q5.2) (84, [some (.inr (.inr 92)), some (.inl c1), some (.inl c2), some (.inl v3), some (.inl q2.1)], [.inl 20000, .inl q5.1], q5.2) rfl ?_
            by_cases hc : 20000 ≤ q5.1
            · rw [if_pos hc] at h
              refine es (118, [some (.inr (.inr 92)), some (.inl c1), some (.inl c2), some (.inl v3), some (.inl q2.1)], [], q5.2) (congrArg some (if_pos hc)) ?_
              refine ev_runs 2 (118, [some (.inr (.inr 92)), some (.inl c1), some (.inl c2), some (.inl v3), some (.inl q2.1)], [], q5.2) (26, [some (.inr (.inr 92)), some (.inl c1), some (.inl c2), some (.inl (wr (v3 + 1))), some (.inl q2.1)], [], q5.2) rfl ?_
              exact ev_le (L := [some (.inr (.inr 92)), some (.inl c1), some (.inl c2), some (.inl (wr (v3 + 1))), none]) (by simp [Lle]) (ih26 (wr (v3 + 1)) q5.2 r g' h)
            · rw [if_neg hc] at h
              refine es (87, [some (.inr (.inr 92)), some (.inl c1), some (.inl c2), some (.inl v3), some (.inl q2.1)], [], q5.2) (congrArg some (if_neg hc)) ?_
              refine ev_runs 21 (87, [some (.inr (.inr 92)), some (.inl c1), some (.inl c2), some (.inl v3), some (.inl q2.1)], [], q5.2) (117, [some (.inr (.inr 92)), some (.inl c1), some (.inl c2), some (.inl v3), some (.inl q2.1)], [.inl 0], (gset (gset (gset (gset q5.2 120 0 c1) 120 1 c2) 120 2 v3) 120 3 q2.1)) rfl ?_
              cases h
              exact er rfl
set_option maxRecDepth 100000 in
set_option maxHeartbeats 4000000 in
theorem ev_Md_isSound_l14 (c1 : Int) (K14_130 : Gx → Option (Int × Gx)) (hK14_130 : ∀ (g : Gx) (r : Int) (g' : Gx), K14_130 g = some (r, g') → Ev 126 130 [some (.inr (.inr 92)), some (.inl c1), none, none, none] [] g (some (.inl r)) g') : ∀ (n14 : Nat) (v2 : Int) (g : Gx) (r : Int) (g' : Gx), Md_isSound_l14 c1 K14_130 n14 v2 g = some (r, g') → Ev 126 14 [some (.inr (.inr 92)), some (.inl c1), some (.inl v2), none, none] [] g (some (.inl r)) g' := by
  intro n14
  induction n14 with
  | zero => intro v2 g r g' h; cases h
  | succ n14 ih14 =>
    intro v2 g r g' h
    rw [Md_isSound_l14] at h
    refine ev_runs 3 (14, [some (.inr (.inr 92)), some (.inl c1), some (.inl v2), none, none], [], g) (19, [some (.inr (.inr 92)), some (.inl c1), some (.inl v2), none, none], [.inl (g 92 26), .inl v2], g) rfl ?_
    by_cases hc : (g 92 26) ≤ v2
    · rw [if_pos hc] at h
      refine es (130, [some (.inr (.inr 92)), some (.inl c1), some (.inl v2), none, none], [], g) (congrArg some (if_pos hc)) ?_
      exact ev_le (L := [some (.inr (.inr 92)), some (.inl c1), none, none, none]) (by simp [Lle]) (hK14_130 g r g' h)
    · rw [if_neg hc] at h
      refine es (22, [some (.inr (.inr 92)), some (.inl c1), some (.inl v2), none, none], [], g) (congrArg some (if_neg hc)) ?_
      refine ev_runs 4 (22, [some (.inr (.inr 92)), some (.inl c1), some (.inl v2), none, none], [], g) (26, [some (.inr (.inr 92)), some (.inl c1), some (.inl v2), some (.inl (wr (v2 + 1))), none], [], g) rfl ?_
      refine ev_le (L := [some (.inr (.inr 92)), some (.inl c1), some (.inl v2), some (.inl (wr (v2 + 1))), none]) (by simp [Lle]) ?_
      refine ev_Md_isSound_l26 c1 v2 _ ?_ fu (wr (v2 + 1)) g r g' h
      · intro g6 r g' h
        refine ev_runs 2 (124, [some (.inr (.inr 92)), some (.inl c1), some (.inl v2), none, none], [], g6) (14, [some (.inr (.inr 92)), some (.inl c1), some (.inl (wr (v2 + 1))), none, none], [], g6) rfl ?_
        exact ev_le (L := [some (.inr (.inr 92)), some (.inl c1), some (.inl (wr (v2 + 1))), none, none]) (by simp [Lle]) (ih14 (wr (v2 + 1)) g6 r g' h)
set_option maxRecDepth 100000 in
set_option maxHeartbeats 4000000 in
theorem ev_Md_isSound_l6 (K6_136 : Gx → Option (Int × Gx)) (hK6_136 : ∀ (g : Gx) (r : Int) (g' : Gx), K6_136 g = some (r, g') → Ev 126 136 [none, none, none, none, none] [] g (some (.inl r)) g') : ∀ (n6 : Nat) (v1 : Int) (g : Gx) (r : Int) (g' : Gx), Md_isSound_l6 K6_136 n6 v1 g = some (r, g') → Ev 126 6 [some (.inr (.inr 92)), some (.inl v1), none, none, none] [] g (some (.inl r)) g' := by
  intro n6
  induction n6 with
  | zero => intro v1 g r g' h; cases h
  | succ n6 ih6 =>
    intro v1 g r g' h
    rw [Md_isSound_l6] at h
    refine ev_runs 2 (6, [some (.inr (.inr 92)), some (.inl v1), none, none, none], [], g) (9, [some (.inr (.inr 92)), some (.inl v1), none, none, none], [.inl 6, .inl v1], g) rfl ?_
    by_cases hc : 6 ≤ v1
    · rw [if_pos hc] at h
      refine es (136, [some (.inr (.inr 92)), some (.inl v1), none, none, none], [], g) (congrArg some (if_pos hc)) ?_
      exact ev_le (L := [none, none, none, none, none]) (by simp [Lle]) (hK6_136 g r g' h)
    · rw [if_neg hc] at h
      refine es (12, [some (.inr (.inr 92)), some (.inl v1), none, none, none], [], g) (congrArg some (if_neg hc)) ?_
      refine ev_runs 2 (12, [some (.inr (.inr 92)), some (.inl v1), none, none, none], [], g) (14, [some (.inr (.inr 92)), some (.inl v1), some (.inl 0), none, none], [], g) rfl ?_
      refine ev_le (L := [some (.inr (.inr 92)), some (.inl v1), some (.inl 0), none, none]) (by simp [Lle]) ?_
      refine ev_Md_isSound_l14 v1 _ ?_ fu 0 g r g' h
      · intro g7 r g' h
        refine ev_runs 2 (130, [some (.inr (.inr 92)), some (.inl v1), none, none, none], [], g7) (6, [some (.inr (.inr 92)), some (.inl (wr (v1 + 1))), none, none, none], [], g7) rfl ?_
        exact ev_le (L := [some (.inr (.inr 92)), some (.inl (wr (v1 + 1))), none, none, none]) (by simp [Lle]) (ih6 (wr (v1 + 1)) g7 r g' h)
set_option maxRecDepth 100000 in
set_option maxHeartbeats 4000000 in
theorem ev_Md_isSound (g : Gx) (r : Int) (g' : Gx) (h : Md_isSound g = some (r, g')) : Ev 126 0 [some (.inr (.inr 92)), none, none, none, none] [] g (some (.inl r)) g' := by
  rw [Md_isSound] at h
  refine ev_runs 1 (0, [some (.inr (.inr 92)), none, none, none, none], [], g) (1, [some (.inr (.inr 92)), none, none, none, none], [.inr (.inr 92)], g) rfl ?_
  obtain ⟨g1, hq, h⟩ := Option.bind_eq_some_iff.mp h
  refine ec 101 4 [.inr (.inr 92)] [] rfl (ev_Md_findLooks g g1 hq) ?_
  show Ev 126 4 [some (.inr (.inr 92)), none, none, none, none] [] g1 _ _
  refine ev_runs 2 (4, [some (.inr (.inr 92)), none, none, none, none], [], g1) (6, [some (.inr (.inr 92)), some (.inl 0), none, none, none], [], g1) rfl ?_
  refine ev_le (L := [some (.inr (.inr 92)), some (.inl 0), none, none, none]) (by simp [Lle]) ?_
  refine ev_Md_isSound_l6 _ ?_ fu 0 g1 r g' h
  · intro g8 r g' h
    refine ev_runs 1 (136, [none, none, none, none, none], [], g8) (137, [none, none, none, none, none], [.inl 1], g8) rfl ?_
    cases h
    exact er rfl
set_option maxRecDepth 100000 in
set_option maxHeartbeats 4000000 in
theorem ev_Md_sound (g : Gx) (r : Int) (g' : Gx) (h : Md_sound g = some (r, g')) : Ev 127 0 [some (.inr (.inr 92)), none] [] g (some (.inl r)) g' := by
  rw [Md_sound] at h
  refine ev_runs 1 (0, [some (.inr (.inr 92)), none], [], g) (1, [some (.inr (.inr 92)), none], [.inr (.inr 92)], g) rfl ?_
  obtain ⟨q1, hq, h⟩ := Option.bind_eq_some_iff.mp h
  refine ec 81 4 [.inr (.inr 92)] [] rfl (ev_Md_without g q1.1 q1.2 hq) ?_
  show Ev 127 4 [some (.inr (.inr 92)), none] [.inl q1.1] q1.2 _ _
  refine ev_runs 2 (4, [some (.inr (.inr 92)), none], [.inl q1.1], q1.2) (6, [some (.inr (.inr 92)), some (.inl q1.1)], [.inl q1.1], q1.2) rfl ?_
  by_cases hc : q1.1 = 0
  · rw [if_pos hc] at h
    refine es (13, [some (.inr (.inr 92)), some (.inl q1.1)], [], q1.2) (congrArg some (if_pos hc)) ?_
    refine ev_runs 1 (13, [some (.inr (.inr 92)), some (.inl q1.1)], [], q1.2) (14, [some (.inr (.inr 92)), some (.inl q1.1)], [.inr (.inr 92)], q1.2) rfl ?_
    obtain ⟨q2, hq, h⟩ := Option.bind_eq_some_iff.mp h
    refine ec 126 17 [.inr (.inr 92)] [] rfl (ev_Md_isSound q1.2 q2.1 q2.2 hq) ?_
    show Ev 127 17 [some (.inr (.inr 92)), some (.inl q1.1)] [.inl q2.1] q2.2 _ _
    by_cases hc : q2.1 = 0
    · rw [if_pos hc] at h
      refine es (24, [some (.inr (.inr 92)), some (.inl q1.1)], [], q2.2) (congrArg some (if_pos hc)) ?_
      refine ev_runs 1 (24, [some (.inr (.inr 92)), some (.inl q1.1)], [], q2.2) (25, [some (.inr (.inr 92)), some (.inl q1.1)], [.inl 0], q2.2) rfl ?_
      cases h
      exact er rfl
    · rw [if_neg hc] at h
      refine es (20, [some (.inr (.inr 92)), some (.inl q1.1)], [], q2.2) (congrArg some (if_neg hc)) ?_
      refine ev_runs 2 (20, [some (.inr (.inr 92)), some (.inl q1.1)], [], q2.2) (25, [some (.inr (.inr 92)), some (.inl q1.1)], [.inl 1], q2.2) rfl ?_
      cases h
      exact er rfl
  · rw [if_neg hc] at h
    refine es (9, [some (.inr (.inr 92)), some (.inl q1.1)], [], q1.2) (congrArg some (if_neg hc)) ?_
    refine ev_runs 2 (9, [some (.inr (.inr 92)), some (.inl q1.1)], [], q1.2) (25, [some (.inr (.inr 92)), some (.inl q1.1)], [.inl q1.1], q1.2) rfl ?_
    cases h
    exact er rfl
set_option maxRecDepth 100000 in
set_option maxHeartbeats 4000000 in
theorem ev_Kn_momentPart (a1 : Int) (g : Gx) (r : Int) (g' : Gx) (h : Kn_momentPart a1 g = some (r, g')) : Ev 128 0 [some (.inr (.inr 55)), some (.inl a1)] [] g (some (.inl r)) g' := by
  rw [Kn_momentPart] at h
  refine ev_runs 1 (0, [some (.inr (.inr 55)), some (.inl a1)], [], g) (1, [some (.inr (.inr 55)), some (.inl a1)], [.inr (.inr 55)], g) rfl ?_
  obtain ⟨g1, hq, h⟩ := Option.bind_eq_some_iff.mp h
  refine ec 123 4 [.inr (.inr 55)] [] rfl (ev_Kn_search g g1 hq) ?_
  show Ev 128 4 [some (.inr (.inr 55)), some (.inl a1)] [] g1 _ _
  refine ev_runs 3 (4, [some (.inr (.inr 55)), some (.inl a1)], [], g1) (9, [some (.inr (.inr 55)), some (.inl a1)], [.inl a1, .inr (.inr 56)], g1) rfl ?_
  refine ec 13 12 [.inr (.inr 56), .inl a1] [] rfl (ev_Row_at rfl rfl _ _) ?_
  show Ev 128 12 [some (.inr (.inr 55)), some (.inl a1)] [.inl (rat g1 57 4 a1)] g1 _ _
  cases h
  exact er rfl
set_option maxRecDepth 100000 in
set_option maxHeartbeats 4000000 in
theorem ev_Op_moment (a1 : Int) (g : Gx) (r : Int) (g' : Gx) (h : Op_moment a1 g = some (r, g')) : Ev 129 0 [some (.inr (.inr 0)), some (.inl a1), none] [] g (some (.inl r)) g' := by
  rw [Op_moment] at h
  refine ev_runs 1 (0, [some (.inr (.inr 0)), some (.inl a1), none], [], g) (1, [some (.inr (.inr 0)), some (.inl a1), none], [.inl a1], g) rfl ?_
  by_cases hc : a1 < 0
  · rw [if_pos hc] at h
    refine es (9, [some (.inr (.inr 0)), some (.inl a1), none], [], g) (congrArg some (if_pos hc)) ?_
    refine ev_runs 1 (9, [some (.inr (.inr 0)), some (.inl a1), none], [], g) (11, [some (.inr (.inr 0)), some (.inl a1), none], [.inl (-2)], g) rfl ?_
    cases h
    exact er rfl
  · rw [if_neg hc] at h
    refine es (4, [some (.inr (.inr 0)), some (.inl a1), none], [], g) (congrArg some (if_neg hc)) ?_
    refine ev_runs 2 (4, [some (.inr (.inr 0)), some (.inl a1), none], [], g) (6, [some (.inr (.inr 0)), some (.inl a1), none], [.inl 3, .inl a1], g) rfl ?_
    by_cases hc : a1 ≤ 3
    · rw [if_pos hc] at h
      refine es (12, [some (.inr (.inr 0)), some (.inl a1), none], [], g) (congrArg some (if_pos hc)) ?_
      refine ev_runs 2 (12, [some (.inr (.inr 0)), some (.inl a1), none], [], g) (14, [some (.inr (.inr 0)), some (.inl a1), none], [.inl 0, .inr (.inr 0)], g) rfl ?_
      obtain ⟨q1, hq, h⟩ := Option.bind_eq_some_iff.mp h
      refine ec 75 17 [.inr (.inr 0), .inl 0] [] rfl (ev_Op_hindrance 0 g q1.1 q1.2 hq) ?_
      show Ev 129 17 [some (.inr (.inr 0)), some (.inl a1), none] [.inl q1.1] q1.2 _ _
      refine ev_runs 2 (17, [some (.inr (.inr 0)), some (.inl a1), none], [.inl q1.1], q1.2) (19, [some (.inr (.inr 0)), some (.inl a1), some (.inl q1.1)], [.inl q1.1], q1.2) rfl ?_
      by_cases hc : q1.1 = 0
      · rw [if_pos hc] at h
        refine es (26, [some (.inr (.inr 0)), some (.inl a1), some (.inl q1.1)], [], q1.2) (congrArg some (if_pos hc)) ?_
        refine ev_runs 3 (26, [some (.inr (.inr 0)), some (.inl a1), some (.inl q1.1)], [], q1.2) (31, [some (.inr (.inr 0)), some (.inl a1), some (.inl q1.1)], [.inl a1, .inr (.inr 55)], q1.2) rfl ?_
        obtain ⟨q2, hq, h⟩ := Option.bind_eq_some_iff.mp h
        refine ec 128 34 [.inr (.inr 55), .inl a1] [] rfl (ev_Kn_momentPart a1 q1.2 q2.1 q2.2 hq) ?_
        show Ev 129 34 [some (.inr (.inr 0)), some (.inl a1), some (.inl q1.1)] [.inl q2.1] q2.2 _ _
        cases h
        exact er rfl
      · rw [if_neg hc] at h
        refine es (22, [some (.inr (.inr 0)), some (.inl a1), some (.inl q1.1)], [], q1.2) (congrArg some (if_neg hc)) ?_
        refine ev_runs 2 (22, [some (.inr (.inr 0)), some (.inl a1), some (.inl q1.1)], [], q1.2) (34, [some (.inr (.inr 0)), some (.inl a1), some (.inl q1.1)], [.inl q1.1], q1.2) rfl ?_
        cases h
        exact er rfl
    · rw [if_neg hc] at h
      refine es (9, [some (.inr (.inr 0)), some (.inl a1), none], [], g) (congrArg some (if_neg hc)) ?_
      refine ev_runs 1 (9, [some (.inr (.inr 0)), some (.inl a1), none], [], g) (11, [some (.inr (.inr 0)), some (.inl a1), none], [.inl (-2)], g) rfl ?_
      cases h
      exact er rfl
set_option maxRecDepth 100000 in
set_option maxHeartbeats 4000000 in
theorem ev_Md_momentOf (a1 : Int) (g : Gx) (r : Int) (g' : Gx) (h : Md_momentOf a1 g = some (r, g')) : Ev 130 0 [some (.inr (.inr 92)), some (.inl a1), none] [] g (some (.inl r)) g' := by
  rw [Md_momentOf] at h
  refine ev_runs 1 (0, [some (.inr (.inr 92)), some (.inl a1), none], [], g) (1, [some (.inr (.inr 92)), some (.inl a1), none], [.inr (.inr 92)], g) rfl ?_
  obtain ⟨q1, hq, h⟩ := Option.bind_eq_some_iff.mp h
  refine ec 81 4 [.inr (.inr 92)] [] rfl (ev_Md_without g q1.1 q1.2 hq) ?_
  show Ev 130 4 [some (.inr (.inr 92)), some (.inl a1), none] [.inl q1.1] q1.2 _ _
  refine ev_runs 2 (4, [some (.inr (.inr 92)), some (.inl a1), none], [.inl q1.1], q1.2) (6, [some (.inr (.inr 92)), some (.inl a1), some (.inl q1.1)], [.inl q1.1], q1.2) rfl ?_
  by_cases hc : q1.1 = 0
  · rw [if_pos hc] at h
    refine es (13, [some (.inr (.inr 92)), some (.inl a1), some (.inl q1.1)], [], q1.2) (congrArg some (if_pos hc)) ?_
    refine ev_runs 1 (13, [some (.inr (.inr 92)), some (.inl a1), some (.inl q1.1)], [], q1.2) (14, [some (.inr (.inr 92)), some (.inl a1), some (.inl q1.1)], [.inr (.inr 92)], q1.2) rfl ?_
    obtain ⟨q2, hq, h⟩ := Option.bind_eq_some_iff.mp h
    refine ec 126 17 [.inr (.inr 92)] [] rfl (ev_Md_isSound q1.2 q2.1 q2.2 hq) ?_
    show Ev 130 17 [some (.inr (.inr 92)), some (.inl a1), some (.inl q1.1)] [.inl q2.1] q2.2 _ _
    by_cases hc : q2.1 = 0
    · rw [if_pos hc] at h
      refine es (24, [some (.inr (.inr 92)), some (.inl a1), some (.inl q1.1)], [], q2.2) (congrArg some (if_pos hc)) ?_
      refine ev_runs 3 (24, [some (.inr (.inr 92)), some (.inl a1), some (.inl q1.1)], [], q2.2) (29, [some (.inr (.inr 92)), some (.inl a1), some (.inl q1.1)], [.inl a1, .inr (.inr 120)], q2.2) rfl ?_
      by_cases hc : 0 ≤ a1 ∧ a1 < 4
      · rw [if_pos hc] at h
        refine es (30, [some (.inr (.inr 92)), some (.inl a1), some (.inl q1.1)], [.inl (q2.2 120 a1.toNat)], q2.2) (if_pos hc) ?_
        cases h
        exact er rfl
      · rw [if_neg hc] at h; cases h
    · rw [if_neg hc] at h
      refine es (20, [some (.inr (.inr 92)), some (.inl a1), some (.inl q1.1)], [], q2.2) (congrArg some (if_neg hc)) ?_
      refine ev_runs 2 (20, [some (.inr (.inr 92)), some (.inl a1), some (.inl q1.1)], [], q2.2) (30, [some (.inr (.inr 92)), some (.inl a1), some (.inl q1.1)], [.inl (-1)], q2.2) rfl ?_
      cases h
      exact er rfl
  · rw [if_neg hc] at h
    refine es (9, [some (.inr (.inr 92)), some (.inl a1), some (.inl q1.1)], [], q1.2) (congrArg some (if_neg hc)) ?_
    refine ev_runs 2 (9, [some (.inr (.inr 92)), some (.inl a1), some (.inl q1.1)], [], q1.2) (30, [some (.inr (.inr 92)), some (.inl a1), some (.inl q1.1)], [.inl q1.1], q1.2) rfl ?_
    cases h
    exact er rfl
set_option maxRecDepth 100000 in
set_option maxHeartbeats 4000000 in
theorem ev_Md_moment (a1 : Int) (g : Gx) (r : Int) (g' : Gx) (h : Md_moment a1 g = some (r, g')) : Ev 131 0 [some (.inr (.inr 92)), some (.inl a1)] [] g (some (.inl r)) g' := by
  rw [Md_moment] at h
  refine ev_runs 4 (0, [some (.inr (.inr 92)), some (.inl a1)], [], g) (6, [some (.inr (.inr 92)), some (.inl a1)], [.inr (.inl 3), .inr (.inl 0), .inr (.inl a1)], g) rfl ?_
  refine ec 4 9 [.inr (.inl a1), .inr (.inl 0), .inr (.inl 3)] [] rfl (ev_Md_in a1 0 3 g _ rfl) ?_
  show Ev 131 9 [some (.inr (.inr 92)), some (.inl a1)] [.inl (Md_in a1 0 3)] g _ _
  by_cases hc : (Md_in a1 0 3) = 0
  · rw [if_pos hc] at h
    refine es (20, [some (.inr (.inr 92)), some (.inl a1)], [], g) (congrArg some (if_pos hc)) ?_
    refine ev_runs 1 (20, [some (.inr (.inr 92)), some (.inl a1)], [], g) (22, [some (.inr (.inr 92)), some (.inl a1)], [.inl (-2)], g) rfl ?_
    cases h
    exact er rfl
  · rw [if_neg hc] at h
    refine es (12, [some (.inr (.inr 92)), some (.inl a1)], [], g) (congrArg some (if_neg hc)) ?_
    refine ev_runs 2 (12, [some (.inr (.inr 92)), some (.inl a1)], [], g) (14, [some (.inr (.inr 92)), some (.inl a1)], [.inl a1, .inr (.inr 92)], g) rfl ?_
    obtain ⟨q1, hq, h⟩ := Option.bind_eq_some_iff.mp h
    refine ec 130 17 [.inr (.inr 92), .inl a1] [] rfl (ev_Md_momentOf a1 g q1.1 q1.2 hq) ?_
    show Ev 131 17 [some (.inr (.inr 92)), some (.inl a1)] [.inl q1.1] q1.2 _ _
    refine ev_runs 1 (17, [some (.inr (.inr 92)), some (.inl a1)], [.inl q1.1], q1.2) (22, [some (.inr (.inr 92)), some (.inl a1)], [.inl q1.1], q1.2) rfl ?_
    cases h
    exact er rfl
set_option maxRecDepth 100000 in
set_option maxHeartbeats 4000000 in
theorem ev_Kn_findCandidates_l44 (c1 : Int) (c3 : Int) (c4 : Int) (c5 : Int) (K44_86 : Int → Gx → Option (Int × Gx)) (hK44_86 : ∀ (x2 : Int) (g : Gx) (r : Int) (g' : Gx), K44_86 x2 g = some (r, g') → Ev 132 86 [some (.inr (.inr 55)), some (.inl c1), some (.inl x2), some (.inl c3), some (.inl c4), none, none] [] g (some (.inl r)) g') : ∀ (n44 : Nat) (v2 v6 : Int) (g : Gx) (r : Int) (g' : Gx), Kn_findCandidates_l44 c1 c3 c4 c5 K44_86 n44 v2 v6 g = some (r, g') → Ev 132 44 [some (.inr (.inr 55)), some (.inl c1), some (.inl v2), some (.inl c3), some (.inl c4), some (.inl c5), some (.inl v6)] [] g (some (.inl r)) g' := by
  intro n44
  induction n44 with
  | zero => intro v2 v6 g r g' h; cases h
  | succ n44 ih44 =>
    intro v2 v6 g r g' h
    rw [Kn_findCandidates_l44] at h
    refine ev_runs 2 (44, [some (.inr (.inr 55)), some (.inl c1), some (.inl v2), some (.inl c3), some (.inl c4), some (.inl c5), some (.inl v6)], [], g) (48, [some (.inr (.inr 55)), some (.inl c1), some (.inl v2), some (.inl c3), some (.inl c4), some (.inl c5), some (.inl v6)], [.inl 6, .inl v6], g) rfl ?_
    by_cases hc : 6 ≤ v6
    · rw [if_pos hc] at h
      refine es (86, [some (.inr (.inr 55)), some (.inl c1), some (.inl v2), some (.inl c3), some (.inl c4), some (.inl c5), some (.inl v6)], [], g) (congrArg some (if_pos hc)) ?_
      exact ev_le (L := [some (.inr (.inr 55)), some (.inl c1), some (.inl v2), some (.inl c3), some (.inl c4), none, none]) (by simp [Lle]) (hK44_86 v2 g r g' h)
    · rw [if_neg hc] at h
      refine es (51, [some (.inr (.inr 55)), some (.inl c1), some (.inl v2), some (.inl c3), some (.inl c4), some (.inl c5), some (.inl v6)], [], g) (congrArg some (if_neg hc)) ?_
      refine ev_runs 2 (51, [some (.inr (.inr 55)), some (.inl c1), some (.inl v2), some (.inl c3), some (.inl c4), some (.inl c5), some (.inl v6)], [], g) (55, [some (.inr (.inr 55)), some (.inl c1), some (.inl v2), some (.inl c3), some (.inl c4), some (.inl c5), some (.inl v6)], [.inl v6, .inl c5], g) rfl ?_
      refine ec 64 58 [.inl c5, .inl v6] [] rfl (ev_Op_has c5 v6 g _ rfl) ?_
      show Ev 132 58 [some (.inr (.inr 55)), some (.inl c1), some (.inl v2), some (.inl c3), some (.inl c4), some (.inl c5), some (.inl v6)] [.inl (Op_has c5 v6)] g _ _
      by_cases hc : (Op_has c5 v6) = 0
      · rw [if_pos hc] at h
        refine es (80, [some (.inr (.inr 55)), some (.inl c1), some (.inl v2), some (.inl c3), some (.inl c4), some (.inl c5), some (.inl v6)], [], g) (congrArg some (if_pos hc)) ?_
        refine ev_runs 2 (80, [some (.inr (.inr 55)), some (.inl c1), some (.inl v2), some (.inl c3), some (.inl c4), some (.inl c5), some (.inl v6)], [], g) (44, [some (.inr (.inr 55)), some (.inl c1), some (.inl v2), some (.inl c3), some (.inl c4), some (.inl c5), some (.inl (wr (v6 + 1)))], [], g) rfl ?_
        exact ev_le (L := [some (.inr (.inr 55)), some (.inl c1), some (.inl v2), some (.inl c3), some (.inl c4), some (.inl c5), some (.inl (wr (v6 + 1)))]) (by simp [Lle]) (ih44 v2 (wr (v6 + 1)) g r g' h)
      · rw [if_neg hc] at h
        refine es (61, [some (.inr (.inr 55)), some (.inl c1), some (.inl v2), some (.inl c3), some (.inl c4), some (.inl c5), some (.inl v6)], [], g) (congrArg some (if_neg hc)) ?_
        refine ev_runs 8 (61, [some (.inr (.inr 55)), some (.inl c1), some (.inl v2), some (.inl c3), some (.inl c4), some (.inl c5), some (.inl v6)], [], g) (74, [some (.inr (.inr 55)), some (.inl c1), some (.inl v2), some (.inl c3), some (.inl c4), some (.inl c5), some (.inl v6)], [.inl (wr ((wr (c4 * 6)) + v6)), .inl v2, .inr (.inr 58)], g) rfl ?_
        refine ec 0 77 [.inr (.inr 58), .inl v2, .inl (wr ((wr (c4 * 6)) + v6))] [] rfl (ev_Row_set rfl rfl _ _ _) ?_
        show Ev 132 77 [some (.inr (.inr 55)), some (.inl c1), some (.inl v2), some (.inl c3), some (.inl c4), some (.inl c5), some (.inl v6)] [] (rset g 59 6 v2 (wr ((wr (c4 * 6)) + v6))) _ _
        refine ev_runs 3 (77, [some (.inr (.inr 55)), some (.inl c1), some (.inl v2), some (.inl c3), some (.inl c4), some (.inl c5), some (.inl v6)], [], (rset g 59 6 v2 (wr ((wr (c4 * 6)) + v6)))) (44, [some (.inr (.inr 55)), some (.inl c1), some (.inl (wr (v2 + 1))), some (.inl c3), some (.inl c4), some (.inl c5), some (.inl (wr (v6 + 1)))], [], (rset g 59 6 v2 (wr ((wr (c4 * 6)) + v6)))) rfl ?_
        exact ev_le (L := [some (.inr (.inr 55)), some (.inl c1), some (.inl (wr (v2 + 1))), some (.inl c3), some (.inl c4), some (.inl c5), some (.inl (wr (v6 + 1)))]) (by simp [Lle]) (ih44 (wr (v2 + 1)) (wr (v6 + 1)) (rset g 59 6 v2 (wr ((wr (c4 * 6)) + v6))) r g' h)
set_option maxRecDepth 100000 in
set_option maxHeartbeats 4000000 in
theorem ev_Kn_findCandidates_l17 (c1 : Int) (c3 : Int) (K17_92 : Int → Gx → Option (Int × Gx)) (hK17_92 : ∀ (x2 : Int) (g : Gx) (r : Int) (g' : Gx), K17_92 x2 g = some (r, g') → Ev 132 92 [none, none, some (.inl x2), none, none, none, none] [] g (some (.inl r)) g') : ∀ (n17 : Nat) (v2 v4 : Int) (g : Gx) (r : Int) (g' : Gx), Kn_findCandidates_l17 c1 c3 K17_92 n17 v2 v4 g = some (r, g') → Ev 132 17 [some (.inr (.inr 55)), some (.inl c1), some (.inl v2), some (.inl c3), some (.inl v4), none, none] [] g (some (.inl r)) g' := by
  intro n17
  induction n17 with
  | zero => intro v2 v4 g r g' h; cases h
  | succ n17 ih17 =>
    intro v2 v4 g r g' h
    rw [Kn_findCandidates_l17] at h
    refine ev_runs 2 (17, [some (.inr (.inr 55)), some (.inl c1), some (.inl v2), some (.inl c3), some (.inl v4), none, none], [], g) (20, [some (.inr (.inr 55)), some (.inl c1), some (.inl v2), some (.inl c3), some (.inl v4), none, none], [.inl c3, .inl v4], g) rfl ?_
    by_cases hc : c3 ≤ v4
    · rw [if_pos hc] at h
      refine es (92, [some (.inr (.inr 55)), some (.inl c1), some (.inl v2), some (.inl c3), some (.inl v4), none, none], [], g) (congrArg some (if_pos hc)) ?_
      exact ev_le (L := [none, none, some (.inl v2), none, none, none, none]) (by simp [Lle]) (hK17_92 v2 g r g' h)
    · rw [if_neg hc] at h
      refine es (23, [some (.inr (.inr 55)), some (.inl c1), some (.inl v2), some (.inl c3), some (.inl v4), none, none], [], g) (congrArg some (if_neg hc)) ?_
      refine ev_runs 8 (23, [some (.inr (.inr 55)), some (.inl c1), some (.inl v2), some (.inl c3), some (.inl v4), none, none], [], g) (36, [some (.inr (.inr 55)), some (.inl c1), some (.inl v2), some (.inl c3), some (.inl v4), none, none], [.inl (jshl c1 (wr (v4 * 6))), .inl v4, .inr (.inr 7)], g) rfl ?_
      refine ec 57 39 [.inr (.inr 7), .inl v4, .inl (jshl c1 (wr (v4 * 6)))] [] rfl (ev_St_toldOf v4 (jshl c1 (wr (v4 * 6))) g _ rfl) ?_
      show Ev 132 39 [some (.inr (.inr 55)), some (.inl c1), some (.inl v2), some (.inl c3), some (.inl v4), none, none] [.inl (St_toldOf v4 (jshl c1 (wr (v4 * 6))) g)] g _ _
      refine ev_runs 3 (39, [some (.inr (.inr 55)), some (.inl c1), some (.inl v2), some (.inl c3), some (.inl v4), none, none], [.inl (St_toldOf v4 (jshl c1 (wr (v4 * 6))) g)], g) (44, [some (.inr (.inr 55)), some (.inl c1), some (.inl v2), some (.inl c3), some (.inl v4), some (.inl (St_toldOf v4 (jshl c1 (wr (v4 * 6))) g)), some (.inl 0)], [], g) rfl ?_
      refine ev_le (L := [some (.inr (.inr 55)), some (.inl c1), some (.inl v2), some (.inl c3), some (.inl v4), some (.inl (St_toldOf v4 (jshl c1 (wr (v4 * 6))) g)), some (.inl 0)]) (by simp [Lle]) ?_
      refine ev_Kn_findCandidates_l44 c1 c3 v4 (St_toldOf v4 (jshl c1 (wr (v4 * 6))) g) _ ?_ fu v2 0 g r g' h
      · intro x1 g2 r g' h
        refine ev_runs 2 (86, [some (.inr (.inr 55)), some (.inl c1), some (.inl x1), some (.inl c3), some (.inl v4), none, none], [], g2) (17, [some (.inr (.inr 55)), some (.inl c1), some (.inl x1), some (.inl c3), some (.inl (wr (v4 + 1))), none, none], [], g2) rfl ?_
        exact ev_le (L := [some (.inr (.inr 55)), some (.inl c1), some (.inl x1), some (.inl c3), some (.inl (wr (v4 + 1))), none, none]) (by simp [Lle]) (ih17 x1 (wr (v4 + 1)) g2 r g' h)
set_option maxRecDepth 100000 in
set_option maxHeartbeats 4000000 in
theorem ev_Kn_findCandidates (a1 : Int) (g : Gx) (r : Int) (g' : Gx) (h : Kn_findCandidates a1 g = some (r, g')) : Ev 132 0 [some (.inr (.inr 55)), some (.inl a1), none, none, none, none, none] [] g (some (.inl r)) g' := by
  rw [Kn_findCandidates] at h
  refine ev_runs 5 (0, [some (.inr (.inr 55)), some (.inl a1), none, none, none, none, none], [], g) (7, [some (.inr (.inr 55)), some (.inl a1), some (.inl 0), none, none, none, none], [.inr (.inr 7), .inl 5], g) rfl ?_
  refine ec 46 10 [.inr (.inr 7)] [.inl 5] rfl (ev_St_choices g _ rfl) ?_
  show Ev 132 10 [some (.inr (.inr 55)), some (.inl a1), some (.inl 0), none, none, none, none] [.inl (St_choices g), .inl 5] g _ _
  refine ev_runs 4 (10, [some (.inr (.inr 55)), some (.inl a1), some (.inl 0), none, none, none, none], [.inl (St_choices g), .inl 5], g) (17, [some (.inr (.inr 55)), some (.inl a1), some (.inl 0), some (.inl (imin 5 (St_choices g))), some (.inl 0), none, none], [], g) rfl ?_
  refine ev_le (L := [some (.inr (.inr 55)), some (.inl a1), some (.inl 0), some (.inl (imin 5 (St_choices g))), some (.inl 0), none, none]) (by simp [Lle]) ?_
  refine ev_Kn_findCandidates_l17 a1 (imin 5 (St_choices g)) _ ?_ fu 0 0 g r g' h
  · intro x3 g4 r g' h
    refine ev_runs 1 (92, [none, none, some (.inl x3), none, none, none, none], [], g4) (93, [none, none, some (.inl x3), none, none, none, none], [.inl x3], g4) rfl ?_
    cases h
    exact er rfl
set_option maxRecDepth 100000 in
set_option maxHeartbeats 4000000 in
theorem ev_Kn_bitsOf_l4 (c1 : Int) (K4_37 : Int → Gx → Option (Int × Gx)) (hK4_37 : ∀ (x2 : Int) (g : Gx) (r : Int) (g' : Gx), K4_37 x2 g = some (r, g') → Ev 133 37 [none, none, some (.inl x2), none] [] g (some (.inl r)) g') : ∀ (n4 : Nat) (v2 v3 : Int) (g : Gx) (r : Int) (g' : Gx), Kn_bitsOf_l4 c1 K4_37 n4 v2 v3 g = some (r, g') → Ev 133 4 [some (.inr (.inr 55)), some (.inl c1), some (.inl v2), some (.inl v3)] [] g (some (.inl r)) g' := by
  intro n4
  induction n4 with
  | zero => intro v2 v3 g r g' h; cases h
  | succ n4 ih4 =>
    intro v2 v3 g r g' h
    rw [Kn_bitsOf_l4] at h
    refine ev_runs 2 (4, [some (.inr (.inr 55)), some (.inl c1), some (.inl v2), some (.inl v3)], [], g) (7, [some (.inr (.inr 55)), some (.inl c1), some (.inl v2), some (.inl v3)], [.inl 6, .inl v3], g) rfl ?_
    by_cases hc : 6 ≤ v3
    · rw [if_pos hc] at h
      refine es (37, [some (.inr (.inr 55)), some (.inl c1), some (.inl v2), some (.inl v3)], [], g) (congrArg some (if_pos hc)) ?_
      exact ev_le (L := [none, none, some (.inl v2), none]) (by simp [Lle]) (hK4_37 v2 g r g' h)
    · rw [if_neg hc] at h
      refine es (10, [some (.inr (.inr 55)), some (.inl c1), some (.inl v2), some (.inl v3)], [], g) (congrArg some (if_neg hc)) ?_
      refine ev_runs 2 (10, [some (.inr (.inr 55)), some (.inl c1), some (.inl v2), some (.inl v3)], [], g) (12, [some (.inr (.inr 55)), some (.inl c1), some (.inl v2), some (.inl v3)], [.inl v3, .inl c1], g) rfl ?_
      refine ec 64 15 [.inl c1, .inl v3] [] rfl (ev_Op_has c1 v3 g _ rfl) ?_
      show Ev 133 15 [some (.inr (.inr 55)), some (.inl c1), some (.inl v2), some (.inl v3)] [.inl (Op_has c1 v3)] g _ _
      by_cases hc : (Op_has c1 v3) = 0
      · rw [if_pos hc] at h
        refine es (31, [some (.inr (.inr 55)), some (.inl c1), some (.inl v2), some (.inl v3)], [], g) (congrArg some (if_pos hc)) ?_
        refine ev_runs 2 (31, [some (.inr (.inr 55)), some (.inl c1), some (.inl v2), some (.inl v3)], [], g) (4, [some (.inr (.inr 55)), some (.inl c1), some (.inl v2), some (.inl (wr (v3 + 1)))], [], g) rfl ?_
        exact ev_le (L := [some (.inr (.inr 55)), some (.inl c1), some (.inl v2), some (.inl (wr (v3 + 1)))]) (by simp [Lle]) (ih4 v2 (wr (v3 + 1)) g r g' h)
      · rw [if_neg hc] at h
        refine es (18, [some (.inr (.inr 55)), some (.inl c1), some (.inl v2), some (.inl v3)], [], g) (congrArg some (if_neg hc)) ?_
        refine ev_runs 5 (18, [some (.inr (.inr 55)), some (.inl c1), some (.inl v2), some (.inl v3)], [], g) (25, [some (.inr (.inr 55)), some (.inl c1), some (.inl v2), some (.inl v3)], [.inl v3, .inr (.inr 58), .inl 1, .inl v2], g) rfl ?_
        refine ec 13 28 [.inr (.inr 58), .inl v3] [.inl 1, .inl v2] rfl (ev_Row_at rfl rfl _ _) ?_
        show Ev 133 28 [some (.inr (.inr 55)), some (.inl c1), some (.inl v2), some (.inl v3)] [.inl (rat g 59 6 v3), .inl 1, .inl v2] g _ _
        refine ev_runs 5 (28, [some (.inr (.inr 55)), some (.inl c1), some (.inl v2), some (.inl v3)], [.inl (rat g 59 6 v3), .inl 1, .inl v2], g) (4, [some (.inr (.inr 55)), some (.inl c1), some (.inl (jor v2 (jshl 1 (rat g 59 6 v3)))), some (.inl (wr (v3 + 1)))], [], g) rfl ?_
        exact ev_le (L := [some (.inr (.inr 55)), some (.inl c1), some (.inl (jor v2 (jshl 1 (rat g 59 6 v3)))), some (.inl (wr (v3 + 1)))]) (by simp [Lle]) (ih4 (jor v2 (jshl 1 (rat g 59 6 v3))) (wr (v3 + 1)) g r g' h)
set_option maxRecDepth 100000 in
set_option maxHeartbeats 4000000 in
theorem ev_Kn_bitsOf (a1 : Int) (g : Gx) (r : Int) (g' : Gx) (h : Kn_bitsOf a1 g = some (r, g')) : Ev 133 0 [some (.inr (.inr 55)), some (.inl a1), none, none] [] g (some (.inl r)) g' := by
  rw [Kn_bitsOf] at h
  refine ev_runs 4 (0, [some (.inr (.inr 55)), some (.inl a1), none, none], [], g) (4, [some (.inr (.inr 55)), some (.inl a1), some (.inl 0), some (.inl 0)], [], g) rfl ?_
  refine ev_le (L := [some (.inr (.inr 55)), some (.inl a1), some (.inl 0), some (.inl 0)]) (by simp [Lle]) ?_
  refine ev_Kn_bitsOf_l4 a1 _ ?_ fu 0 0 g r g' h
  · intro x1 g2 r g' h
    refine ev_runs 1 (37, [none, none, some (.inl x1), none], [], g2) (38, [none, none, some (.inl x1), none], [.inl x1], g2) rfl ?_
    cases h
    exact er rfl
set_option maxRecDepth 100000 in
set_option maxHeartbeats 4000000 in
theorem ev_Kn_leastOfSize_l2 (c1 : Int) (c2 : Int) (K2_60 : Gx → Option (Int × Gx)) (hK2_60 : ∀ (g : Gx) (r : Int) (g' : Gx), K2_60 g = some (r, g') → Ev 134 60 [none, none, none, none] [] g (some (.inl r)) g') : ∀ (n2 : Nat) (v3 : Int) (g : Gx) (r : Int) (g' : Gx), Kn_leastOfSize_l2 c1 c2 K2_60 n2 v3 g = some (r, g') → Ev 134 2 [some (.inr (.inr 55)), some (.inl c1), some (.inl c2), some (.inl v3)] [] g (some (.inl r)) g' := by
  intro n2
  induction n2 with
  | zero => intro v3 g r g' h; cases h
  | succ n2 ih2 =>
    intro v3 g r g' h
    rw [Kn_leastOfSize_l2] at h
    refine ev_runs 4 (2, [some (.inr (.inr 55)), some (.inl c1), some (.inl c2), some (.inl v3)], [], g) (6, [some (.inr (.inr 55)), some (.inl c1), some (.inl c2), some (.inl v3)], [.inl (jshl 1 c2), .inl v3], g) rfl ?_
    by_cases hc : (jshl 1 c2) ≤ v3
    · rw [if_pos hc] at h
      refine es (60, [some (.inr (.inr 55)), some (.inl c1), some (.inl c2), some (.inl v3)], [], g) (congrArg some (if_pos hc)) ?_
      exact ev_le (L := [none, none, none, none]) (by simp [Lle]) (hK2_60 g r g' h)
    · rw [if_neg hc] at h
      refine es (9, [some (.inr (.inr 55)), some (.inl c1), some (.inl c2), some (.inl v3)], [], g) (congrArg some (if_neg hc)) ?_
      refine ev_runs 1 (9, [some (.inr (.inr 55)), some (.inl c1), some (.inl c2), some (.inl v3)], [], g) (10, [some (.inr (.inr 55)), some (.inl c1), some (.inl c2), some (.inl v3)], [.inl v3], g) rfl ?_
      refine ec 58 13 [.inl v3] [] rfl (ev_Ji_bitCount v3 g _ rfl) ?_
      show Ev 134 13 [some (.inr (.inr 55)), some (.inl c1), some (.inl c2), some (.inl v3)] [.inl (Ji_bitCount v3)] g _ _
      refine ev_runs 1 (13, [some (.inr (.inr 55)), some (.inl c1), some (.inl c2), some (.inl v3)], [.inl (Ji_bitCount v3)], g) (14, [some (.inr (.inr 55)), some (.inl c1), some (.inl c2), some (.inl v3)], [.inl c1, .inl (Ji_bitCount v3)], g) rfl ?_
      by_cases hc : ¬ (Ji_bitCount v3) = c1
      · rw [if_pos hc] at h
        refine es (54, [some (.inr (.inr 55)), some (.inl c1), some (.inl c2), some (.inl v3)], [], g) (congrArg some (if_pos hc)) ?_
        refine ev_runs 2 (54, [some (.inr (.inr 55)), some (.inl c1), some (.inl c2), some (.inl v3)], [], g) (2, [some (.inr (.inr 55)), some (.inl c1), some (.inl c2), some (.inl (wr (v3 + 1)))], [], g) rfl ?_
        exact ev_le (L := [some (.inr (.inr 55)), some (.inl c1), some (.inl c2), some (.inl (wr (v3 + 1)))]) (by simp [Lle]) (ih2 (wr (v3 + 1)) g r g' h)
      · rw [if_neg hc] at h
        refine es (17, [some (.inr (.inr 55)), some (.inl c1), some (.inl c2), some (.inl v3)], [], g) (congrArg some (if_neg hc)) ?_
        refine ev_runs 4 (17, [some (.inr (.inr 55)), some (.inl c1), some (.inl c2), some (.inl v3)], [], g) (23, [some (.inr (.inr 55)), some (.inl c1), some (.inl c2), some (.inl v3)], [.inl v3, .inr (.inr 55), .inr (.inr 33)], g) rfl ?_
        obtain ⟨q1, hq, h⟩ := Option.bind_eq_some_iff.mp h
        refine ec 133 26 [.inr (.inr 55), .inl v3] [.inr (.inr 33)] rfl (ev_Kn_bitsOf v3 g q1.1 q1.2 hq) ?_
        show Ev 134 26 [some (.inr (.inr 55)), some (.inl c1), some (.inl c2), some (.inl v3)] [.inl q1.1, .inr (.inr 33)] q1.2 _ _
        obtain ⟨q2, hq, h⟩ := Option.bind_eq_some_iff.mp h
        refine ec 73 29 [.inr (.inr 33), .inl q1.1] [] rfl (ev_Hi_make q1.1 q1.2 q2.1 q2.2 hq) ?_
        show Ev 134 29 [some (.inr (.inr 55)), some (.inl c1), some (.inl c2), some (.inl v3)] [.inl q2.1] q2.2 _ _
        by_cases hc : q2.1 = 0
        · rw [if_pos hc] at h
          refine es (54, [some (.inr (.inr 55)), some (.inl c1), some (.inl c2), some (.inl v3)], [], q2.2) (congrArg some (if_pos hc)) ?_
          refine ev_runs 2 (54, [some (.inr (.inr 55)), some (.inl c1), some (.inl c2), some (.inl v3)], [], q2.2) (2, [some (.inr (.inr 55)), some (.inl c1), some (.inl c2), some (.inl (wr (v3 + 1)))], [], q2.2) rfl ?_
          exact ev_le (L := [some (.inr (.inr 55)), some (.inl c1), some (.inl c2), some (.inl (wr (v3 + 1)))]) (by simp [Lle]) (ih2 (wr (v3 + 1)) q2.2 r g' h)
        · rw [if_neg hc] at h
          refine es (32, [some (.inr (.inr 55)), some (.inl c1), some (.inl c2), some (.inl v3)], [], q2.2) (congrArg some (if_neg hc)) ?_
          refine ev_runs 1 (32, [some (.inr (.inr 55)), some (.inl c1), some (.inl c2), some (.inl v3)], [], q2.2) (33, [some (.inr (.inr 55)), some (.inl c1), some (.inl c2), some (.inl v3)], [.inr (.inr 55)], q2.2) rfl ?_
          obtain ⟨g3, hq, h⟩ := Option.bind_eq_some_iff.mp h
          refine ec 123 36 [.inr (.inr 55)] [] rfl (ev_Kn_search q2.2 g3 hq) ?_
          show Ev 134 36 [some (.inr (.inr 55)), some (.inl c1), some (.inl c2), some (.inl v3)] [] g3 _ _
          refine ev_runs 3 (36, [some (.inr (.inr 55)), some (.inl c1), some (.inl c2), some (.inl v3)], [], g3) (41, [some (.inr (.inr 55)), some (.inl c1), some (.inl c2), some (.inl v3)], [.inl 0, .inr (.inr 56)], g3) rfl ?_
          refine ec 13 44 [.inr (.inr 56), .inl 0] [] rfl (ev_Row_at rfl rfl _ _) ?_
          show Ev 134 44 [some (.inr (.inr 55)), some (.inl c1), some (.inl c2), some (.inl v3)] [.inl (rat g3 57 4 0)] g3 _ _
          refine ev_runs 1 (44, [some (.inr (.inr 55)), some (.inl c1), some (.inl c2), some (.inl v3)], [.inl (rat g3 57 4 0)], g3) (45, [some (.inr (.inr 55)), some (.inl c1), some (.inl c2), some (.inl v3)], [.inl (-1), .inl (rat g3 57 4 0)], g3) rfl ?_
          by_cases hc : ¬ (rat g3 57 4 0) = (-1)
          · rw [if_pos hc] at h
            refine es (54, [some (.inr (.inr 55)), some (.inl c1), some (.inl c2), some (.inl v3)], [], g3) (congrArg some (if_pos hc)) ?_
            refine ev_runs 2 (54, [some (.inr (.inr 55)), some (.inl c1), some (.inl c2), some (.inl v3)], [], g3) (2, [some (.inr (.inr 55)), some (.inl c1), some (.inl c2), some (.inl (wr (v3 + 1)))], [], g3) rfl ?_
            exact ev_le (L := [some (.inr (.inr 55)), some (.inl c1), some (.inl c2), some (.inl (wr (v3 + 1)))]) (by simp [Lle]) (ih2 (wr (v3 + 1)) g3 r g' h)
          · rw [if_neg hc] at h
            refine es (48, [some (.inr (.inr 55)), some (.inl c1), some (.inl c2), some (.inl v3)], [], g3) (congrArg some (if_neg hc)) ?_
            refine ev_runs 2 (48, [some (.inr (.inr 55)), some (.inl c1), some (.inl c2), some (.inl v3)], [], g3) (50, [some (.inr (.inr 55)), some (.inl c1), some (.inl c2), some (.inl v3)], [.inl v3, .inr (.inr 55)], g3) rfl ?_
            obtain ⟨q4, hq, h⟩ := Option.bind_eq_some_iff.mp h
            refine ec 133 53 [.inr (.inr 55), .inl v3] [] rfl (ev_Kn_bitsOf v3 g3 q4.1 q4.2 hq) ?_
            show Ev 134 53 [some (.inr (.inr 55)), some (.inl c1), some (.inl c2), some (.inl v3)] [.inl q4.1] q4.2 _ _
            cases h
            exact er rfl
set_option maxRecDepth 100000 in
set_option maxHeartbeats 4000000 in
theorem ev_Kn_leastOfSize (a1 a2 : Int) (g : Gx) (r : Int) (g' : Gx) (h : Kn_leastOfSize a1 a2 g = some (r, g')) : Ev 134 0 [some (.inr (.inr 55)), some (.inl a1), some (.inl a2), none] [] g (some (.inl r)) g' := by
  rw [Kn_leastOfSize] at h
  refine ev_runs 2 (0, [some (.inr (.inr 55)), some (.inl a1), some (.inl a2), none], [], g) (2, [some (.inr (.inr 55)), some (.inl a1), some (.inl a2), some (.inl 0)], [], g) rfl ?_
  refine ev_le (L := [some (.inr (.inr 55)), some (.inl a1), some (.inl a2), some (.inl 0)]) (by simp [Lle]) ?_
  refine ev_Kn_leastOfSize_l2 a1 a2 _ ?_ fu 0 g r g' h
  · intro g5 r g' h
    refine ev_runs 1 (60, [none, none, none, none], [], g5) (61, [none, none, none, none], [.inl (-1)], g5) rfl ?_
    cases h
    exact er rfl
set_option maxRecDepth 100000 in
set_option maxHeartbeats 4000000 in
theorem ev_Kn_fewestTellings_l65 (c2 : Int) (K65_94 : Gx → Option (Int × Gx)) (hK65_94 : ∀ (g : Gx) (r : Int) (g' : Gx), K65_94 g = some (r, g') → Ev 135 94 [some (.inr (.inr 55)), none, none, none] [] g (some (.inl r)) g') : ∀ (n65 : Nat) (v3 : Int) (g : Gx) (r : Int) (g' : Gx), Kn_fewestTellings_l65 c2 K65_94 n65 v3 g = some (r, g') → Ev 135 65 [some (.inr (.inr 55)), none, some (.inl c2), some (.inl v3)] [] g (some (.inl r)) g' := by
  intro n65
  induction n65 with
  | zero => intro v3 g r g' h; cases h
  | succ n65 ih65 =>
    intro v3 g r g' h
    rw [Kn_fewestTellings_l65] at h
    refine ev_runs 2 (65, [some (.inr (.inr 55)), none, some (.inl c2), some (.inl v3)], [], g) (67, [some (.inr (.inr 55)), none, some (.inl c2), some (.inl v3)], [.inl c2, .inl v3], g) rfl ?_
    by_cases hc : c2 < v3
    · rw [if_pos hc] at h
      refine es (94, [some (.inr (.inr 55)), none, some (.inl c2), some (.inl v3)], [], g) (congrArg some (if_pos hc)) ?_
      exact ev_le (L := [some (.inr (.inr 55)), none, none, none]) (by simp [Lle]) (hK65_94 g r g' h)
    · rw [if_neg hc] at h
      refine es (70, [some (.inr (.inr 55)), none, some (.inl c2), some (.inl v3)], [], g) (congrArg some (if_neg hc)) ?_
      refine ev_runs 3 (70, [some (.inr (.inr 55)), none, some (.inl c2), some (.inl v3)], [], g) (75, [some (.inr (.inr 55)), none, some (.inl c2), some (.inl v3)], [.inl (-1), .inl (g 55 7)], g) rfl ?_
      by_cases hc : ¬ (g 55 7) = (-1)
      · rw [if_pos hc] at h
        refine es (94, [some (.inr (.inr 55)), none, some (.inl c2), some (.inl v3)], [], g) (congrArg some (if_pos hc)) ?_
        exact ev_le (L := [some (.inr (.inr 55)), none, none, none]) (by simp [Lle]) (hK65_94 g r g' h)
      · rw [if_neg hc] at h
        refine es (78, [some (.inr (.inr 55)), none, some (.inl c2), some (.inl v3)], [], g) (congrArg some (if_neg hc)) ?_
        refine ev_runs 4 (78, [some (.inr (.inr 55)), none, some (.inl c2), some (.inl v3)], [], g) (82, [some (.inr (.inr 55)), none, some (.inl c2), some (.inl v3)], [.inl c2, .inl v3, .inr (.inr 55), .inr (.inr 55)], g) rfl ?_
        obtain ⟨q2, hq, h⟩ := Option.bind_eq_some_iff.mp h
        refine ec 134 85 [.inr (.inr 55), .inl v3, .inl c2] [.inr (.inr 55)] rfl (ev_Kn_leastOfSize v3 c2 g q2.1 q2.2 hq) ?_
        show Ev 135 85 [some (.inr (.inr 55)), none, some (.inl c2), some (.inl v3)] [.inl q2.1, .inr (.inr 55)] q2.2 _ _
        refine ev_runs 3 (85, [some (.inr (.inr 55)), none, some (.inl c2), some (.inl v3)], [.inl q2.1, .inr (.inr 55)], q2.2) (65, [some (.inr (.inr 55)), none, some (.inl c2), some (.inl (wr (v3 + 1)))], [], (gset q2.2 55 7 q2.1)) rfl ?_
        exact ev_le (L := [some (.inr (.inr 55)), none, some (.inl c2), some (.inl (wr (v3 + 1)))]) (by simp [Lle]) (ih65 (wr (v3 + 1)) (gset q2.2 55 7 q2.1) r g' h)
set_option maxRecDepth 100000 in
set_option maxHeartbeats 4000000 in
theorem ev_Kn_fewestTellings (a1 : Int) (g : Gx) (r : Int) (g' : Gx) (h : Kn_fewestTellings a1 g = some (r, g')) : Ev 135 0 [some (.inr (.inr 55)), some (.inl a1), none, none] [] g (some (.inl r)) g' := by
  rw [Kn_fewestTellings] at h
  refine ev_runs 4 (0, [some (.inr (.inr 55)), some (.inl a1), none, none], [], g) (8, [some (.inr (.inr 55)), some (.inl a1), none, none], [.inr (.inr 7), .inl (g 55 6)], g) rfl ?_
  refine ec 53 11 [.inr (.inr 7)] [.inl (g 55 6)] rfl (ev_St_version g _ rfl) ?_
  show Ev 135 11 [some (.inr (.inr 55)), some (.inl a1), none, none] [.inl (St_version g), .inl (g 55 6)] g _ _
  by_cases hc : ¬ (g 55 6) = (St_version g)
  · rw [if_pos hc] at h
    refine es (19, [some (.inr (.inr 55)), some (.inl a1), none, none], [], g) (congrArg some (if_pos hc)) ?_
    refine ev_runs 3 (19, [some (.inr (.inr 55)), some (.inl a1), none, none], [], g) (24, [some (.inr (.inr 55)), some (.inl a1), none, none], [.inr (.inr 7), .inr (.inr 55)], g) rfl ?_
    refine ec 53 27 [.inr (.inr 7)] [.inr (.inr 55)] rfl (ev_St_version g _ rfl) ?_
    show Ev 135 27 [some (.inr (.inr 55)), some (.inl a1), none, none] [.inl (St_version g), .inr (.inr 55)] g _ _
    refine ev_runs 3 (27, [some (.inr (.inr 55)), some (.inl a1), none, none], [.inl (St_version g), .inr (.inr 55)], g) (32, [some (.inr (.inr 55)), some (.inl a1), none, none], [.inl a1, .inr (.inr 55)], (gset g 55 6 (St_version g))) rfl ?_
    obtain ⟨q1, hq, h⟩ := Option.bind_eq_some_iff.mp h
    refine ec 132 35 [.inr (.inr 55), .inl a1] [] rfl (ev_Kn_findCandidates a1 (gset g 55 6 (St_version g)) q1.1 q1.2 hq) ?_
    show Ev 135 35 [some (.inr (.inr 55)), some (.inl a1), none, none] [.inl q1.1] q1.2 _ _
    refine ev_runs 4 (35, [some (.inr (.inr 55)), some (.inl a1), none, none], [.inl q1.1], q1.2) (40, [some (.inr (.inr 55)), some (.inl a1), some (.inl q1.1), none], [.inl 6, .inl q1.1, .inr (.inr 55)], q1.2) rfl ?_
    by_cases hc : 6 < q1.1
    · rw [if_pos hc] at h
      refine es (54, [some (.inr (.inr 55)), some (.inl a1), some (.inl q1.1), none], [.inr (.inr 55)], q1.2) (congrArg some (if_pos hc)) ?_
      refine ev_runs 5 (54, [some (.inr (.inr 55)), some (.inl a1), some (.inl q1.1), none], [.inr (.inr 55)], q1.2) (65, [some (.inr (.inr 55)), some (.inl a1), some (.inl q1.1), some (.inl 0)], [], (gset q1.2 55 7 (-4))) rfl ?_
      refine ev_le (L := [some (.inr (.inr 55)), none, some (.inl q1.1), some (.inl 0)]) (by simp [Lle]) ?_
      refine ev_Kn_fewestTellings_l65 q1.1 _ ?_ fu 0 (gset q1.2 55 7 (-4)) r g' h
      · intro g3 r g' h
        refine ev_runs 2 (94, [some (.inr (.inr 55)), none, none, none], [], g3) (98, [some (.inr (.inr 55)), none, none, none], [.inl (g3 55 7)], g3) rfl ?_
        cases h
        exact er rfl
    · rw [if_neg hc] at h
      refine es (43, [some (.inr (.inr 55)), some (.inl a1), some (.inl q1.1), none], [.inr (.inr 55)], q1.2) (congrArg some (if_neg hc)) ?_
      refine ev_runs 3 (43, [some (.inr (.inr 55)), some (.inl a1), some (.inl q1.1), none], [.inr (.inr 55)], q1.2) (48, [some (.inr (.inr 55)), some (.inl a1), some (.inl q1.1), none], [.inl 0, .inr (.inr 7), .inr (.inr 55)], q1.2) rfl ?_
      obtain ⟨q4, hq, h⟩ := Option.bind_eq_some_iff.mp h
      refine ec 60 51 [.inr (.inr 7), .inl 0] [.inr (.inr 55)] rfl (ev_St_isTooMuch 0 q1.2 q4.1 q4.2 hq) ?_
      show Ev 135 51 [some (.inr (.inr 55)), some (.inl a1), some (.inl q1.1), none] [.inl q4.1, .inr (.inr 55)] q4.2 _ _
      by_cases hc : q4.1 = 0
      · rw [if_pos hc] at h
        refine es (59, [some (.inr (.inr 55)), some (.inl a1), some (.inl q1.1), none], [.inr (.inr 55)], q4.2) (congrArg some (if_pos hc)) ?_
        refine ev_runs 4 (59, [some (.inr (.inr 55)), some (.inl a1), some (.inl q1.1), none], [.inr (.inr 55)], q4.2) (65, [some (.inr (.inr 55)), some (.inl a1), some (.inl q1.1), some (.inl 0)], [], (gset q4.2 55 7 (-1))) rfl ?_
        refine ev_le (L := [some (.inr (.inr 55)), none, some (.inl q1.1), some (.inl 0)]) (by simp [Lle]) ?_
        refine ev_Kn_fewestTellings_l65 q1.1 _ ?_ fu 0 (gset q4.2 55 7 (-1)) r g' h
        · intro g5 r g' h
          refine ev_runs 2 (94, [some (.inr (.inr 55)), none, none, none], [], g5) (98, [some (.inr (.inr 55)), none, none, none], [.inl (g5 55 7)], g5) rfl ?_
          cases h
          exact er rfl
      · rw [if_neg hc] at h
        refine es (54, [some (.inr (.inr 55)), some (.inl a1), some (.inl q1.1), none], [.inr (.inr 55)], q4.2) (congrArg some (if_neg hc)) ?_
        refine ev_runs 5 (54, [some (.inr (.inr 55)), some (.inl a1), some (.inl q1.1), none], [.inr (.inr 55)], q4.2) (65, [some (.inr (.inr 55)), some (.inl a1), some (.inl q1.1), some (.inl 0)], [], (gset q4.2 55 7 (-4))) rfl ?_
        refine ev_le (L := [some (.inr (.inr 55)), none, some (.inl q1.1), some (.inl 0)]) (by simp [Lle]) ?_
        refine ev_Kn_fewestTellings_l65 q1.1 _ ?_ fu 0 (gset q4.2 55 7 (-4)) r g' h
        · intro g6 r g' h
          refine ev_runs 2 (94, [some (.inr (.inr 55)), none, none, none], [], g6) (98, [some (.inr (.inr 55)), none, none, none], [.inl (g6 55 7)], g6) rfl ?_
          cases h
          exact er rfl
  · rw [if_neg hc] at h
    refine es (14, [some (.inr (.inr 55)), some (.inl a1), none, none], [], g) (congrArg some (if_neg hc)) ?_
    refine ev_runs 2 (14, [some (.inr (.inr 55)), some (.inl a1), none, none], [], g) (18, [some (.inr (.inr 55)), some (.inl a1), none, none], [.inl (g 55 7)], g) rfl ?_
    cases h
    exact er rfl
set_option maxRecDepth 100000 in
set_option maxHeartbeats 4000000 in
theorem ev_Op_mended (g : Gx) (r : Int) (g' : Gx) (h : Op_mended g = some (r, g')) : Ev 136 0 [some (.inr (.inr 0))] [] g (some (.inl r)) g' := by
  rw [Op_mended] at h
  refine ev_runs 2 (0, [some (.inr (.inr 0))], [], g) (4, [some (.inr (.inr 0))], [.inr (.inr 28)], g) rfl ?_
  obtain ⟨q1, hq, h⟩ := Option.bind_eq_some_iff.mp h
  refine ec 32 7 [.inr (.inr 28)] [] rfl (ev_Pr_firstFault g q1.1 q1.2 hq) ?_
  show Ev 136 7 [some (.inr (.inr 0))] [.inl q1.1] q1.2 _ _
  refine ev_runs 1 (7, [some (.inr (.inr 0))], [.inl q1.1], q1.2) (8, [some (.inr (.inr 0))], [.inl (-1), .inl q1.1], q1.2) rfl ?_
  by_cases hc : q1.1 = (-1)
  · rw [if_pos hc] at h
    refine es (16, [some (.inr (.inr 0))], [], q1.2) (congrArg some (if_pos hc)) ?_
    refine ev_runs 4 (16, [some (.inr (.inr 0))], [], q1.2) (24, [some (.inr (.inr 0))], [.inr (.inr 28), .inr (.inr 55)], q1.2) rfl ?_
    refine ec 47 27 [.inr (.inr 28)] [.inr (.inr 55)] rfl (ev_Pr_used q1.2 _ rfl) ?_
    show Ev 136 27 [some (.inr (.inr 0))] [.inl (Pr_used q1.2), .inr (.inr 55)] q1.2 _ _
    obtain ⟨q2, hq, h⟩ := Option.bind_eq_some_iff.mp h
    refine ec 135 30 [.inr (.inr 55), .inl (Pr_used q1.2)] [] rfl (ev_Kn_fewestTellings (Pr_used q1.2) q1.2 q2.1 q2.2 hq) ?_
    show Ev 136 30 [some (.inr (.inr 0))] [.inl q2.1] q2.2 _ _
    cases h
    exact er rfl
  · rw [if_neg hc] at h
    refine es (11, [some (.inr (.inr 0))], [], q1.2) (congrArg some (if_neg hc)) ?_
    refine ev_runs 2 (11, [some (.inr (.inr 0))], [], q1.2) (30, [some (.inr (.inr 0))], [.inl (-3)], q1.2) rfl ?_
    cases h
    exact er rfl
set_option maxRecDepth 100000 in
set_option maxHeartbeats 4000000 in
theorem ev_Md_ones_l4 (K4_20 : Int → Gx → Option (Int × Gx)) (hK4_20 : ∀ (x1 : Int) (g : Gx) (r : Int) (g' : Gx), K4_20 x1 g = some (r, g') → Ev 137 20 [none, some (.inl x1), none] [] g (some (.inl r)) g') : ∀ (n4 : Nat) (v1 v2 : Int) (g : Gx) (r : Int) (g' : Gx), Md_ones_l4 K4_20 n4 v1 v2 g = some (r, g') → Ev 137 4 [none, some (.inl v1), some (.inl v2)] [] g (some (.inl r)) g' := by
  intro n4
  induction n4 with
  | zero => intro v1 v2 g r g' h; cases h
  | succ n4 ih4 =>
    intro v1 v2 g r g' h
    rw [Md_ones_l4] at h
    refine ev_runs 1 (4, [none, some (.inl v1), some (.inl v2)], [], g) (5, [none, some (.inl v1), some (.inl v2)], [.inl v2], g) rfl ?_
    by_cases hc : v2 = 0
    · rw [if_pos hc] at h
      refine es (20, [none, some (.inl v1), some (.inl v2)], [], g) (congrArg some (if_pos hc)) ?_
      exact ev_le (L := [none, some (.inl v1), none]) (by simp [Lle]) (hK4_20 v1 g r g' h)
    · rw [if_neg hc] at h
      refine es (8, [none, some (.inl v1), some (.inl v2)], [], g) (congrArg some (if_neg hc)) ?_
      refine ev_runs 8 (8, [none, some (.inl v1), some (.inl v2)], [], g) (4, [none, some (.inl (wr (v1 + 1))), some (.inl (jand v2 (wr (v2 - 1))))], [], g) rfl ?_
      exact ev_le (L := [none, some (.inl (wr (v1 + 1))), some (.inl (jand v2 (wr (v2 - 1))))]) (by simp [Lle]) (ih4 (wr (v1 + 1)) (jand v2 (wr (v2 - 1))) g r g' h)
set_option maxRecDepth 100000 in
set_option maxHeartbeats 4000000 in
theorem ev_Md_ones (a0 : Int) (g : Gx) (r : Int) (g' : Gx) (h : Md_ones a0 g = some (r, g')) : Ev 137 0 [some (.inl a0), none, none] [] g (some (.inl r)) g' := by
  rw [Md_ones] at h
  refine ev_runs 4 (0, [some (.inl a0), none, none], [], g) (4, [some (.inl a0), some (.inl 0), some (.inl a0)], [], g) rfl ?_
  refine ev_le (L := [none, some (.inl 0), some (.inl a0)]) (by simp [Lle]) ?_
  refine ev_Md_ones_l4 _ ?_ fu 0 a0 g r g' h
  · intro x1 g2 r g' h
    refine ev_runs 1 (20, [none, some (.inl x1), none], [], g2) (21, [none, some (.inl x1), none], [.inl x1], g2) rfl ?_
    cases h
    exact er rfl
