/-! The small machine does what the functions say. Printed by wip/gen/gen_parts.py. -/
set_option maxRecDepth 100000 in
set_option maxHeartbeats 4000000 in
theorem ev_Pg_rowsDo_l3 (c1 : Int) (c2 : Int) (c3 : Int) (c4 : Int) (K3_52 : Gx → Option (Int × Gx)) (hK3_52 : ∀ (g : Gx) (r : Int) (g' : Gx), K3_52 g = some (r, g') → Ev 179 52 [none, none, none, none, none, none] [] g (some (.inl r)) g') : ∀ (n3 : Nat) (v5 : Int) (g : Gx) (r : Int) (g' : Gx), Pg_rowsDo_l3 c1 c2 c3 c4 K3_52 n3 v5 g = some (r, g') → Ev 179 3 [some (.inr (.inr 69)), some (.inl c1), some (.inl c2), some (.inl c3), some (.inl c4), some (.inl v5)] [] g (some (.inl r)) g' := by
  intro n3
  induction n3 with
  | zero => intro v5 g r g' h; cases h
  | succ n3 ih3 =>
    intro v5 g r g' h
    rw [Pg_rowsDo_l3] at h
    refine ev_runs 3 (3, [some (.inr (.inr 69)), some (.inl c1), some (.inl c2), some (.inl c3), some (.inl c4), some (.inl v5)], [], g) (9, [some (.inr (.inr 69)), some (.inl c1), some (.inl c2), some (.inl c3), some (.inl c4), some (.inl v5)], [.inl (g 69 7), .inl v5], g) rfl ?_
    by_cases hc : (g 69 7) ≤ v5
    · rw [if_pos hc] at h
      refine es (52, [some (.inr (.inr 69)), some (.inl c1), some (.inl c2), some (.inl c3), some (.inl c4), some (.inl v5)], [], g) (congrArg some (if_pos hc)) ?_
      exact ev_le (L := [none, none, none, none, none, none]) (by simp [Lle]) (hK3_52 g r g' h)
    · rw [if_neg hc] at h
      refine es (12, [some (.inr (.inr 69)), some (.inl c1), some (.inl c2), some (.inl c3), some (.inl c4), some (.inl v5)], [], g) (congrArg some (if_neg hc)) ?_
      refine ev_runs 2 (12, [some (.inr (.inr 69)), some (.inl c1), some (.inl c2), some (.inl c3), some (.inl c4), some (.inl v5)], [], g) (15, [some (.inr (.inr 69)), some (.inl c1), some (.inl c2), some (.inl c3), some (.inl c4), some (.inl v5)], [.inl v5, .inl c1], g) rfl ?_
      refine ec 64 18 [.inl c1, .inl v5] [] rfl (ev_Op_has c1 v5 g _ rfl) ?_
      show Ev 179 18 [some (.inr (.inr 69)), some (.inl c1), some (.inl c2), some (.inl c3), some (.inl c4), some (.inl v5)] [.inl (Op_has c1 v5)] g _ _
      by_cases hc : (Op_has c1 v5) = 0
      · rw [if_pos hc] at h
        refine es (46, [some (.inr (.inr 69)), some (.inl c1), some (.inl c2), some (.inl c3), some (.inl c4), some (.inl v5)], [], g) (congrArg some (if_pos hc)) ?_
        refine ev_runs 2 (46, [some (.inr (.inr 69)), some (.inl c1), some (.inl c2), some (.inl c3), some (.inl c4), some (.inl v5)], [], g) (3, [some (.inr (.inr 69)), some (.inl c1), some (.inl c2), some (.inl c3), some (.inl c4), some (.inl (wr (v5 + 1)))], [], g) rfl ?_
        exact ev_le (L := [some (.inr (.inr 69)), some (.inl c1), some (.inl c2), some (.inl c3), some (.inl c4), some (.inl (wr (v5 + 1)))]) (by simp [Lle]) (ih3 (wr (v5 + 1)) g r g' h)
      · rw [if_neg hc] at h
        refine es (21, [some (.inr (.inr 69)), some (.inl c1), some (.inl c2), some (.inl c3), some (.inl c4), some (.inl v5)], [], g) (congrArg some (if_neg hc)) ?_
        refine ev_runs 3 (21, [some (.inr (.inr 69)), some (.inl c1), some (.inl c2), some (.inl c3), some (.inl c4), some (.inl v5)], [], g) (25, [some (.inr (.inr 69)), some (.inl c1), some (.inl c2), some (.inl c3), some (.inl c4), some (.inl v5)], [.inl v5, .inr (.inr 69), .inl c2], g) rfl ?_
        refine ec 175 28 [.inr (.inr 69), .inl v5] [.inl c2] rfl (ev_Pg_length v5 g _ rfl) ?_
        show Ev 179 28 [some (.inr (.inr 69)), some (.inl c1), some (.inl c2), some (.inl c3), some (.inl c4), some (.inl v5)] [.inl (Pg_length v5 g), .inl c2] g _ _
        by_cases hc : (Pg_length v5 g) ≤ c2
        · rw [if_pos hc] at h
          refine es (46, [some (.inr (.inr 69)), some (.inl c1), some (.inl c2), some (.inl c3), some (.inl c4), some (.inl v5)], [], g) (congrArg some (if_pos hc)) ?_
          refine ev_runs 2 (46, [some (.inr (.inr 69)), some (.inl c1), some (.inl c2), some (.inl c3), some (.inl c4), some (.inl v5)], [], g) (3, [some (.inr (.inr 69)), some (.inl c1), some (.inl c2), some (.inl c3), some (.inl c4), some (.inl (wr (v5 + 1)))], [], g) rfl ?_
          exact ev_le (L := [some (.inr (.inr 69)), some (.inl c1), some (.inl c2), some (.inl c3), some (.inl c4), some (.inl (wr (v5 + 1)))]) (by simp [Lle]) (ih3 (wr (v5 + 1)) g r g' h)
        · rw [if_neg hc] at h
          refine es (31, [some (.inr (.inr 69)), some (.inl c1), some (.inl c2), some (.inl c3), some (.inl c4), some (.inl v5)], [], g) (congrArg some (if_neg hc)) ?_
          refine ev_runs 4 (31, [some (.inr (.inr 69)), some (.inl c1), some (.inl c2), some (.inl c3), some (.inl c4), some (.inl v5)], [], g) (37, [some (.inr (.inr 69)), some (.inl c1), some (.inl c2), some (.inl c3), some (.inl c4), some (.inl v5)], [.inl c4, .inl c2, .inl v5, .inr (.inr 69)], g) rfl ?_
          refine ec 176 40 [.inr (.inr 69), .inl v5, .inl c2, .inl c4] [] rfl (ev_Pg_act v5 c2 c4 g _ rfl) ?_
          show Ev 179 40 [some (.inr (.inr 69)), some (.inl c1), some (.inl c2), some (.inl c3), some (.inl c4), some (.inl v5)] [.inl (Pg_act v5 c2 c4 g)] g _ _
          refine ev_runs 1 (40, [some (.inr (.inr 69)), some (.inl c1), some (.inl c2), some (.inl c3), some (.inl c4), some (.inl v5)], [.inl (Pg_act v5 c2 c4 g)], g) (41, [some (.inr (.inr 69)), some (.inl c1), some (.inl c2), some (.inl c3), some (.inl c4), some (.inl v5)], [.inl c3, .inl (Pg_act v5 c2 c4 g)], g) rfl ?_
          by_cases hc : ¬ (Pg_act v5 c2 c4 g) = c3
          · rw [if_pos hc] at h
            refine es (46, [some (.inr (.inr 69)), some (.inl c1), some (.inl c2), some (.inl c3), some (.inl c4), some (.inl v5)], [], g) (congrArg some (if_pos hc)) ?_
            refine ev_runs 2 (46, [some (.inr (.inr 69)), some (.inl c1), some (.inl c2), some (.inl c3), some (.inl c4), some (.inl v5)], [], g) (3, [some (.inr (.inr 69)), some (.inl c1), some (.inl c2), some (.inl c3), some (.inl c4), some (.inl (wr (v5 + 1)))], [], g) rfl ?_
            exact ev_le (L := [some (.inr (.inr 69)), some (.inl c1), some (.inl c2), some (.inl c3), some (.inl c4), some (.inl (wr (v5 + 1)))]) (by simp [Lle]) (ih3 (wr (v5 + 1)) g r g' h)
          · rw [if_neg hc] at h
            refine es (44, [some (.inr (.inr 69)), some (.inl c1), some (.inl c2), some (.inl c3), some (.inl c4), some (.inl v5)], [], g) (congrArg some (if_neg hc)) ?_
            refine ev_runs 1 (44, [some (.inr (.inr 69)), some (.inl c1), some (.inl c2), some (.inl c3), some (.inl c4), some (.inl v5)], [], g) (45, [some (.inr (.inr 69)), some (.inl c1), some (.inl c2), some (.inl c3), some (.inl c4), some (.inl v5)], [.inl 1], g) rfl ?_
            cases h
            exact er rfl
set_option maxRecDepth 100000 in
set_option maxHeartbeats 4000000 in
theorem ev_Pg_rowsDo (a1 a2 a3 a4 : Int) (g : Gx) (r : Int) (g' : Gx) (h : Pg_rowsDo a1 a2 a3 a4 g = some (r, g')) : Ev 179 0 [some (.inr (.inr 69)), some (.inl a1), some (.inl a2), some (.inl a3), some (.inl a4), none] [] g (some (.inl r)) g' := by
  rw [Pg_rowsDo] at h
  refine ev_runs 2 (0, [some (.inr (.inr 69)), some (.inl a1), some (.inl a2), some (.inl a3), some (.inl a4), none], [], g) (3, [some (.inr (.inr 69)), some (.inl a1), some (.inl a2), some (.inl a3), some (.inl a4), some (.inl 0)], [], g) rfl ?_
  refine ev_le (L := [some (.inr (.inr 69)), some (.inl a1), some (.inl a2), some (.inl a3), some (.inl a4), some (.inl 0)]) (by simp [Lle]) ?_
  refine ev_Pg_rowsDo_l3 a1 a2 a3 a4 _ ?_ fu 0 g r g' h
  · intro g1 r g' h
    refine ev_runs 1 (52, [none, none, none, none, none, none], [], g1) (53, [none, none, none, none, none, none], [.inl 0], g1) rfl ?_
    cases h
    exact er rfl
set_option maxRecDepth 100000 in
set_option maxHeartbeats 4000000 in
theorem ev_Pg_rowsGetAll_l3 (c1 : Int) (c2 : Int) (c3 : Int) (c4 : Int) (K3_66 : Gx → Option (Int × Gx)) (hK3_66 : ∀ (g : Gx) (r : Int) (g' : Gx), K3_66 g = some (r, g') → Ev 180 66 [none, none, none, none, none, none] [] g (some (.inl r)) g') : ∀ (n3 : Nat) (v5 : Int) (g : Gx) (r : Int) (g' : Gx), Pg_rowsGetAll_l3 c1 c2 c3 c4 K3_66 n3 v5 g = some (r, g') → Ev 180 3 [some (.inr (.inr 69)), some (.inl c1), some (.inl c2), some (.inl c3), some (.inl c4), some (.inl v5)] [] g (some (.inl r)) g' := by
  intro n3
  induction n3 with
  | zero => intro v5 g r g' h; cases h
  | succ n3 ih3 =>
    intro v5 g r g' h
    rw [Pg_rowsGetAll_l3] at h
    refine ev_runs 3 (3, [some (.inr (.inr 69)), some (.inl c1), some (.inl c2), some (.inl c3), some (.inl c4), some (.inl v5)], [], g) (9, [some (.inr (.inr 69)), some (.inl c1), some (.inl c2), some (.inl c3), some (.inl c4), some (.inl v5)], [.inr (.inr 33), .inl v5], g) rfl ?_
    refine ec 74 12 [.inr (.inr 33)] [.inl v5] rfl (ev_Hi_size g _ rfl) ?_
    show Ev 180 12 [some (.inr (.inr 69)), some (.inl c1), some (.inl c2), some (.inl c3), some (.inl c4), some (.inl v5)] [.inl (Hi_size g), .inl v5] g _ _
    by_cases hc : (Hi_size g) ≤ v5
    · rw [if_pos hc] at h
      refine es (66, [some (.inr (.inr 69)), some (.inl c1), some (.inl c2), some (.inl c3), some (.inl c4), some (.inl v5)], [], g) (congrArg some (if_pos hc)) ?_
      exact ev_le (L := [none, none, none, none, none, none]) (by simp [Lle]) (hK3_66 g r g' h)
    · rw [if_neg hc] at h
      refine es (15, [some (.inr (.inr 69)), some (.inl c1), some (.inl c2), some (.inl c3), some (.inl c4), some (.inl v5)], [], g) (congrArg some (if_neg hc)) ?_
      refine ev_runs 2 (15, [some (.inr (.inr 69)), some (.inl c1), some (.inl c2), some (.inl c3), some (.inl c4), some (.inl v5)], [], g) (18, [some (.inr (.inr 69)), some (.inl c1), some (.inl c2), some (.inl c3), some (.inl c4), some (.inl v5)], [.inl v5, .inl c2], g) rfl ?_
      refine ec 64 21 [.inl c2, .inl v5] [] rfl (ev_Op_has c2 v5 g _ rfl) ?_
      show Ev 180 21 [some (.inr (.inr 69)), some (.inl c1), some (.inl c2), some (.inl c3), some (.inl c4), some (.inl v5)] [.inl (Op_has c2 v5)] g _ _
      by_cases hc : (Op_has c2 v5) = 0
      · rw [if_pos hc] at h
        refine es (60, [some (.inr (.inr 69)), some (.inl c1), some (.inl c2), some (.inl c3), some (.inl c4), some (.inl v5)], [], g) (congrArg some (if_pos hc)) ?_
        refine ev_runs 2 (60, [some (.inr (.inr 69)), some (.inl c1), some (.inl c2), some (.inl c3), some (.inl c4), some (.inl v5)], [], g) (3, [some (.inr (.inr 69)), some (.inl c1), some (.inl c2), some (.inl c3), some (.inl c4), some (.inl (wr (v5 + 1)))], [], g) rfl ?_
        exact ev_le (L := [some (.inr (.inr 69)), some (.inl c1), some (.inl c2), some (.inl c3), some (.inl c4), some (.inl (wr (v5 + 1)))]) (by simp [Lle]) (ih3 (wr (v5 + 1)) g r g' h)
      · rw [if_neg hc] at h
        refine es (24, [some (.inr (.inr 69)), some (.inl c1), some (.inl c2), some (.inl c3), some (.inl c4), some (.inl v5)], [], g) (congrArg some (if_neg hc)) ?_
        refine ev_runs 4 (24, [some (.inr (.inr 69)), some (.inl c1), some (.inl c2), some (.inl c3), some (.inl c4), some (.inl v5)], [], g) (31, [some (.inr (.inr 69)), some (.inl c1), some (.inl c2), some (.inl c3), some (.inl c4), some (.inl v5)], [.inl c3, .inl v5, .inr (.inr 50)], g) rfl ?_
        refine ec 120 34 [.inr (.inr 50), .inl v5, .inl c3] [] rfl (ev_Lk_gets v5 c3 g _ rfl) ?_
        show Ev 180 34 [some (.inr (.inr 69)), some (.inl c1), some (.inl c2), some (.inl c3), some (.inl c4), some (.inl v5)] [.inl (Lk_gets v5 c3 g)] g _ _
        by_cases hc : (Lk_gets v5 c3 g) = 0
        · rw [if_pos hc] at h
          refine es (60, [some (.inr (.inr 69)), some (.inl c1), some (.inl c2), some (.inl c3), some (.inl c4), some (.inl v5)], [], g) (congrArg some (if_pos hc)) ?_
          refine ev_runs 2 (60, [some (.inr (.inr 69)), some (.inl c1), some (.inl c2), some (.inl c3), some (.inl c4), some (.inl v5)], [], g) (3, [some (.inr (.inr 69)), some (.inl c1), some (.inl c2), some (.inl c3), some (.inl c4), some (.inl (wr (v5 + 1)))], [], g) rfl ?_
          exact ev_le (L := [some (.inr (.inr 69)), some (.inl c1), some (.inl c2), some (.inl c3), some (.inl c4), some (.inl (wr (v5 + 1)))]) (by simp [Lle]) (ih3 (wr (v5 + 1)) g r g' h)
        · rw [if_neg hc] at h
          refine es (37, [some (.inr (.inr 69)), some (.inl c1), some (.inl c2), some (.inl c3), some (.inl c4), some (.inl v5)], [], g) (congrArg some (if_neg hc)) ?_
          refine ev_runs 7 (37, [some (.inr (.inr 69)), some (.inl c1), some (.inl c2), some (.inl c3), some (.inl c4), some (.inl v5)], [], g) (47, [some (.inr (.inr 69)), some (.inl c1), some (.inl c2), some (.inl c3), some (.inl c4), some (.inl v5)], [.inl c3, .inl v5, .inr (.inr 50), .inl c3, .inl c1, .inr (.inr 69)], g) rfl ?_
          refine ec 96 50 [.inr (.inr 50), .inl v5, .inl c3] [.inl c3, .inl c1, .inr (.inr 69)] rfl (ev_Lk_act v5 c3 g _ rfl) ?_
          show Ev 180 50 [some (.inr (.inr 69)), some (.inl c1), some (.inl c2), some (.inl c3), some (.inl c4), some (.inl v5)] [.inl (Lk_act v5 c3 g), .inl c3, .inl c1, .inr (.inr 69)] g _ _
          refine ev_runs 1 (50, [some (.inr (.inr 69)), some (.inl c1), some (.inl c2), some (.inl c3), some (.inl c4), some (.inl v5)], [.inl (Lk_act v5 c3 g), .inl c3, .inl c1, .inr (.inr 69)], g) (52, [some (.inr (.inr 69)), some (.inl c1), some (.inl c2), some (.inl c3), some (.inl c4), some (.inl v5)], [.inl c4, .inl (Lk_act v5 c3 g), .inl c3, .inl c1, .inr (.inr 69)], g) rfl ?_
          obtain ⟨q1, hq, h⟩ := Option.bind_eq_some_iff.mp h
          refine ec 179 55 [.inr (.inr 69), .inl c1, .inl c3, .inl (Lk_act v5 c3 g), .inl c4] [] rfl (ev_Pg_rowsDo c1 c3 (Lk_act v5 c3 g) c4 g q1.1 q1.2 hq) ?_
          show Ev 180 55 [some (.inr (.inr 69)), some (.inl c1), some (.inl c2), some (.inl c3), some (.inl c4), some (.inl v5)] [.inl q1.1] q1.2 _ _
          by_cases hc : ¬ q1.1 = 0
          · rw [if_pos hc] at h
            refine es (60, [some (.inr (.inr 69)), some (.inl c1), some (.inl c2), some (.inl c3), some (.inl c4), some (.inl v5)], [], q1.2) (congrArg some (if_pos hc)) ?_
            refine ev_runs 2 (60, [some (.inr (.inr 69)), some (.inl c1), some (.inl c2), some (.inl c3), some (.inl c4), some (.inl v5)], [], q1.2) (3, [some (.inr (.inr 69)), some (.inl c1), some (.inl c2), some (.inl c3), some (.inl c4), some (.inl (wr (v5 + 1)))], [], q1.2) rfl ?_
            exact ev_le (L := [some (.inr (.inr 69)), some (.inl c1), some (.inl c2), some (.inl c3), some (.inl c4), some (.inl (wr (v5 + 1)))]) (by simp [Lle]) (ih3 (wr (v5 + 1)) q1.2 r g' h)
          · rw [if_neg hc] at h
            refine es (58, [some (.inr (.inr 69)), some (.inl c1), some (.inl c2), some (.inl c3), some (.inl c4), some (.inl v5)], [], q1.2) (congrArg some (if_neg hc)) ?_
            refine ev_runs 1 (58, [some (.inr (.inr 69)), some (.inl c1), some (.inl c2), some (.inl c3), some (.inl c4), some (.inl v5)], [], q1.2) (59, [some (.inr (.inr 69)), some (.inl c1), some (.inl c2), some (.inl c3), some (.inl c4), some (.inl v5)], [.inl 0], q1.2) rfl ?_
            cases h
            exact er rfl
set_option maxRecDepth 100000 in
set_option maxHeartbeats 4000000 in
theorem ev_Pg_rowsGetAll (a1 a2 a3 a4 : Int) (g : Gx) (r : Int) (g' : Gx) (h : Pg_rowsGetAll a1 a2 a3 a4 g = some (r, g')) : Ev 180 0 [some (.inr (.inr 69)), some (.inl a1), some (.inl a2), some (.inl a3), some (.inl a4), none] [] g (some (.inl r)) g' := by
  rw [Pg_rowsGetAll] at h
  refine ev_runs 2 (0, [some (.inr (.inr 69)), some (.inl a1), some (.inl a2), some (.inl a3), some (.inl a4), none], [], g) (3, [some (.inr (.inr 69)), some (.inl a1), some (.inl a2), some (.inl a3), some (.inl a4), some (.inl 0)], [], g) rfl ?_
  refine ev_le (L := [some (.inr (.inr 69)), some (.inl a1), some (.inl a2), some (.inl a3), some (.inl a4), some (.inl 0)]) (by simp [Lle]) ?_
  refine ev_Pg_rowsGetAll_l3 a1 a2 a3 a4 _ ?_ fu 0 g r g' h
  · intro g2 r g' h
    refine ev_runs 1 (66, [none, none, none, none, none, none], [], g2) (67, [none, none, none, none, none, none], [.inl 1], g2) rfl ?_
    cases h
    exact er rfl
set_option maxRecDepth 100000 in
set_option maxHeartbeats 4000000 in
theorem ev_Pg_saysAt (a1 a2 : Int) (g : Gx) (r : Int) (h : Pg_saysAt a1 a2 g = r) : Ev 181 0 [some (.inr (.inr 69)), some (.inl a1), some (.inl a2)] [] g (some (.inl r)) g := by
  rw [Pg_saysAt] at h
  refine ev_runs 3 (0, [some (.inr (.inr 69)), some (.inl a1), some (.inl a2)], [], g) (3, [some (.inr (.inr 69)), some (.inl a1), some (.inl a2)], [.inl a1, .inr (.inr 69), .inl a2], g) rfl ?_
  refine ec 175 6 [.inr (.inr 69), .inl a1] [.inl a2] rfl (ev_Pg_length a1 g _ rfl) ?_
  show Ev 181 6 [some (.inr (.inr 69)), some (.inl a1), some (.inl a2)] [.inl (Pg_length a1 g), .inl a2] g _ _
  by_cases hc : (Pg_length a1 g) ≤ a2
  · rw [if_pos hc] at h
    refine es (36, [some (.inr (.inr 69)), some (.inl a1), some (.inl a2)], [], g) (congrArg some (if_pos hc)) ?_
    refine ev_runs 1 (36, [some (.inr (.inr 69)), some (.inl a1), some (.inl a2)], [], g) (37, [some (.inr (.inr 69)), some (.inl a1), some (.inl a2)], [.inl 0], g) rfl ?_
    subst h
    exact er rfl
  · rw [if_neg hc] at h
    refine es (9, [some (.inr (.inr 69)), some (.inl a1), some (.inl a2)], [], g) (congrArg some (if_neg hc)) ?_
    refine ev_runs 5 (9, [some (.inr (.inr 69)), some (.inl a1), some (.inl a2)], [], g) (18, [some (.inr (.inr 69)), some (.inl a1), some (.inl a2)], [.inl a1, .inr (.inr 76), .inr (.inr 70)], g) rfl ?_
    refine ec 13 21 [.inr (.inr 76), .inl a1] [.inr (.inr 70)] rfl (ev_Row_at rfl rfl _ _) ?_
    show Ev 181 21 [some (.inr (.inr 69)), some (.inl a1), some (.inl a2)] [.inl (rat g 77 9 a1), .inr (.inr 70)] g _ _
    refine ev_runs 2 (21, [some (.inr (.inr 69)), some (.inl a1), some (.inl a2)], [.inl (rat g 77 9 a1), .inr (.inr 70)], g) (23, [some (.inr (.inr 69)), some (.inl a1), some (.inl a2)], [.inl (wr ((rat g 77 9 a1) + a2)), .inr (.inr 70)], g) rfl ?_
    refine ec 13 26 [.inr (.inr 70), .inl (wr ((rat g 77 9 a1) + a2))] [] rfl (ev_Row_at rfl rfl _ _) ?_
    show Ev 181 26 [some (.inr (.inr 69)), some (.inl a1), some (.inl a2)] [.inl (rat g 71 80 (wr ((rat g 77 9 a1) + a2)))] g _ _
    refine ev_runs 1 (26, [some (.inr (.inr 69)), some (.inl a1), some (.inl a2)], [.inl (rat g 71 80 (wr ((rat g 77 9 a1) + a2)))], g) (29, [some (.inr (.inr 69)), some (.inl a1), some (.inl a2)], [.inl 10000, .inl (rat g 71 80 (wr ((rat g 77 9 a1) + a2)))], g) rfl ?_
    by_cases hc : ¬ (rat g 71 80 (wr ((rat g 77 9 a1) + a2))) = 10000
    · rw [if_pos hc] at h
      refine es (36, [some (.inr (.inr 69)), some (.inl a1), some (.inl a2)], [], g) (congrArg some (if_pos hc)) ?_
      refine ev_runs 1 (36, [some (.inr (.inr 69)), some (.inl a1), some (.inl a2)], [], g) (37, [some (.inr (.inr 69)), some (.inl a1), some (.inl a2)], [.inl 0], g) rfl ?_
      subst h
      exact er rfl
    · rw [if_neg hc] at h
      refine es (32, [some (.inr (.inr 69)), some (.inl a1), some (.inl a2)], [], g) (congrArg some (if_neg hc)) ?_
      refine ev_runs 2 (32, [some (.inr (.inr 69)), some (.inl a1), some (.inl a2)], [], g) (37, [some (.inr (.inr 69)), some (.inl a1), some (.inl a2)], [.inl 1], g) rfl ?_
      subst h
      exact er rfl
set_option maxRecDepth 100000 in
set_option maxHeartbeats 4000000 in
theorem ev_Pg_looksDo_l3 (c1 : Int) (c2 : Int) (c3 : Int) (K3_59 : Gx → Option (Int × Gx)) (hK3_59 : ∀ (g : Gx) (r : Int) (g' : Gx), K3_59 g = some (r, g') → Ev 182 59 [none, none, none, none, none] [] g (some (.inl r)) g') : ∀ (n3 : Nat) (v4 : Int) (g : Gx) (r : Int) (g' : Gx), Pg_looksDo_l3 c1 c2 c3 K3_59 n3 v4 g = some (r, g') → Ev 182 3 [some (.inr (.inr 69)), some (.inl c1), some (.inl c2), some (.inl c3), some (.inl v4)] [] g (some (.inl r)) g' := by
  intro n3
  induction n3 with
  | zero => intro v4 g r g' h; cases h
  | succ n3 ih3 =>
    intro v4 g r g' h
    rw [Pg_looksDo_l3] at h
    refine ev_runs 3 (3, [some (.inr (.inr 69)), some (.inl c1), some (.inl c2), some (.inl c3), some (.inl v4)], [], g) (9, [some (.inr (.inr 69)), some (.inl c1), some (.inl c2), some (.inl c3), some (.inl v4)], [.inr (.inr 33), .inl v4], g) rfl ?_
    refine ec 74 12 [.inr (.inr 33)] [.inl v4] rfl (ev_Hi_size g _ rfl) ?_
    show Ev 182 12 [some (.inr (.inr 69)), some (.inl c1), some (.inl c2), some (.inl c3), some (.inl v4)] [.inl (Hi_size g), .inl v4] g _ _
    by_cases hc : (Hi_size g) ≤ v4
    · rw [if_pos hc] at h
      refine es (59, [some (.inr (.inr 69)), some (.inl c1), some (.inl c2), some (.inl c3), some (.inl v4)], [], g) (congrArg some (if_pos hc)) ?_
      exact ev_le (L := [none, none, none, none, none]) (by simp [Lle]) (hK3_59 g r g' h)
    · rw [if_neg hc] at h
      refine es (15, [some (.inr (.inr 69)), some (.inl c1), some (.inl c2), some (.inl c3), some (.inl v4)], [], g) (congrArg some (if_neg hc)) ?_
      refine ev_runs 2 (15, [some (.inr (.inr 69)), some (.inl c1), some (.inl c2), some (.inl c3), some (.inl v4)], [], g) (18, [some (.inr (.inr 69)), some (.inl c1), some (.inl c2), some (.inl c3), some (.inl v4)], [.inl v4, .inl c1], g) rfl ?_
      refine ec 64 21 [.inl c1, .inl v4] [] rfl (ev_Op_has c1 v4 g _ rfl) ?_
      show Ev 182 21 [some (.inr (.inr 69)), some (.inl c1), some (.inl c2), some (.inl c3), some (.inl v4)] [.inl (Op_has c1 v4)] g _ _
      by_cases hc : (Op_has c1 v4) = 0
      · rw [if_pos hc] at h
        refine es (53, [some (.inr (.inr 69)), some (.inl c1), some (.inl c2), some (.inl c3), some (.inl v4)], [], g) (congrArg some (if_pos hc)) ?_
        refine ev_runs 2 (53, [some (.inr (.inr 69)), some (.inl c1), some (.inl c2), some (.inl c3), some (.inl v4)], [], g) (3, [some (.inr (.inr 69)), some (.inl c1), some (.inl c2), some (.inl c3), some (.inl (wr (v4 + 1)))], [], g) rfl ?_
        exact ev_le (L := [some (.inr (.inr 69)), some (.inl c1), some (.inl c2), some (.inl c3), some (.inl (wr (v4 + 1)))]) (by simp [Lle]) (ih3 (wr (v4 + 1)) g r g' h)
      · rw [if_neg hc] at h
        refine es (24, [some (.inr (.inr 69)), some (.inl c1), some (.inl c2), some (.inl c3), some (.inl v4)], [], g) (congrArg some (if_neg hc)) ?_
        refine ev_runs 4 (24, [some (.inr (.inr 69)), some (.inl c1), some (.inl c2), some (.inl c3), some (.inl v4)], [], g) (31, [some (.inr (.inr 69)), some (.inl c1), some (.inl c2), some (.inl c3), some (.inl v4)], [.inl v4, .inr (.inr 50), .inl c2], g) rfl ?_
        refine ec 95 34 [.inr (.inr 50), .inl v4] [.inl c2] rfl (ev_Lk_length v4 g _ rfl) ?_
        show Ev 182 34 [some (.inr (.inr 69)), some (.inl c1), some (.inl c2), some (.inl c3), some (.inl v4)] [.inl (Lk_length v4 g), .inl c2] g _ _
        by_cases hc : (Lk_length v4 g) ≤ c2
        · rw [if_pos hc] at h
          refine es (53, [some (.inr (.inr 69)), some (.inl c1), some (.inl c2), some (.inl c3), some (.inl v4)], [], g) (congrArg some (if_pos hc)) ?_
          refine ev_runs 2 (53, [some (.inr (.inr 69)), some (.inl c1), some (.inl c2), some (.inl c3), some (.inl v4)], [], g) (3, [some (.inr (.inr 69)), some (.inl c1), some (.inl c2), some (.inl c3), some (.inl (wr (v4 + 1)))], [], g) rfl ?_
          exact ev_le (L := [some (.inr (.inr 69)), some (.inl c1), some (.inl c2), some (.inl c3), some (.inl (wr (v4 + 1)))]) (by simp [Lle]) (ih3 (wr (v4 + 1)) g r g' h)
        · rw [if_neg hc] at h
          refine es (37, [some (.inr (.inr 69)), some (.inl c1), some (.inl c2), some (.inl c3), some (.inl v4)], [], g) (congrArg some (if_neg hc)) ?_
          refine ev_runs 4 (37, [some (.inr (.inr 69)), some (.inl c1), some (.inl c2), some (.inl c3), some (.inl v4)], [], g) (44, [some (.inr (.inr 69)), some (.inl c1), some (.inl c2), some (.inl c3), some (.inl v4)], [.inl c2, .inl v4, .inr (.inr 50)], g) rfl ?_
          refine ec 96 47 [.inr (.inr 50), .inl v4, .inl c2] [] rfl (ev_Lk_act v4 c2 g _ rfl) ?_
          show Ev 182 47 [some (.inr (.inr 69)), some (.inl c1), some (.inl c2), some (.inl c3), some (.inl v4)] [.inl (Lk_act v4 c2 g)] g _ _
          refine ev_runs 1 (47, [some (.inr (.inr 69)), some (.inl c1), some (.inl c2), some (.inl c3), some (.inl v4)], [.inl (Lk_act v4 c2 g)], g) (48, [some (.inr (.inr 69)), some (.inl c1), some (.inl c2), some (.inl c3), some (.inl v4)], [.inl c3, .inl (Lk_act v4 c2 g)], g) rfl ?_
          by_cases hc : ¬ (Lk_act v4 c2 g) = c3
          · rw [if_pos hc] at h
            refine es (53, [some (.inr (.inr 69)), some (.inl c1), some (.inl c2), some (.inl c3), some (.inl v4)], [], g) (congrArg some (if_pos hc)) ?_
            refine ev_runs 2 (53, [some (.inr (.inr 69)), some (.inl c1), some (.inl c2), some (.inl c3), some (.inl v4)], [], g) (3, [some (.inr (.inr 69)), some (.inl c1), some (.inl c2), some (.inl c3), some (.inl (wr (v4 + 1)))], [], g) rfl ?_
            exact ev_le (L := [some (.inr (.inr 69)), some (.inl c1), some (.inl c2), some (.inl c3), some (.inl (wr (v4 + 1)))]) (by simp [Lle]) (ih3 (wr (v4 + 1)) g r g' h)
          · rw [if_neg hc] at h
            refine es (51, [some (.inr (.inr 69)), some (.inl c1), some (.inl c2), some (.inl c3), some (.inl v4)], [], g) (congrArg some (if_neg hc)) ?_
            refine ev_runs 1 (51, [some (.inr (.inr 69)), some (.inl c1), some (.inl c2), some (.inl c3), some (.inl v4)], [], g) (52, [some (.inr (.inr 69)), some (.inl c1), some (.inl c2), some (.inl c3), some (.inl v4)], [.inl 1], g) rfl ?_
            cases h
            exact er rfl
set_option maxRecDepth 100000 in
set_option maxHeartbeats 4000000 in
theorem ev_Pg_looksDo (a1 a2 a3 : Int) (g : Gx) (r : Int) (g' : Gx) (h : Pg_looksDo a1 a2 a3 g = some (r, g')) : Ev 182 0 [some (.inr (.inr 69)), some (.inl a1), some (.inl a2), some (.inl a3), none] [] g (some (.inl r)) g' := by
  rw [Pg_looksDo] at h
  refine ev_runs 2 (0, [some (.inr (.inr 69)), some (.inl a1), some (.inl a2), some (.inl a3), none], [], g) (3, [some (.inr (.inr 69)), some (.inl a1), some (.inl a2), some (.inl a3), some (.inl 0)], [], g) rfl ?_
  refine ev_le (L := [some (.inr (.inr 69)), some (.inl a1), some (.inl a2), some (.inl a3), some (.inl 0)]) (by simp [Lle]) ?_
  refine ev_Pg_looksDo_l3 a1 a2 a3 _ ?_ fu 0 g r g' h
  · intro g1 r g' h
    refine ev_runs 1 (59, [none, none, none, none, none], [], g1) (60, [none, none, none, none, none], [.inl 0], g1) rfl ?_
    cases h
    exact er rfl
set_option maxRecDepth 100000 in
set_option maxHeartbeats 4000000 in
theorem ev_Pg_looksSayAll_l3 (c1 : Int) (c2 : Int) (c3 : Int) (c4 : Int) (K3_57 : Gx → Option (Int × Gx)) (hK3_57 : ∀ (g : Gx) (r : Int) (g' : Gx), K3_57 g = some (r, g') → Ev 183 57 [none, none, none, none, none, none] [] g (some (.inl r)) g') : ∀ (n3 : Nat) (v5 : Int) (g : Gx) (r : Int) (g' : Gx), Pg_looksSayAll_l3 c1 c2 c3 c4 K3_57 n3 v5 g = some (r, g') → Ev 183 3 [some (.inr (.inr 69)), some (.inl c1), some (.inl c2), some (.inl c3), some (.inl c4), some (.inl v5)] [] g (some (.inl r)) g' := by
  intro n3
  induction n3 with
  | zero => intro v5 g r g' h; cases h
  | succ n3 ih3 =>
    intro v5 g r g' h
    rw [Pg_looksSayAll_l3] at h
    refine ev_runs 3 (3, [some (.inr (.inr 69)), some (.inl c1), some (.inl c2), some (.inl c3), some (.inl c4), some (.inl v5)], [], g) (9, [some (.inr (.inr 69)), some (.inl c1), some (.inl c2), some (.inl c3), some (.inl c4), some (.inl v5)], [.inl (g 69 7), .inl v5], g) rfl ?_
    by_cases hc : (g 69 7) ≤ v5
    · rw [if_pos hc] at h
      refine es (57, [some (.inr (.inr 69)), some (.inl c1), some (.inl c2), some (.inl c3), some (.inl c4), some (.inl v5)], [], g) (congrArg some (if_pos hc)) ?_
      exact ev_le (L := [none, none, none, none, none, none]) (by simp [Lle]) (hK3_57 g r g' h)
    · rw [if_neg hc] at h
      refine es (12, [some (.inr (.inr 69)), some (.inl c1), some (.inl c2), some (.inl c3), some (.inl c4), some (.inl v5)], [], g) (congrArg some (if_neg hc)) ?_
      refine ev_runs 2 (12, [some (.inr (.inr 69)), some (.inl c1), some (.inl c2), some (.inl c3), some (.inl c4), some (.inl v5)], [], g) (15, [some (.inr (.inr 69)), some (.inl c1), some (.inl c2), some (.inl c3), some (.inl c4), some (.inl v5)], [.inl v5, .inl c1], g) rfl ?_
      refine ec 64 18 [.inl c1, .inl v5] [] rfl (ev_Op_has c1 v5 g _ rfl) ?_
      show Ev 183 18 [some (.inr (.inr 69)), some (.inl c1), some (.inl c2), some (.inl c3), some (.inl c4), some (.inl v5)] [.inl (Op_has c1 v5)] g _ _
      by_cases hc : (Op_has c1 v5) = 0
      · rw [if_pos hc] at h
        refine es (51, [some (.inr (.inr 69)), some (.inl c1), some (.inl c2), some (.inl c3), some (.inl c4), some (.inl v5)], [], g) (congrArg some (if_pos hc)) ?_
        refine ev_runs 2 (51, [some (.inr (.inr 69)), some (.inl c1), some (.inl c2), some (.inl c3), some (.inl c4), some (.inl v5)], [], g) (3, [some (.inr (.inr 69)), some (.inl c1), some (.inl c2), some (.inl c3), some (.inl c4), some (.inl (wr (v5 + 1)))], [], g) rfl ?_
        exact ev_le (L := [some (.inr (.inr 69)), some (.inl c1), some (.inl c2), some (.inl c3), some (.inl c4), some (.inl (wr (v5 + 1)))]) (by simp [Lle]) (ih3 (wr (v5 + 1)) g r g' h)
      · rw [if_neg hc] at h
        refine es (21, [some (.inr (.inr 69)), some (.inl c1), some (.inl c2), some (.inl c3), some (.inl c4), some (.inl v5)], [], g) (congrArg some (if_neg hc)) ?_
        refine ev_runs 3 (21, [some (.inr (.inr 69)), some (.inl c1), some (.inl c2), some (.inl c3), some (.inl c4), some (.inl v5)], [], g) (25, [some (.inr (.inr 69)), some (.inl c1), some (.inl c2), some (.inl c3), some (.inl c4), some (.inl v5)], [.inl c3, .inl v5, .inr (.inr 69)], g) rfl ?_
        refine ec 181 28 [.inr (.inr 69), .inl v5, .inl c3] [] rfl (ev_Pg_saysAt v5 c3 g _ rfl) ?_
        show Ev 183 28 [some (.inr (.inr 69)), some (.inl c1), some (.inl c2), some (.inl c3), some (.inl c4), some (.inl v5)] [.inl (Pg_saysAt v5 c3 g)] g _ _
        by_cases hc : (Pg_saysAt v5 c3 g) = 0
        · rw [if_pos hc] at h
          refine es (51, [some (.inr (.inr 69)), some (.inl c1), some (.inl c2), some (.inl c3), some (.inl c4), some (.inl v5)], [], g) (congrArg some (if_pos hc)) ?_
          refine ev_runs 2 (51, [some (.inr (.inr 69)), some (.inl c1), some (.inl c2), some (.inl c3), some (.inl c4), some (.inl v5)], [], g) (3, [some (.inr (.inr 69)), some (.inl c1), some (.inl c2), some (.inl c3), some (.inl c4), some (.inl (wr (v5 + 1)))], [], g) rfl ?_
          exact ev_le (L := [some (.inr (.inr 69)), some (.inl c1), some (.inl c2), some (.inl c3), some (.inl c4), some (.inl (wr (v5 + 1)))]) (by simp [Lle]) (ih3 (wr (v5 + 1)) g r g' h)
        · rw [if_neg hc] at h
          refine es (31, [some (.inr (.inr 69)), some (.inl c1), some (.inl c2), some (.inl c3), some (.inl c4), some (.inl v5)], [], g) (congrArg some (if_neg hc)) ?_
          refine ev_runs 7 (31, [some (.inr (.inr 69)), some (.inl c1), some (.inl c2), some (.inl c3), some (.inl c4), some (.inl v5)], [], g) (40, [some (.inr (.inr 69)), some (.inl c1), some (.inl c2), some (.inl c3), some (.inl c4), some (.inl v5)], [.inl c4, .inl c3, .inl v5, .inr (.inr 69), .inl c3, .inl c2, .inr (.inr 69)], g) rfl ?_
          refine ec 176 43 [.inr (.inr 69), .inl v5, .inl c3, .inl c4] [.inl c3, .inl c2, .inr (.inr 69)] rfl (ev_Pg_act v5 c3 c4 g _ rfl) ?_
          show Ev 183 43 [some (.inr (.inr 69)), some (.inl c1), some (.inl c2), some (.inl c3), some (.inl c4), some (.inl v5)] [.inl (Pg_act v5 c3 c4 g), .inl c3, .inl c2, .inr (.inr 69)] g _ _
          obtain ⟨q1, hq, h⟩ := Option.bind_eq_some_iff.mp h
          refine ec 182 46 [.inr (.inr 69), .inl c2, .inl c3, .inl (Pg_act v5 c3 c4 g)] [] rfl (ev_Pg_looksDo c2 c3 (Pg_act v5 c3 c4 g) g q1.1 q1.2 hq) ?_
          show Ev 183 46 [some (.inr (.inr 69)), some (.inl c1), some (.inl c2), some (.inl c3), some (.inl c4), some (.inl v5)] [.inl q1.1] q1.2 _ _
          by_cases hc : ¬ q1.1 = 0
          · rw [if_pos hc] at h
            refine es (51, [some (.inr (.inr 69)), some (.inl c1), some (.inl c2), some (.inl c3), some (.inl c4), some (.inl v5)], [], q1.2) (congrArg some (if_pos hc)) ?_
            refine ev_runs 2 (51, [some (.inr (.inr 69)), some (.inl c1), some (.inl c2), some (.inl c3), some (.inl c4), some (.inl v5)], [], q1.2) (3, [some (.inr (.inr 69)), some (.inl c1), some (.inl c2), some (.inl c3), some (.inl c4), some (.inl (wr (v5 + 1)))], [], q1.2) rfl ?_
            exact ev_le (L := [some (.inr (.inr 69)), some (.inl c1), some (.inl c2), some (.inl c3), some (.inl c4), some (.inl (wr (v5 + 1)))]) (by simp [Lle]) (ih3 (wr (v5 + 1)) q1.2 r g' h)
          · rw [if_neg hc] at h
            refine es (49, [some (.inr (.inr 69)), some (.inl c1), some (.inl c2), some (.inl c3), some (.inl c4), some (.inl v5)], [], q1.2) (congrArg some (if_neg hc)) ?_
            refine ev_runs 1 (49, [some (.inr (.inr 69)), some (.inl c1), some (.inl c2), some (.inl c3), some (.inl c4), some (.inl v5)], [], q1.2) (50, [some (.inr (.inr 69)), some (.inl c1), some (.inl c2), some (.inl c3), some (.inl c4), some (.inl v5)], [.inl 0], q1.2) rfl ?_
            cases h
            exact er rfl
set_option maxRecDepth 100000 in
set_option maxHeartbeats 4000000 in
theorem ev_Pg_looksSayAll (a1 a2 a3 a4 : Int) (g : Gx) (r : Int) (g' : Gx) (h : Pg_looksSayAll a1 a2 a3 a4 g = some (r, g')) : Ev 183 0 [some (.inr (.inr 69)), some (.inl a1), some (.inl a2), some (.inl a3), some (.inl a4), none] [] g (some (.inl r)) g' := by
  rw [Pg_looksSayAll] at h
  refine ev_runs 2 (0, [some (.inr (.inr 69)), some (.inl a1), some (.inl a2), some (.inl a3), some (.inl a4), none], [], g) (3, [some (.inr (.inr 69)), some (.inl a1), some (.inl a2), some (.inl a3), some (.inl a4), some (.inl 0)], [], g) rfl ?_
  refine ev_le (L := [some (.inr (.inr 69)), some (.inl a1), some (.inl a2), some (.inl a3), some (.inl a4), some (.inl 0)]) (by simp [Lle]) ?_
  refine ev_Pg_looksSayAll_l3 a1 a2 a3 a4 _ ?_ fu 0 g r g' h
  · intro g2 r g' h
    refine ev_runs 1 (57, [none, none, none, none, none, none], [], g2) (58, [none, none, none, none, none, none], [.inl 1], g2) rfl ?_
    cases h
    exact er rfl
set_option maxRecDepth 100000 in
set_option maxHeartbeats 4000000 in
theorem ev_Lk_says (a1 a2 : Int) (g : Gx) (r : Int) (h : Lk_says a1 a2 g = r) : Ev 184 0 [some (.inr (.inr 50)), some (.inl a1), some (.inl a2)] [] g (some (.inl r)) g := by
  rw [Lk_says] at h
  refine ev_runs 4 (0, [some (.inr (.inr 50)), some (.inl a1), some (.inl a2)], [], g) (6, [some (.inr (.inr 50)), some (.inl a1), some (.inl a2)], [.inl a1, .inr (.inr 53), .inl a2], g) rfl ?_
  refine ec 13 9 [.inr (.inr 53), .inl a1] [.inl a2] rfl (ev_Row_at rfl rfl _ _) ?_
  show Ev 184 9 [some (.inr (.inr 50)), some (.inl a1), some (.inl a2)] [.inl (rat g 54 30 a1), .inl a2] g _ _
  by_cases hc : (rat g 54 30 a1) ≤ a2
  · rw [if_pos hc] at h
    refine es (35, [some (.inr (.inr 50)), some (.inl a1), some (.inl a2)], [], g) (congrArg some (if_pos hc)) ?_
    refine ev_runs 1 (35, [some (.inr (.inr 50)), some (.inl a1), some (.inl a2)], [], g) (36, [some (.inr (.inr 50)), some (.inl a1), some (.inl a2)], [.inl 0], g) rfl ?_
    subst h
    exact er rfl
  · rw [if_neg hc] at h
    refine es (12, [some (.inr (.inr 50)), some (.inl a1), some (.inl a2)], [], g) (congrArg some (if_neg hc)) ?_
    refine ev_runs 7 (12, [some (.inr (.inr 50)), some (.inl a1), some (.inl a2)], [], g) (22, [some (.inr (.inr 50)), some (.inl a1), some (.inl a2)], [.inl (wr ((wr (a1 * 24)) + a2)), .inr (.inr 51)], g) rfl ?_
    refine ec 13 25 [.inr (.inr 51), .inl (wr ((wr (a1 * 24)) + a2))] [] rfl (ev_Row_at rfl rfl _ _) ?_
    show Ev 184 25 [some (.inr (.inr 50)), some (.inl a1), some (.inl a2)] [.inl (rat g 52 720 (wr ((wr (a1 * 24)) + a2)))] g _ _
    refine ev_runs 1 (25, [some (.inr (.inr 50)), some (.inl a1), some (.inl a2)], [.inl (rat g 52 720 (wr ((wr (a1 * 24)) + a2)))], g) (28, [some (.inr (.inr 50)), some (.inl a1), some (.inl a2)], [.inl 20000, .inl (rat g 52 720 (wr ((wr (a1 * 24)) + a2)))], g) rfl ?_
    by_cases hc : 20000 ≤ (rat g 52 720 (wr ((wr (a1 * 24)) + a2)))
    · rw [if_pos hc] at h
      refine es (35, [some (.inr (.inr 50)), some (.inl a1), some (.inl a2)], [], g) (congrArg some (if_pos hc)) ?_
      refine ev_runs 1 (35, [some (.inr (.inr 50)), some (.inl a1), some (.inl a2)], [], g) (36, [some (.inr (.inr 50)), some (.inl a1), some (.inl a2)], [.inl 0], g) rfl ?_
      subst h
      exact er rfl
    · rw [if_neg hc] at h
      refine es (31, [some (.inr (.inr 50)), some (.inl a1), some (.inl a2)], [], g) (congrArg some (if_neg hc)) ?_
      refine ev_runs 2 (31, [some (.inr (.inr 50)), some (.inl a1), some (.inl a2)], [], g) (36, [some (.inr (.inr 50)), some (.inl a1), some (.inl a2)], [.inl 1], g) rfl ?_
      subst h
      exact er rfl
set_option maxRecDepth 100000 in
set_option maxHeartbeats 4000000 in
theorem ev_Pg_looksOnlySay_l2 (c1 : Int) (c2 : Int) (K2_41 : Gx → Option (Int × Gx)) (hK2_41 : ∀ (g : Gx) (r : Int) (g' : Gx), K2_41 g = some (r, g') → Ev 185 41 [none, none, none, none] [] g (some (.inl r)) g') : ∀ (n2 : Nat) (v3 : Int) (g : Gx) (r : Int) (g' : Gx), Pg_looksOnlySay_l2 c1 c2 K2_41 n2 v3 g = some (r, g') → Ev 185 2 [some (.inr (.inr 69)), some (.inl c1), some (.inl c2), some (.inl v3)] [] g (some (.inl r)) g' := by
  intro n2
  induction n2 with
  | zero => intro v3 g r g' h; cases h
  | succ n2 ih2 =>
    intro v3 g r g' h
    rw [Pg_looksOnlySay_l2] at h
    refine ev_runs 3 (2, [some (.inr (.inr 69)), some (.inl c1), some (.inl c2), some (.inl v3)], [], g) (7, [some (.inr (.inr 69)), some (.inl c1), some (.inl c2), some (.inl v3)], [.inr (.inr 33), .inl v3], g) rfl ?_
    refine ec 74 10 [.inr (.inr 33)] [.inl v3] rfl (ev_Hi_size g _ rfl) ?_
    show Ev 185 10 [some (.inr (.inr 69)), some (.inl c1), some (.inl c2), some (.inl v3)] [.inl (Hi_size g), .inl v3] g _ _
    by_cases hc : (Hi_size g) ≤ v3
    · rw [if_pos hc] at h
      refine es (41, [some (.inr (.inr 69)), some (.inl c1), some (.inl c2), some (.inl v3)], [], g) (congrArg some (if_pos hc)) ?_
      exact ev_le (L := [none, none, none, none]) (by simp [Lle]) (hK2_41 g r g' h)
    · rw [if_neg hc] at h
      refine es (13, [some (.inr (.inr 69)), some (.inl c1), some (.inl c2), some (.inl v3)], [], g) (congrArg some (if_neg hc)) ?_
      refine ev_runs 2 (13, [some (.inr (.inr 69)), some (.inl c1), some (.inl c2), some (.inl v3)], [], g) (15, [some (.inr (.inr 69)), some (.inl c1), some (.inl c2), some (.inl v3)], [.inl v3, .inl c1], g) rfl ?_
      refine ec 64 18 [.inl c1, .inl v3] [] rfl (ev_Op_has c1 v3 g _ rfl) ?_
      show Ev 185 18 [some (.inr (.inr 69)), some (.inl c1), some (.inl c2), some (.inl v3)] [.inl (Op_has c1 v3)] g _ _
      by_cases hc : (Op_has c1 v3) = 0
      · rw [if_pos hc] at h
        refine es (35, [some (.inr (.inr 69)), some (.inl c1), some (.inl c2), some (.inl v3)], [], g) (congrArg some (if_pos hc)) ?_
        refine ev_runs 2 (35, [some (.inr (.inr 69)), some (.inl c1), some (.inl c2), some (.inl v3)], [], g) (2, [some (.inr (.inr 69)), some (.inl c1), some (.inl c2), some (.inl (wr (v3 + 1)))], [], g) rfl ?_
        exact ev_le (L := [some (.inr (.inr 69)), some (.inl c1), some (.inl c2), some (.inl (wr (v3 + 1)))]) (by simp [Lle]) (ih2 (wr (v3 + 1)) g r g' h)
      · rw [if_neg hc] at h
        refine es (21, [some (.inr (.inr 69)), some (.inl c1), some (.inl c2), some (.inl v3)], [], g) (congrArg some (if_neg hc)) ?_
        refine ev_runs 4 (21, [some (.inr (.inr 69)), some (.inl c1), some (.inl c2), some (.inl v3)], [], g) (27, [some (.inr (.inr 69)), some (.inl c1), some (.inl c2), some (.inl v3)], [.inl c2, .inl v3, .inr (.inr 50)], g) rfl ?_
        refine ec 184 30 [.inr (.inr 50), .inl v3, .inl c2] [] rfl (ev_Lk_says v3 c2 g _ rfl) ?_
        show Ev 185 30 [some (.inr (.inr 69)), some (.inl c1), some (.inl c2), some (.inl v3)] [.inl (Lk_says v3 c2 g)] g _ _
        by_cases hc : ¬ (Lk_says v3 c2 g) = 0
        · rw [if_pos hc] at h
          refine es (35, [some (.inr (.inr 69)), some (.inl c1), some (.inl c2), some (.inl v3)], [], g) (congrArg some (if_pos hc)) ?_
          refine ev_runs 2 (35, [some (.inr (.inr 69)), some (.inl c1), some (.inl c2), some (.inl v3)], [], g) (2, [some (.inr (.inr 69)), some (.inl c1), some (.inl c2), some (.inl (wr (v3 + 1)))], [], g) rfl ?_
          exact ev_le (L := [some (.inr (.inr 69)), some (.inl c1), some (.inl c2), some (.inl (wr (v3 + 1)))]) (by simp [Lle]) (ih2 (wr (v3 + 1)) g r g' h)
        · rw [if_neg hc] at h
          refine es (33, [some (.inr (.inr 69)), some (.inl c1), some (.inl c2), some (.inl v3)], [], g) (congrArg some (if_neg hc)) ?_
          refine ev_runs 1 (33, [some (.inr (.inr 69)), some (.inl c1), some (.inl c2), some (.inl v3)], [], g) (34, [some (.inr (.inr 69)), some (.inl c1), some (.inl c2), some (.inl v3)], [.inl 0], g) rfl ?_
          cases h
          exact er rfl
set_option maxRecDepth 100000 in
set_option maxHeartbeats 4000000 in
theorem ev_Pg_looksOnlySay (a1 a2 : Int) (g : Gx) (r : Int) (g' : Gx) (h : Pg_looksOnlySay a1 a2 g = some (r, g')) : Ev 185 0 [some (.inr (.inr 69)), some (.inl a1), some (.inl a2), none] [] g (some (.inl r)) g' := by
  rw [Pg_looksOnlySay] at h
  refine ev_runs 2 (0, [some (.inr (.inr 69)), some (.inl a1), some (.inl a2), none], [], g) (2, [some (.inr (.inr 69)), some (.inl a1), some (.inl a2), some (.inl 0)], [], g) rfl ?_
  refine ev_le (L := [some (.inr (.inr 69)), some (.inl a1), some (.inl a2), some (.inl 0)]) (by simp [Lle]) ?_
  refine ev_Pg_looksOnlySay_l2 a1 a2 _ ?_ fu 0 g r g' h
  · intro g1 r g' h
    refine ev_runs 1 (41, [none, none, none, none], [], g1) (42, [none, none, none, none], [.inl 1], g1) rfl ?_
    cases h
    exact er rfl
set_option maxRecDepth 100000 in
set_option maxHeartbeats 4000000 in
theorem ev_Pg_rowsSay_l2 (c1 : Int) (c2 : Int) (K2_35 : Gx → Option (Int × Gx)) (hK2_35 : ∀ (g : Gx) (r : Int) (g' : Gx), K2_35 g = some (r, g') → Ev 186 35 [none, none, none, none] [] g (some (.inl r)) g') : ∀ (n2 : Nat) (v3 : Int) (g : Gx) (r : Int) (g' : Gx), Pg_rowsSay_l2 c1 c2 K2_35 n2 v3 g = some (r, g') → Ev 186 2 [some (.inr (.inr 69)), some (.inl c1), some (.inl c2), some (.inl v3)] [] g (some (.inl r)) g' := by
  intro n2
  induction n2 with
  | zero => intro v3 g r g' h; cases h
  | succ n2 ih2 =>
    intro v3 g r g' h
    rw [Pg_rowsSay_l2] at h
    refine ev_runs 3 (2, [some (.inr (.inr 69)), some (.inl c1), some (.inl c2), some (.inl v3)], [], g) (7, [some (.inr (.inr 69)), some (.inl c1), some (.inl c2), some (.inl v3)], [.inl (g 69 7), .inl v3], g) rfl ?_
    by_cases hc : (g 69 7) ≤ v3
    · rw [if_pos hc] at h
      refine es (35, [some (.inr (.inr 69)), some (.inl c1), some (.inl c2), some (.inl v3)], [], g) (congrArg some (if_pos hc)) ?_
      exact ev_le (L := [none, none, none, none]) (by simp [Lle]) (hK2_35 g r g' h)
    · rw [if_neg hc] at h
      refine es (10, [some (.inr (.inr 69)), some (.inl c1), some (.inl c2), some (.inl v3)], [], g) (congrArg some (if_neg hc)) ?_
      refine ev_runs 2 (10, [some (.inr (.inr 69)), some (.inl c1), some (.inl c2), some (.inl v3)], [], g) (12, [some (.inr (.inr 69)), some (.inl c1), some (.inl c2), some (.inl v3)], [.inl v3, .inl c1], g) rfl ?_
      refine ec 64 15 [.inl c1, .inl v3] [] rfl (ev_Op_has c1 v3 g _ rfl) ?_
      show Ev 186 15 [some (.inr (.inr 69)), some (.inl c1), some (.inl c2), some (.inl v3)] [.inl (Op_has c1 v3)] g _ _
      by_cases hc : (Op_has c1 v3) = 0
      · rw [if_pos hc] at h
        refine es (29, [some (.inr (.inr 69)), some (.inl c1), some (.inl c2), some (.inl v3)], [], g) (congrArg some (if_pos hc)) ?_
        refine ev_runs 2 (29, [some (.inr (.inr 69)), some (.inl c1), some (.inl c2), some (.inl v3)], [], g) (2, [some (.inr (.inr 69)), some (.inl c1), some (.inl c2), some (.inl (wr (v3 + 1)))], [], g) rfl ?_
        exact ev_le (L := [some (.inr (.inr 69)), some (.inl c1), some (.inl c2), some (.inl (wr (v3 + 1)))]) (by simp [Lle]) (ih2 (wr (v3 + 1)) g r g' h)
      · rw [if_neg hc] at h
        refine es (18, [some (.inr (.inr 69)), some (.inl c1), some (.inl c2), some (.inl v3)], [], g) (congrArg some (if_neg hc)) ?_
        refine ev_runs 3 (18, [some (.inr (.inr 69)), some (.inl c1), some (.inl c2), some (.inl v3)], [], g) (21, [some (.inr (.inr 69)), some (.inl c1), some (.inl c2), some (.inl v3)], [.inl c2, .inl v3, .inr (.inr 69)], g) rfl ?_
        refine ec 181 24 [.inr (.inr 69), .inl v3, .inl c2] [] rfl (ev_Pg_saysAt v3 c2 g _ rfl) ?_
        show Ev 186 24 [some (.inr (.inr 69)), some (.inl c1), some (.inl c2), some (.inl v3)] [.inl (Pg_saysAt v3 c2 g)] g _ _
        by_cases hc : (Pg_saysAt v3 c2 g) = 0
        · rw [if_pos hc] at h
          refine es (29, [some (.inr (.inr 69)), some (.inl c1), some (.inl c2), some (.inl v3)], [], g) (congrArg some (if_pos hc)) ?_
          refine ev_runs 2 (29, [some (.inr (.inr 69)), some (.inl c1), some (.inl c2), some (.inl v3)], [], g) (2, [some (.inr (.inr 69)), some (.inl c1), some (.inl c2), some (.inl (wr (v3 + 1)))], [], g) rfl ?_
          exact ev_le (L := [some (.inr (.inr 69)), some (.inl c1), some (.inl c2), some (.inl (wr (v3 + 1)))]) (by simp [Lle]) (ih2 (wr (v3 + 1)) g r g' h)
        · rw [if_neg hc] at h
          refine es (27, [some (.inr (.inr 69)), some (.inl c1), some (.inl c2), some (.inl v3)], [], g) (congrArg some (if_neg hc)) ?_
          refine ev_runs 1 (27, [some (.inr (.inr 69)), some (.inl c1), some (.inl c2), some (.inl v3)], [], g) (28, [some (.inr (.inr 69)), some (.inl c1), some (.inl c2), some (.inl v3)], [.inl 1], g) rfl ?_
          cases h
          exact er rfl
set_option maxRecDepth 100000 in
set_option maxHeartbeats 4000000 in
theorem ev_Pg_rowsSay (a1 a2 : Int) (g : Gx) (r : Int) (g' : Gx) (h : Pg_rowsSay a1 a2 g = some (r, g')) : Ev 186 0 [some (.inr (.inr 69)), some (.inl a1), some (.inl a2), none] [] g (some (.inl r)) g' := by
  rw [Pg_rowsSay] at h
  refine ev_runs 2 (0, [some (.inr (.inr 69)), some (.inl a1), some (.inl a2), none], [], g) (2, [some (.inr (.inr 69)), some (.inl a1), some (.inl a2), some (.inl 0)], [], g) rfl ?_
  refine ev_le (L := [some (.inr (.inr 69)), some (.inl a1), some (.inl a2), some (.inl 0)]) (by simp [Lle]) ?_
  refine ev_Pg_rowsSay_l2 a1 a2 _ ?_ fu 0 g r g' h
  · intro g1 r g' h
    refine ev_runs 1 (35, [none, none, none, none], [], g1) (36, [none, none, none, none], [.inl 0], g1) rfl ?_
    cases h
    exact er rfl
set_option maxRecDepth 100000 in
set_option maxHeartbeats 4000000 in
theorem ev_Pg_isBreach (a1 a2 a3 : Int) (g : Gx) (r : Int) (g' : Gx) (h : Pg_isBreach a1 a2 a3 g = some (r, g')) : Ev 187 0 [some (.inr (.inr 69)), some (.inl a1), some (.inl a2), some (.inl a3), none, none] [] g (some (.inl r)) g' := by
  rw [Pg_isBreach] at h
  refine ev_runs 4 (0, [some (.inr (.inr 69)), some (.inl a1), some (.inl a2), some (.inl a3), none, none], [], g) (4, [some (.inr (.inr 69)), some (.inl a1), some (.inl a2), some (.inl a3), none, none], [.inl a3, .inl a2, .inl a1, .inr (.inr 69)], g) rfl ?_
  obtain ⟨q1, hq, h⟩ := Option.bind_eq_some_iff.mp h
  refine ec 177 7 [.inr (.inr 69), .inl a1, .inl a2, .inl a3] [] rfl (ev_Pg_rowsBeginningAs a1 a2 a3 g q1.1 q1.2 hq) ?_
  show Ev 187 7 [some (.inr (.inr 69)), some (.inl a1), some (.inl a2), some (.inl a3), none, none] [.inl q1.1] q1.2 _ _
  refine ev_runs 5 (7, [some (.inr (.inr 69)), some (.inl a1), some (.inl a2), some (.inl a3), none, none], [.inl q1.1], q1.2) (13, [some (.inr (.inr 69)), some (.inl a1), some (.inl a2), some (.inl a3), some (.inl q1.1), none], [.inl a3, .inl a2, .inl a1, .inr (.inr 69)], q1.2) rfl ?_
  obtain ⟨q2, hq, h⟩ := Option.bind_eq_some_iff.mp h
  refine ec 178 16 [.inr (.inr 69), .inl a1, .inl a2, .inl a3] [] rfl (ev_Pg_looksBeginningAs a1 a2 a3 q1.2 q2.1 q2.2 hq) ?_
  show Ev 187 16 [some (.inr (.inr 69)), some (.inl a1), some (.inl a2), some (.inl a3), some (.inl q1.1), none] [.inl q2.1] q2.2 _ _
  refine ev_runs 2 (16, [some (.inr (.inr 69)), some (.inl a1), some (.inl a2), some (.inl a3), some (.inl q1.1), none], [.inl q2.1], q2.2) (20, [some (.inr (.inr 69)), some (.inl a1), some (.inl a2), some (.inl a3), some (.inl q1.1), some (.inl q2.1)], [.inl q2.1], q2.2) rfl ?_
  by_cases hc : ¬ q2.1 = 0
  · rw [if_pos hc] at h
    refine es (25, [some (.inr (.inr 69)), some (.inl a1), some (.inl a2), some (.inl a3), some (.inl q1.1), some (.inl q2.1)], [], q2.2) (congrArg some (if_pos hc)) ?_
    refine ev_runs 5 (25, [some (.inr (.inr 69)), some (.inl a1), some (.inl a2), some (.inl a3), some (.inl q1.1), some (.inl q2.1)], [], q2.2) (32, [some (.inr (.inr 69)), some (.inl a1), some (.inl a2), some (.inl a3), some (.inl q1.1), some (.inl q2.1)], [.inl a3, .inl a2, .inl q2.1, .inl q1.1, .inr (.inr 69)], q2.2) rfl ?_
    obtain ⟨q3, hq, h⟩ := Option.bind_eq_some_iff.mp h
    refine ec 180 35 [.inr (.inr 69), .inl q1.1, .inl q2.1, .inl a2, .inl a3] [] rfl (ev_Pg_rowsGetAll q1.1 q2.1 a2 a3 q2.2 q3.1 q3.2 hq) ?_
    show Ev 187 35 [some (.inr (.inr 69)), some (.inl a1), some (.inl a2), some (.inl a3), some (.inl q1.1), some (.inl q2.1)] [.inl q3.1] q3.2 _ _
    by_cases hc : q3.1 = 0
    · rw [if_pos hc] at h
      refine es (71, [some (.inr (.inr 69)), some (.inl a1), some (.inl a2), some (.inl a3), some (.inl q1.1), some (.inl q2.1)], [], q3.2) (congrArg some (if_pos hc)) ?_
      refine ev_runs 2 (71, [some (.inr (.inr 69)), some (.inl a1), some (.inl a2), some (.inl a3), some (.inl q1.1), some (.inl q2.1)], [], q3.2) (76, [some (.inr (.inr 69)), some (.inl a1), some (.inl a2), some (.inl a3), some (.inl q1.1), some (.inl q2.1)], [.inl 1], q3.2) rfl ?_
      cases h
      exact er rfl
    · rw [if_neg hc] at h
      refine es (38, [some (.inr (.inr 69)), some (.inl a1), some (.inl a2), some (.inl a3), some (.inl q1.1), some (.inl q2.1)], [], q3.2) (congrArg some (if_neg hc)) ?_
      refine ev_runs 5 (38, [some (.inr (.inr 69)), some (.inl a1), some (.inl a2), some (.inl a3), some (.inl q1.1), some (.inl q2.1)], [], q3.2) (45, [some (.inr (.inr 69)), some (.inl a1), some (.inl a2), some (.inl a3), some (.inl q1.1), some (.inl q2.1)], [.inl a3, .inl a2, .inl q2.1, .inl q1.1, .inr (.inr 69)], q3.2) rfl ?_
      obtain ⟨q4, hq, h⟩ := Option.bind_eq_some_iff.mp h
      refine ec 183 48 [.inr (.inr 69), .inl q1.1, .inl q2.1, .inl a2, .inl a3] [] rfl (ev_Pg_looksSayAll q1.1 q2.1 a2 a3 q3.2 q4.1 q4.2 hq) ?_
      show Ev 187 48 [some (.inr (.inr 69)), some (.inl a1), some (.inl a2), some (.inl a3), some (.inl q1.1), some (.inl q2.1)] [.inl q4.1] q4.2 _ _
      by_cases hc : q4.1 = 0
      · rw [if_pos hc] at h
        refine es (71, [some (.inr (.inr 69)), some (.inl a1), some (.inl a2), some (.inl a3), some (.inl q1.1), some (.inl q2.1)], [], q4.2) (congrArg some (if_pos hc)) ?_
        refine ev_runs 2 (71, [some (.inr (.inr 69)), some (.inl a1), some (.inl a2), some (.inl a3), some (.inl q1.1), some (.inl q2.1)], [], q4.2) (76, [some (.inr (.inr 69)), some (.inl a1), some (.inl a2), some (.inl a3), some (.inl q1.1), some (.inl q2.1)], [.inl 1], q4.2) rfl ?_
        cases h
        exact er rfl
      · rw [if_neg hc] at h
        refine es (51, [some (.inr (.inr 69)), some (.inl a1), some (.inl a2), some (.inl a3), some (.inl q1.1), some (.inl q2.1)], [], q4.2) (congrArg some (if_neg hc)) ?_
        refine ev_runs 3 (51, [some (.inr (.inr 69)), some (.inl a1), some (.inl a2), some (.inl a3), some (.inl q1.1), some (.inl q2.1)], [], q4.2) (55, [some (.inr (.inr 69)), some (.inl a1), some (.inl a2), some (.inl a3), some (.inl q1.1), some (.inl q2.1)], [.inl a2, .inl q2.1, .inr (.inr 69)], q4.2) rfl ?_
        obtain ⟨q5, hq, h⟩ := Option.bind_eq_some_iff.mp h
        refine ec 185 58 [.inr (.inr 69), .inl q2.1, .inl a2] [] rfl (ev_Pg_looksOnlySay q2.1 a2 q4.2 q5.1 q5.2 hq) ?_
        show Ev 187 58 [some (.inr (.inr 69)), some (.inl a1), some (.inl a2), some (.inl a3), some (.inl q1.1), some (.inl q2.1)] [.inl q5.1] q5.2 _ _
        by_cases hc : q5.1 = 0
        · rw [if_pos hc] at h
          refine es (75, [some (.inr (.inr 69)), some (.inl a1), some (.inl a2), some (.inl a3), some (.inl q1.1), some (.inl q2.1)], [], q5.2) (congrArg some (if_pos hc)) ?_
          refine ev_runs 1 (75, [some (.inr (.inr 69)), some (.inl a1), some (.inl a2), some (.inl a3), some (.inl q1.1), some (.inl q2.1)], [], q5.2) (76, [some (.inr (.inr 69)), some (.inl a1), some (.inl a2), some (.inl a3), some (.inl q1.1), some (.inl q2.1)], [.inl 0], q5.2) rfl ?_
          cases h
          exact er rfl
        · rw [if_neg hc] at h
          refine es (61, [some (.inr (.inr 69)), some (.inl a1), some (.inl a2), some (.inl a3), some (.inl q1.1), some (.inl q2.1)], [], q5.2) (congrArg some (if_neg hc)) ?_
          refine ev_runs 3 (61, [some (.inr (.inr 69)), some (.inl a1), some (.inl a2), some (.inl a3), some (.inl q1.1), some (.inl q2.1)], [], q5.2) (65, [some (.inr (.inr 69)), some (.inl a1), some (.inl a2), some (.inl a3), some (.inl q1.1), some (.inl q2.1)], [.inl a2, .inl q1.1, .inr (.inr 69)], q5.2) rfl ?_
          obtain ⟨q6, hq, h⟩ := Option.bind_eq_some_iff.mp h
          refine ec 186 68 [.inr (.inr 69), .inl q1.1, .inl a2] [] rfl (ev_Pg_rowsSay q1.1 a2 q5.2 q6.1 q6.2 hq) ?_
          show Ev 187 68 [some (.inr (.inr 69)), some (.inl a1), some (.inl a2), some (.inl a3), some (.inl q1.1), some (.inl q2.1)] [.inl q6.1] q6.2 _ _
          by_cases hc : ¬ q6.1 = 0
          · rw [if_pos hc] at h
            refine es (75, [some (.inr (.inr 69)), some (.inl a1), some (.inl a2), some (.inl a3), some (.inl q1.1), some (.inl q2.1)], [], q6.2) (congrArg some (if_pos hc)) ?_
            refine ev_runs 1 (75, [some (.inr (.inr 69)), some (.inl a1), some (.inl a2), some (.inl a3), some (.inl q1.1), some (.inl q2.1)], [], q6.2) (76, [some (.inr (.inr 69)), some (.inl a1), some (.inl a2), some (.inl a3), some (.inl q1.1), some (.inl q2.1)], [.inl 0], q6.2) rfl ?_
            cases h
            exact er rfl
          · rw [if_neg hc] at h
            refine es (71, [some (.inr (.inr 69)), some (.inl a1), some (.inl a2), some (.inl a3), some (.inl q1.1), some (.inl q2.1)], [], q6.2) (congrArg some (if_neg hc)) ?_
            refine ev_runs 2 (71, [some (.inr (.inr 69)), some (.inl a1), some (.inl a2), some (.inl a3), some (.inl q1.1), some (.inl q2.1)], [], q6.2) (76, [some (.inr (.inr 69)), some (.inl a1), some (.inl a2), some (.inl a3), some (.inl q1.1), some (.inl q2.1)], [.inl 1], q6.2) rfl ?_
            cases h
            exact er rfl
  · rw [if_neg hc] at h
    refine es (23, [some (.inr (.inr 69)), some (.inl a1), some (.inl a2), some (.inl a3), some (.inl q1.1), some (.inl q2.1)], [], q2.2) (congrArg some (if_neg hc)) ?_
    refine ev_runs 1 (23, [some (.inr (.inr 69)), some (.inl a1), some (.inl a2), some (.inl a3), some (.inl q1.1), some (.inl q2.1)], [], q2.2) (24, [some (.inr (.inr 69)), some (.inl a1), some (.inl a2), some (.inl a3), some (.inl q1.1), some (.inl q2.1)], [.inl 0], q2.2) rfl ?_
    cases h
    exact er rfl
set_option maxRecDepth 100000 in
set_option maxHeartbeats 4000000 in
theorem ev_Pg_firstBreach_l18 (c1 : Int) (c2 : Int) (K18_53 : Gx → Option (Int × Gx)) (hK18_53 : ∀ (g : Gx) (r : Int) (g' : Gx), K18_53 g = some (r, g') → Ev 188 53 [some (.inr (.inr 69)), some (.inl c1), some (.inl c2), none] [] g (some (.inl r)) g') : ∀ (n18 : Nat) (v3 : Int) (g : Gx) (r : Int) (g' : Gx), Pg_firstBreach_l18 c1 c2 K18_53 n18 v3 g = some (r, g') → Ev 188 18 [some (.inr (.inr 69)), some (.inl c1), some (.inl c2), some (.inl v3)] [] g (some (.inl r)) g' := by
  intro n18
  induction n18 with
  | zero => intro v3 g r g' h; cases h
  | succ n18 ih18 =>
    intro v3 g r g' h
    rw [Pg_firstBreach_l18] at h
    refine ev_runs 3 (18, [some (.inr (.inr 69)), some (.inl c1), some (.inl c2), some (.inl v3)], [], g) (23, [some (.inr (.inr 69)), some (.inl c1), some (.inl c2), some (.inl v3)], [.inl (g 69 7), .inl v3], g) rfl ?_
    by_cases hc : (g 69 7) ≤ v3
    · rw [if_pos hc] at h
      refine es (53, [some (.inr (.inr 69)), some (.inl c1), some (.inl c2), some (.inl v3)], [], g) (congrArg some (if_pos hc)) ?_
      exact ev_le (L := [some (.inr (.inr 69)), some (.inl c1), some (.inl c2), none]) (by simp [Lle]) (hK18_53 g r g' h)
    · rw [if_neg hc] at h
      refine es (26, [some (.inr (.inr 69)), some (.inl c1), some (.inl c2), some (.inl v3)], [], g) (congrArg some (if_neg hc)) ?_
      refine ev_runs 2 (26, [some (.inr (.inr 69)), some (.inl c1), some (.inl c2), some (.inl v3)], [], g) (28, [some (.inr (.inr 69)), some (.inl c1), some (.inl c2), some (.inl v3)], [.inl v3, .inr (.inr 69)], g) rfl ?_
      refine ec 175 31 [.inr (.inr 69), .inl v3] [] rfl (ev_Pg_length v3 g _ rfl) ?_
      show Ev 188 31 [some (.inr (.inr 69)), some (.inl c1), some (.inl c2), some (.inl v3)] [.inl (Pg_length v3 g)] g _ _
      refine ev_runs 1 (31, [some (.inr (.inr 69)), some (.inl c1), some (.inl c2), some (.inl v3)], [.inl (Pg_length v3 g)], g) (32, [some (.inr (.inr 69)), some (.inl c1), some (.inl c2), some (.inl v3)], [.inl c2, .inl (Pg_length v3 g)], g) rfl ?_
      by_cases hc : (Pg_length v3 g) < c2
      · rw [if_pos hc] at h
        refine es (47, [some (.inr (.inr 69)), some (.inl c1), some (.inl c2), some (.inl v3)], [], g) (congrArg some (if_pos hc)) ?_
        refine ev_runs 2 (47, [some (.inr (.inr 69)), some (.inl c1), some (.inl c2), some (.inl v3)], [], g) (18, [some (.inr (.inr 69)), some (.inl c1), some (.inl c2), some (.inl (wr (v3 + 1)))], [], g) rfl ?_
        exact ev_le (L := [some (.inr (.inr 69)), some (.inl c1), some (.inl c2), some (.inl (wr (v3 + 1)))]) (by simp [Lle]) (ih18 (wr (v3 + 1)) g r g' h)
      · rw [if_neg hc] at h
        refine es (35, [some (.inr (.inr 69)), some (.inl c1), some (.inl c2), some (.inl v3)], [], g) (congrArg some (if_neg hc)) ?_
        refine ev_runs 4 (35, [some (.inr (.inr 69)), some (.inl c1), some (.inl c2), some (.inl v3)], [], g) (39, [some (.inr (.inr 69)), some (.inl c1), some (.inl c2), some (.inl v3)], [.inl c1, .inl c2, .inl v3, .inr (.inr 69)], g) rfl ?_
        obtain ⟨q2, hq, h⟩ := Option.bind_eq_some_iff.mp h
        refine ec 187 42 [.inr (.inr 69), .inl v3, .inl c2, .inl c1] [] rfl (ev_Pg_isBreach v3 c2 c1 g q2.1 q2.2 hq) ?_
        show Ev 188 42 [some (.inr (.inr 69)), some (.inl c1), some (.inl c2), some (.inl v3)] [.inl q2.1] q2.2 _ _
        by_cases hc : q2.1 = 0
        · rw [if_pos hc] at h
          refine es (47, [some (.inr (.inr 69)), some (.inl c1), some (.inl c2), some (.inl v3)], [], q2.2) (congrArg some (if_pos hc)) ?_
          refine ev_runs 2 (47, [some (.inr (.inr 69)), some (.inl c1), some (.inl c2), some (.inl v3)], [], q2.2) (18, [some (.inr (.inr 69)), some (.inl c1), some (.inl c2), some (.inl (wr (v3 + 1)))], [], q2.2) rfl ?_
          exact ev_le (L := [some (.inr (.inr 69)), some (.inl c1), some (.inl c2), some (.inl (wr (v3 + 1)))]) (by simp [Lle]) (ih18 (wr (v3 + 1)) q2.2 r g' h)
        · rw [if_neg hc] at h
          refine es (45, [some (.inr (.inr 69)), some (.inl c1), some (.inl c2), some (.inl v3)], [], q2.2) (congrArg some (if_neg hc)) ?_
          refine ev_runs 1 (45, [some (.inr (.inr 69)), some (.inl c1), some (.inl c2), some (.inl v3)], [], q2.2) (46, [some (.inr (.inr 69)), some (.inl c1), some (.inl c2), some (.inl v3)], [.inl c2], q2.2) rfl ?_
          cases h
          exact er rfl
set_option maxRecDepth 100000 in
set_option maxHeartbeats 4000000 in
theorem ev_Pg_firstBreach_l10 (c1 : Int) (K10_59 : Gx → Option (Int × Gx)) (hK10_59 : ∀ (g : Gx) (r : Int) (g' : Gx), K10_59 g = some (r, g') → Ev 188 59 [none, none, none, none] [] g (some (.inl r)) g') : ∀ (n10 : Nat) (v2 : Int) (g : Gx) (r : Int) (g' : Gx), Pg_firstBreach_l10 c1 K10_59 n10 v2 g = some (r, g') → Ev 188 10 [some (.inr (.inr 69)), some (.inl c1), some (.inl v2), none] [] g (some (.inl r)) g' := by
  intro n10
  induction n10 with
  | zero => intro v2 g r g' h; cases h
  | succ n10 ih10 =>
    intro v2 g r g' h
    rw [Pg_firstBreach_l10] at h
    refine ev_runs 2 (10, [some (.inr (.inr 69)), some (.inl c1), some (.inl v2), none], [], g) (13, [some (.inr (.inr 69)), some (.inl c1), some (.inl v2), none], [.inl 24, .inl v2], g) rfl ?_
    by_cases hc : 24 < v2
    · rw [if_pos hc] at h
      refine es (59, [some (.inr (.inr 69)), some (.inl c1), some (.inl v2), none], [], g) (congrArg some (if_pos hc)) ?_
      exact ev_le (L := [none, none, none, none]) (by simp [Lle]) (hK10_59 g r g' h)
    · rw [if_neg hc] at h
      refine es (16, [some (.inr (.inr 69)), some (.inl c1), some (.inl v2), none], [], g) (congrArg some (if_neg hc)) ?_
      refine ev_runs 2 (16, [some (.inr (.inr 69)), some (.inl c1), some (.inl v2), none], [], g) (18, [some (.inr (.inr 69)), some (.inl c1), some (.inl v2), some (.inl 0)], [], g) rfl ?_
      refine ev_le (L := [some (.inr (.inr 69)), some (.inl c1), some (.inl v2), some (.inl 0)]) (by simp [Lle]) ?_
      refine ev_Pg_firstBreach_l18 c1 v2 _ ?_ fu 0 g r g' h
      · intro g3 r g' h
        refine ev_runs 2 (53, [some (.inr (.inr 69)), some (.inl c1), some (.inl v2), none], [], g3) (10, [some (.inr (.inr 69)), some (.inl c1), some (.inl (wr (v2 + 1))), none], [], g3) rfl ?_
        exact ev_le (L := [some (.inr (.inr 69)), some (.inl c1), some (.inl (wr (v2 + 1))), none]) (by simp [Lle]) (ih10 (wr (v2 + 1)) g3 r g' h)
set_option maxRecDepth 100000 in
set_option maxHeartbeats 4000000 in
theorem ev_Pg_firstBreach (a1 : Int) (g : Gx) (r : Int) (g' : Gx) (h : Pg_firstBreach a1 g = some (r, g')) : Ev 188 0 [some (.inr (.inr 69)), some (.inl a1), none, none] [] g (some (.inl r)) g' := by
  rw [Pg_firstBreach] at h
  refine ev_runs 3 (0, [some (.inr (.inr 69)), some (.inl a1), none, none], [], g) (5, [some (.inr (.inr 69)), some (.inl a1), none, none], [.inl a1, .inr (.inr 50)], g) rfl ?_
  obtain ⟨g1, hq, h⟩ := Option.bind_eq_some_iff.mp h
  refine ec 94 8 [.inr (.inr 50), .inl a1] [] rfl (ev_Lk_load a1 g g1 hq) ?_
  show Ev 188 8 [some (.inr (.inr 69)), some (.inl a1), none, none] [] g1 _ _
  refine ev_runs 2 (8, [some (.inr (.inr 69)), some (.inl a1), none, none], [], g1) (10, [some (.inr (.inr 69)), some (.inl a1), some (.inl 0), none], [], g1) rfl ?_
  refine ev_le (L := [some (.inr (.inr 69)), some (.inl a1), some (.inl 0), none]) (by simp [Lle]) ?_
  refine ev_Pg_firstBreach_l10 a1 _ ?_ fu 0 g1 r g' h
  · intro g4 r g' h
    refine ev_runs 1 (59, [none, none, none, none], [], g4) (60, [none, none, none, none], [.inl (-1)], g4) rfl ?_
    cases h
    exact er rfl
set_option maxRecDepth 100000 in
set_option maxHeartbeats 4000000 in
theorem ev_Op_fits (a1 : Int) (g : Gx) (r : Int) (g' : Gx) (h : Op_fits a1 g = some (r, g')) : Ev 189 0 [some (.inr (.inr 0)), some (.inl a1), none] [] g (some (.inl r)) g' := by
  rw [Op_fits] at h
  refine ev_runs 1 (0, [some (.inr (.inr 0)), some (.inl a1), none], [], g) (1, [some (.inr (.inr 0)), some (.inl a1), none], [.inl a1], g) rfl ?_
  refine ec 91 4 [.inl a1] [] rfl (ev_Op_isTalker a1 g _ rfl) ?_
  show Ev 189 4 [some (.inr (.inr 0)), some (.inl a1), none] [.inl (Op_isTalker a1)] g _ _
  by_cases hc : ¬ (Op_isTalker a1) = 0
  · rw [if_pos hc] at h
    refine es (10, [some (.inr (.inr 0)), some (.inl a1), none], [], g) (congrArg some (if_pos hc)) ?_
    refine ev_runs 2 (10, [some (.inr (.inr 0)), some (.inl a1), none], [], g) (14, [some (.inr (.inr 0)), some (.inl a1), none], [.inr (.inr 69)], g) rfl ?_
    obtain ⟨q1, hq, h⟩ := Option.bind_eq_some_iff.mp h
    refine ec 34 17 [.inr (.inr 69)] [] rfl (ev_Pg_firstFault g q1.1 q1.2 hq) ?_
    show Ev 189 17 [some (.inr (.inr 0)), some (.inl a1), none] [.inl q1.1] q1.2 _ _
    refine ev_runs 1 (17, [some (.inr (.inr 0)), some (.inl a1), none], [.inl q1.1], q1.2) (18, [some (.inr (.inr 0)), some (.inl a1), none], [.inl (-1), .inl q1.1], q1.2) rfl ?_
    by_cases hc : q1.1 = (-1)
    · rw [if_pos hc] at h
      refine es (26, [some (.inr (.inr 0)), some (.inl a1), none], [], q1.2) (congrArg some (if_pos hc)) ?_
      refine ev_runs 2 (26, [some (.inr (.inr 0)), some (.inl a1), none], [], q1.2) (28, [some (.inr (.inr 0)), some (.inl a1), none], [.inl 0, .inr (.inr 0)], q1.2) rfl ?_
      obtain ⟨q2, hq, h⟩ := Option.bind_eq_some_iff.mp h
      refine ec 75 31 [.inr (.inr 0), .inl 0] [] rfl (ev_Op_hindrance 0 q1.2 q2.1 q2.2 hq) ?_
      show Ev 189 31 [some (.inr (.inr 0)), some (.inl a1), none] [.inl q2.1] q2.2 _ _
      refine ev_runs 2 (31, [some (.inr (.inr 0)), some (.inl a1), none], [.inl q2.1], q2.2) (33, [some (.inr (.inr 0)), some (.inl a1), some (.inl q2.1)], [.inl q2.1], q2.2) rfl ?_
      by_cases hc : q2.1 = 0
      · rw [if_pos hc] at h
        refine es (38, [some (.inr (.inr 0)), some (.inl a1), some (.inl q2.1)], [], q2.2) (congrArg some (if_pos hc)) ?_
        refine ev_runs 3 (38, [some (.inr (.inr 0)), some (.inl a1), some (.inl q2.1)], [], q2.2) (43, [some (.inr (.inr 0)), some (.inl a1), some (.inl q2.1)], [.inl a1, .inr (.inr 69)], q2.2) rfl ?_
        obtain ⟨q3, hq, h⟩ := Option.bind_eq_some_iff.mp h
        refine ec 188 46 [.inr (.inr 69), .inl a1] [] rfl (ev_Pg_firstBreach a1 q2.2 q3.1 q3.2 hq) ?_
        show Ev 189 46 [some (.inr (.inr 0)), some (.inl a1), some (.inl q2.1)] [.inl q3.1] q3.2 _ _
        refine ev_runs 1 (46, [some (.inr (.inr 0)), some (.inl a1), some (.inl q2.1)], [.inl q3.1], q3.2) (47, [some (.inr (.inr 0)), some (.inl a1), some (.inl q2.1)], [.inl (-1), .inl q3.1], q3.2) rfl ?_
        by_cases hc : ¬ q3.1 = (-1)
        · rw [if_pos hc] at h
          refine es (54, [some (.inr (.inr 0)), some (.inl a1), some (.inl q2.1)], [], q3.2) (congrArg some (if_pos hc)) ?_
          refine ev_runs 1 (54, [some (.inr (.inr 0)), some (.inl a1), some (.inl q2.1)], [], q3.2) (55, [some (.inr (.inr 0)), some (.inl a1), some (.inl q2.1)], [.inl 0], q3.2) rfl ?_
          cases h
          exact er rfl
        · rw [if_neg hc] at h
          refine es (50, [some (.inr (.inr 0)), some (.inl a1), some (.inl q2.1)], [], q3.2) (congrArg some (if_neg hc)) ?_
          refine ev_runs 2 (50, [some (.inr (.inr 0)), some (.inl a1), some (.inl q2.1)], [], q3.2) (55, [some (.inr (.inr 0)), some (.inl a1), some (.inl q2.1)], [.inl 1], q3.2) rfl ?_
          cases h
          exact er rfl
      · rw [if_neg hc] at h
        refine es (36, [some (.inr (.inr 0)), some (.inl a1), some (.inl q2.1)], [], q2.2) (congrArg some (if_neg hc)) ?_
        refine ev_runs 1 (36, [some (.inr (.inr 0)), some (.inl a1), some (.inl q2.1)], [], q2.2) (37, [some (.inr (.inr 0)), some (.inl a1), some (.inl q2.1)], [.inl q2.1], q2.2) rfl ?_
        cases h
        exact er rfl
    · rw [if_neg hc] at h
      refine es (21, [some (.inr (.inr 0)), some (.inl a1), none], [], q1.2) (congrArg some (if_neg hc)) ?_
      refine ev_runs 6 (21, [some (.inr (.inr 0)), some (.inl a1), none], [], q1.2) (37, [some (.inr (.inr 0)), some (.inl a1), some (.inl (-3))], [.inl (-3)], q1.2) rfl ?_
      cases h
      exact er rfl
  · rw [if_neg hc] at h
    refine es (7, [some (.inr (.inr 0)), some (.inl a1), none], [], g) (congrArg some (if_neg hc)) ?_
    refine ev_runs 1 (7, [some (.inr (.inr 0)), some (.inl a1), none], [], g) (9, [some (.inr (.inr 0)), some (.inl a1), none], [.inl (-2)], g) rfl ?_
    cases h
    exact er rfl
set_option maxRecDepth 100000 in
set_option maxHeartbeats 4000000 in
theorem ev_Md_lacksEither (g : Gx) (r : Int) (g' : Gx) (h : Md_lacksEither g = some (r, g')) : Ev 190 0 [some (.inr (.inr 92)), none] [] g (some (.inl r)) g' := by
  rw [Md_lacksEither] at h
  refine ev_runs 1 (0, [some (.inr (.inr 92)), none], [], g) (1, [some (.inr (.inr 92)), none], [.inr (.inr 92)], g) rfl ?_
  obtain ⟨q1, hq, h⟩ := Option.bind_eq_some_iff.mp h
  refine ec 44 4 [.inr (.inr 92)] [] rfl (ev_Md_readsProgram g q1.1 q1.2 hq) ?_
  show Ev 190 4 [some (.inr (.inr 92)), none] [.inl q1.1] q1.2 _ _
  refine ev_runs 1 (4, [some (.inr (.inr 92)), none], [.inl q1.1], q1.2) (5, [some (.inr (.inr 92)), none], [.inl (-1), .inl q1.1], q1.2) rfl ?_
  by_cases hc : ¬ q1.1 = (-1)
  · rw [if_pos hc] at h
    refine es (12, [some (.inr (.inr 92)), none], [], q1.2) (congrArg some (if_pos hc)) ?_
    refine ev_runs 6 (12, [some (.inr (.inr 92)), none], [], q1.2) (27, [some (.inr (.inr 92)), some (.inl (-3))], [.inl (-3)], q1.2) rfl ?_
    cases h
    exact er rfl
  · rw [if_neg hc] at h
    refine es (8, [some (.inr (.inr 92)), none], [], q1.2) (congrArg some (if_neg hc)) ?_
    refine ev_runs 6 (8, [some (.inr (.inr 92)), none], [], q1.2) (24, [some (.inr (.inr 92)), some (.inl 0)], [.inr (.inr 92)], q1.2) rfl ?_
    obtain ⟨q2, hq, h⟩ := Option.bind_eq_some_iff.mp h
    refine ec 81 27 [.inr (.inr 92)] [] rfl (ev_Md_without q1.2 q2.1 q2.2 hq) ?_
    show Ev 190 27 [some (.inr (.inr 92)), some (.inl 0)] [.inl q2.1] q2.2 _ _
    cases h
    exact er rfl
set_option maxRecDepth 100000 in
set_option maxHeartbeats 4000000 in
theorem ev_Md_rowAt (a1 a2 a3 : Int) (g : Gx) (r : Int) (g' : Gx) (h : Md_rowAt a1 a2 a3 g = some (r, g')) : Ev 191 0 [some (.inr (.inr 92)), some (.inl a1), some (.inl a2), some (.inl a3), none] [] g (some (.inl r)) g' := by
  rw [Md_rowAt] at h
  refine ev_runs 4 (0, [some (.inr (.inr 92)), some (.inl a1), some (.inl a2), some (.inl a3), none], [], g) (6, [some (.inr (.inr 92)), some (.inl a1), some (.inl a2), some (.inl a3), none], [.inl a2, .inr (.inr 106), .inl a3], g) rfl ?_
  by_cases hc : 0 ≤ a2 ∧ a2 < 8
  · rw [if_pos hc] at h
    refine es (7, [some (.inr (.inr 92)), some (.inl a1), some (.inl a2), some (.inl a3), none], [.inl (g 106 a2.toNat), .inl a3], g) (if_pos hc) ?_
    by_cases hc : a3 < (g 106 a2.toNat)
    · rw [if_pos hc] at h
      refine es (12, [some (.inr (.inr 92)), some (.inl a1), some (.inl a2), some (.inl a3), none], [], g) (congrArg some (if_pos hc)) ?_
      refine ev_runs 9 (12, [some (.inr (.inr 92)), some (.inl a1), some (.inl a2), some (.inl a3), none], [], g) (26, [some (.inr (.inr 92)), some (.inl a1), some (.inl a2), some (.inl a3), some (.inl (wr ((wr (30 * a2)) + a3)))], [.inl (wr ((wr (30 * a2)) + a3)), .inr (.inr 107)], g) rfl ?_
      by_cases hc : 0 ≤ (wr ((wr (30 * a2)) + a3)) ∧ (wr ((wr (30 * a2)) + a3)) < 240
      · rw [if_pos hc] at h
        refine es (27, [some (.inr (.inr 92)), some (.inl a1), some (.inl a2), some (.inl a3), some (.inl (wr ((wr (30 * a2)) + a3)))], [.inl (g 107 (wr ((wr (30 * a2)) + a3)).toNat)], g) (if_pos hc) ?_
        refine ev_runs 1 (27, [some (.inr (.inr 92)), some (.inl a1), some (.inl a2), some (.inl a3), some (.inl (wr ((wr (30 * a2)) + a3)))], [.inl (g 107 (wr ((wr (30 * a2)) + a3)).toNat)], g) (29, [some (.inr (.inr 92)), some (.inl a1), some (.inl a2), some (.inl a3), some (.inl (wr ((wr (30 * a2)) + a3)))], [.inl 33, .inl (g 107 (wr ((wr (30 * a2)) + a3)).toNat)], g) rfl ?_
        by_cases hc : ¬ (g 107 (wr ((wr (30 * a2)) + a3)).toNat) = 33
        · rw [if_pos hc] at h
          refine es (63, [some (.inr (.inr 92)), some (.inl a1), some (.inl a2), some (.inl a3), some (.inl (wr ((wr (30 * a2)) + a3)))], [], g) (congrArg some (if_pos hc)) ?_
          refine ev_runs 5 (63, [some (.inr (.inr 92)), some (.inl a1), some (.inl a2), some (.inl a3), some (.inl (wr ((wr (30 * a2)) + a3)))], [], g) (75, [some (.inr (.inr 92)), some (.inl a1), some (.inl a2), some (.inl a3), some (.inl (wr ((wr (30 * a2)) + a3)))], [.inl (wr ((wr (30 * a2)) + a3)), .inr (.inr 108), .inl 1000, .inl 20000], g) rfl ?_
          by_cases hc : 0 ≤ (wr ((wr (30 * a2)) + a3)) ∧ (wr ((wr (30 * a2)) + a3)) < 240
          · rw [if_pos hc] at h
            refine es (76, [some (.inr (.inr 92)), some (.inl a1), some (.inl a2), some (.inl a3), some (.inl (wr ((wr (30 * a2)) + a3)))], [.inl (g 108 (wr ((wr (30 * a2)) + a3)).toNat), .inl 1000, .inl 20000], g) (if_pos hc) ?_
            refine ev_runs 9 (76, [some (.inr (.inr 92)), some (.inl a1), some (.inl a2), some (.inl a3), some (.inl (wr ((wr (30 * a2)) + a3)))], [.inl (g 108 (wr ((wr (30 * a2)) + a3)).toNat), .inl 1000, .inl 20000], g) (89, [some (.inr (.inr 92)), some (.inl a1), some (.inl a2), some (.inl a3), some (.inl (wr ((wr (30 * a2)) + a3)))], [.inl (wr ((wr (30 * a2)) + a3)), .inr (.inr 109), .inl (wr ((wr (20000 + (wr (1000 * (g 108 (wr ((wr (30 * a2)) + a3)).toNat))))) + (wr (100 * a1))))], g) rfl ?_
            by_cases hc : 0 ≤ (wr ((wr (30 * a2)) + a3)) ∧ (wr ((wr (30 * a2)) + a3)) < 240
            · rw [if_pos hc] at h
              refine es (90, [some (.inr (.inr 92)), some (.inl a1), some (.inl a2), some (.inl a3), some (.inl (wr ((wr (30 * a2)) + a3)))], [.inl (g 109 (wr ((wr (30 * a2)) + a3)).toNat), .inl (wr ((wr (20000 + (wr (1000 * (g 108 (wr ((wr (30 * a2)) + a3)).toNat))))) + (wr (100 * a1))))], g) (if_pos hc) ?_
              refine ev_runs 1 (90, [some (.inr (.inr 92)), some (.inl a1), some (.inl a2), some (.inl a3), some (.inl (wr ((wr (30 * a2)) + a3)))], [.inl (g 109 (wr ((wr (30 * a2)) + a3)).toNat), .inl (wr ((wr (20000 + (wr (1000 * (g 108 (wr ((wr (30 * a2)) + a3)).toNat))))) + (wr (100 * a1))))], g) (91, [some (.inr (.inr 92)), some (.inl a1), some (.inl a2), some (.inl a3), some (.inl (wr ((wr (30 * a2)) + a3)))], [.inl (wr ((wr ((wr (20000 + (wr (1000 * (g 108 (wr ((wr (30 * a2)) + a3)).toNat))))) + (wr (100 * a1)))) + (g 109 (wr ((wr (30 * a2)) + a3)).toNat)))], g) rfl ?_
              cases h
              exact er rfl
            · rw [if_neg hc] at h; cases h
          · rw [if_neg hc] at h; cases h
        · rw [if_neg hc] at h
          refine es (32, [some (.inr (.inr 92)), some (.inl a1), some (.inl a2), some (.inl a3), some (.inl (wr ((wr (30 * a2)) + a3)))], [], g) (congrArg some (if_neg hc)) ?_
          refine ev_runs 9 (32, [some (.inr (.inr 92)), some (.inl a1), some (.inl a2), some (.inl a3), some (.inl (wr ((wr (30 * a2)) + a3)))], [], g) (49, [some (.inr (.inr 92)), some (.inl a1), some (.inl a2), some (.inl a3), some (.inl (wr ((wr (30 * a2)) + a3)))], [.inl (wr ((wr (30 * a2)) + a3)), .inr (.inr 108), .inl 100, .inl (wr (10000 + (wr (1000 * a1))))], g) rfl ?_
          by_cases hc : 0 ≤ (wr ((wr (30 * a2)) + a3)) ∧ (wr ((wr (30 * a2)) + a3)) < 240
          · rw [if_pos hc] at h
            refine es (50, [some (.inr (.inr 92)), some (.inl a1), some (.inl a2), some (.inl a3), some (.inl (wr ((wr (30 * a2)) + a3)))], [.inl (g 108 (wr ((wr (30 * a2)) + a3)).toNat), .inl 100, .inl (wr (10000 + (wr (1000 * a1))))], g) (if_pos hc) ?_
            refine ev_runs 5 (50, [some (.inr (.inr 92)), some (.inl a1), some (.inl a2), some (.inl a3), some (.inl (wr ((wr (30 * a2)) + a3)))], [.inl (g 108 (wr ((wr (30 * a2)) + a3)).toNat), .inl 100, .inl (wr (10000 + (wr (1000 * a1))))], g) (58, [some (.inr (.inr 92)), some (.inl a1), some (.inl a2), some (.inl a3), some (.inl (wr ((wr (30 * a2)) + a3)))], [.inl (wr ((wr (30 * a2)) + a3)), .inr (.inr 109), .inl (wr ((wr (10000 + (wr (1000 * a1)))) + (wr (100 * (g 108 (wr ((wr (30 * a2)) + a3)).toNat)))))], g) rfl ?_
            by_cases hc : 0 ≤ (wr ((wr (30 * a2)) + a3)) ∧ (wr ((wr (30 * a2)) + a3)) < 240
            · rw [if_pos hc] at h
              refine es (59, [some (.inr (.inr 92)), some (.inl a1), some (.inl a2), some (.inl a3), some (.inl (wr ((wr (30 * a2)) + a3)))], [.inl (g 109 (wr ((wr (30 * a2)) + a3)).toNat), .inl (wr ((wr (10000 + (wr (1000 * a1)))) + (wr (100 * (g 108 (wr ((wr (30 * a2)) + a3)).toNat)))))], g) (if_pos hc) ?_
              refine ev_runs 2 (59, [some (.inr (.inr 92)), some (.inl a1), some (.inl a2), some (.inl a3), some (.inl (wr ((wr (30 * a2)) + a3)))], [.inl (g 109 (wr ((wr (30 * a2)) + a3)).toNat), .inl (wr ((wr (10000 + (wr (1000 * a1)))) + (wr (100 * (g 108 (wr ((wr (30 * a2)) + a3)).toNat)))))], g) (91, [some (.inr (.inr 92)), some (.inl a1), some (.inl a2), some (.inl a3), some (.inl (wr ((wr (30 * a2)) + a3)))], [.inl (wr ((wr ((wr (10000 + (wr (1000 * a1)))) + (wr (100 * (g 108 (wr ((wr (30 * a2)) + a3)).toNat))))) + (g 109 (wr ((wr (30 * a2)) + a3)).toNat)))], g) rfl ?_
              cases h
              exact er rfl
            · rw [if_neg hc] at h; cases h
          · rw [if_neg hc] at h; cases h
      · rw [if_neg hc] at h; cases h
    · rw [if_neg hc] at h
      refine es (10, [some (.inr (.inr 92)), some (.inl a1), some (.inl a2), some (.inl a3), none], [], g) (congrArg some (if_neg hc)) ?_
      refine ev_runs 1 (10, [some (.inr (.inr 92)), some (.inl a1), some (.inl a2), some (.inl a3), none], [], g) (11, [some (.inr (.inr 92)), some (.inl a1), some (.inl a2), some (.inl a3), none], [.inl (-1)], g) rfl ?_
      cases h
      exact er rfl
  · rw [if_neg hc] at h; cases h
set_option maxRecDepth 100000 in
set_option maxHeartbeats 4000000 in
theorem ev_Md_alike_l37 (c1 : Int) (c2 : Int) (c3 : Int) (c4 : Int) (K37_81 : Int → Gx → Option (Int × Gx)) (hK37_81 : ∀ (x5 : Int) (g : Gx) (r : Int) (g' : Gx), K37_81 x5 g = some (r, g') → Ev 192 81 [none, none, none, none, none, some (.inl x5), none] [] g (some (.inl r)) g') : ∀ (n37 : Nat) (v5 v6 : Int) (g : Gx) (r : Int) (g' : Gx), Md_alike_l37 c1 c2 c3 c4 K37_81 n37 v5 v6 g = some (r, g') → Ev 192 37 [some (.inr (.inr 92)), some (.inl c1), some (.inl c2), some (.inl c3), some (.inl c4), some (.inl v5), some (.inl v6)] [] g (some (.inl r)) g' := by
  intro n37
  induction n37 with
  | zero => intro v5 v6 g r g' h; cases h
  | succ n37 ih37 =>
    intro v5 v6 g r g' h
    rw [Md_alike_l37] at h
    refine ev_runs 2 (37, [some (.inr (.inr 92)), some (.inl c1), some (.inl c2), some (.inl c3), some (.inl c4), some (.inl v5), some (.inl v6)], [], g) (41, [some (.inr (.inr 92)), some (.inl c1), some (.inl c2), some (.inl c3), some (.inl c4), some (.inl v5), some (.inl v6)], [.inl c4, .inl v6], g) rfl ?_
    by_cases hc : c4 ≤ v6
    · rw [if_pos hc] at h
      refine es (81, [some (.inr (.inr 92)), some (.inl c1), some (.inl c2), some (.inl c3), some (.inl c4), some (.inl v5), some (.inl v6)], [], g) (congrArg some (if_pos hc)) ?_
      exact ev_le (L := [none, none, none, none, none, some (.inl v5), none]) (by simp [Lle]) (hK37_81 v5 g r g' h)
    · rw [if_neg hc] at h
      refine es (44, [some (.inr (.inr 92)), some (.inl c1), some (.inl c2), some (.inl c3), some (.inl c4), some (.inl v5), some (.inl v6)], [], g) (congrArg some (if_neg hc)) ?_
      refine ev_runs 1 (44, [some (.inr (.inr 92)), some (.inl c1), some (.inl c2), some (.inl c3), some (.inl c4), some (.inl v5), some (.inl v6)], [], g) (46, [some (.inr (.inr 92)), some (.inl c1), some (.inl c2), some (.inl c3), some (.inl c4), some (.inl v5), some (.inl v6)], [.inl v5], g) rfl ?_
      by_cases hc : v5 = 0
      · rw [if_pos hc] at h
        refine es (81, [some (.inr (.inr 92)), some (.inl c1), some (.inl c2), some (.inl c3), some (.inl c4), some (.inl v5), some (.inl v6)], [], g) (congrArg some (if_pos hc)) ?_
        exact ev_le (L := [none, none, none, none, none, some (.inl v5), none]) (by simp [Lle]) (hK37_81 v5 g r g' h)
      · rw [if_neg hc] at h
        refine es (49, [some (.inr (.inr 92)), some (.inl c1), some (.inl c2), some (.inl c3), some (.inl c4), some (.inl v5), some (.inl v6)], [], g) (congrArg some (if_neg hc)) ?_
        refine ev_runs 4 (49, [some (.inr (.inr 92)), some (.inl c1), some (.inl c2), some (.inl c3), some (.inl c4), some (.inl v5), some (.inl v6)], [], g) (54, [some (.inr (.inr 92)), some (.inl c1), some (.inl c2), some (.inl c3), some (.inl c4), some (.inl v5), some (.inl v6)], [.inl v6, .inl c2, .inl c1, .inr (.inr 92)], g) rfl ?_
        obtain ⟨q1, hq, h⟩ := Option.bind_eq_some_iff.mp h
        refine ec 191 57 [.inr (.inr 92), .inl c1, .inl c2, .inl v6] [] rfl (ev_Md_rowAt c1 c2 v6 g q1.1 q1.2 hq) ?_
        show Ev 192 57 [some (.inr (.inr 92)), some (.inl c1), some (.inl c2), some (.inl c3), some (.inl c4), some (.inl v5), some (.inl v6)] [.inl q1.1] q1.2 _ _
        refine ev_runs 4 (57, [some (.inr (.inr 92)), some (.inl c1), some (.inl c2), some (.inl c3), some (.inl c4), some (.inl v5), some (.inl v6)], [.inl q1.1], q1.2) (62, [some (.inr (.inr 92)), some (.inl c1), some (.inl c2), some (.inl c3), some (.inl c4), some (.inl v5), some (.inl v6)], [.inl v6, .inl c3, .inl c1, .inr (.inr 92), .inl q1.1], q1.2) rfl ?_
        obtain ⟨q2, hq, h⟩ := Option.bind_eq_some_iff.mp h
        refine ec 102 65 [.inr (.inr 92), .inl c1, .inl c3, .inl v6] [.inl q1.1] rfl (ev_Md_lookAt c1 c3 v6 q1.2 q2.1 q2.2 hq) ?_
        show Ev 192 65 [some (.inr (.inr 92)), some (.inl c1), some (.inl c2), some (.inl c3), some (.inl c4), some (.inl v5), some (.inl v6)] [.inl q2.1, .inl q1.1] q2.2 _ _
        by_cases hc : ¬ q1.1 = q2.1
        · rw [if_pos hc] at h
          refine es (72, [some (.inr (.inr 92)), some (.inl c1), some (.inl c2), some (.inl c3), some (.inl c4), some (.inl v5), some (.inl v6)], [], q2.2) (congrArg some (if_pos hc)) ?_
          refine ev_runs 4 (72, [some (.inr (.inr 92)), some (.inl c1), some (.inl c2), some (.inl c3), some (.inl c4), some (.inl v5), some (.inl v6)], [], q2.2) (37, [some (.inr (.inr 92)), some (.inl c1), some (.inl c2), some (.inl c3), some (.inl c4), some (.inl 0), some (.inl (wr (v6 + 1)))], [], q2.2) rfl ?_
          exact ev_le (L := [some (.inr (.inr 92)), some (.inl c1), some (.inl c2), some (.inl c3), some (.inl c4), some (.inl 0), some (.inl (wr (v6 + 1)))]) (by simp [Lle]) (ih37 0 (wr (v6 + 1)) q2.2 r g' h)
        · rw [if_neg hc] at h
          refine es (68, [some (.inr (.inr 92)), some (.inl c1), some (.inl c2), some (.inl c3), some (.inl c4), some (.inl v5), some (.inl v6)], [], q2.2) (congrArg some (if_neg hc)) ?_
          refine ev_runs 5 (68, [some (.inr (.inr 92)), some (.inl c1), some (.inl c2), some (.inl c3), some (.inl c4), some (.inl v5), some (.inl v6)], [], q2.2) (37, [some (.inr (.inr 92)), some (.inl c1), some (.inl c2), some (.inl c3), some (.inl c4), some (.inl 1), some (.inl (wr (v6 + 1)))], [], q2.2) rfl ?_
          exact ev_le (L := [some (.inr (.inr 92)), some (.inl c1), some (.inl c2), some (.inl c3), some (.inl c4), some (.inl 1), some (.inl (wr (v6 + 1)))]) (by simp [Lle]) (ih37 1 (wr (v6 + 1)) q2.2 r g' h)
set_option maxRecDepth 100000 in
set_option maxHeartbeats 4000000 in
theorem ev_Md_alike (a1 a2 a3 a4 : Int) (g : Gx) (r : Int) (g' : Gx) (h : Md_alike a1 a2 a3 a4 g = some (r, g')) : Ev 192 0 [some (.inr (.inr 92)), some (.inl a1), some (.inl a2), some (.inl a3), some (.inl a4), none, none] [] g (some (.inl r)) g' := by
  rw [Md_alike] at h
  refine ev_runs 4 (0, [some (.inr (.inr 92)), some (.inl a1), some (.inl a2), some (.inl a3), some (.inl a4), none, none], [], g) (7, [some (.inr (.inr 92)), some (.inl a1), some (.inl a2), some (.inl a3), some (.inl a4), none, none], [.inl a2, .inr (.inr 106), .inl a4], g) rfl ?_
  by_cases hc : 0 ≤ a2 ∧ a2 < 8
  · rw [if_pos hc] at h
    refine es (8, [some (.inr (.inr 92)), some (.inl a1), some (.inl a2), some (.inl a3), some (.inl a4), none, none], [.inl (g 106 a2.toNat), .inl a4], g) (if_pos hc) ?_
    by_cases hc : (g 106 a2.toNat) < a4
    · rw [if_pos hc] at h
      refine es (31, [some (.inr (.inr 92)), some (.inl a1), some (.inl a2), some (.inl a3), some (.inl a4), none, none], [], g) (congrArg some (if_pos hc)) ?_
      refine ev_runs 4 (31, [some (.inr (.inr 92)), some (.inl a1), some (.inl a2), some (.inl a3), some (.inl a4), none, none], [], g) (37, [some (.inr (.inr 92)), some (.inl a1), some (.inl a2), some (.inl a3), some (.inl a4), some (.inl 0), some (.inl 0)], [], g) rfl ?_
      refine ev_le (L := [some (.inr (.inr 92)), some (.inl a1), some (.inl a2), some (.inl a3), some (.inl a4), some (.inl 0), some (.inl 0)]) (by simp [Lle]) ?_
      refine ev_Md_alike_l37 a1 a2 a3 a4 _ ?_ fu 0 0 g r g' h
      · intro x3 g4 r g' h
        refine ev_runs 1 (81, [none, none, none, none, none, some (.inl x3), none], [], g4) (83, [none, none, none, none, none, some (.inl x3), none], [.inl x3], g4) rfl ?_
        by_cases hc : x3 = 0 ∨ x3 = 1
        · rw [if_pos hc] at h
          cases h
          exact er (if_pos hc)
        · rw [if_neg hc] at h; cases h
    · rw [if_neg hc] at h
      refine es (11, [some (.inr (.inr 92)), some (.inl a1), some (.inl a2), some (.inl a3), some (.inl a4), none, none], [], g) (congrArg some (if_neg hc)) ?_
      refine ev_runs 8 (11, [some (.inr (.inr 92)), some (.inl a1), some (.inl a2), some (.inl a3), some (.inl a4), none, none], [], g) (23, [some (.inr (.inr 92)), some (.inl a1), some (.inl a2), some (.inl a3), some (.inl a4), none, none], [.inl (wr ((wr (6 * a3)) + a1)), .inr (.inr 118), .inl a4], g) rfl ?_
      by_cases hc : 0 ≤ (wr ((wr (6 * a3)) + a1)) ∧ (wr ((wr (6 * a3)) + a1)) < 180
      · rw [if_pos hc] at h
        refine es (24, [some (.inr (.inr 92)), some (.inl a1), some (.inl a2), some (.inl a3), some (.inl a4), none, none], [.inl (g 118 (wr ((wr (6 * a3)) + a1)).toNat), .inl a4], g) (if_pos hc) ?_
        by_cases hc : (g 118 (wr ((wr (6 * a3)) + a1)).toNat) < a4
        · rw [if_pos hc] at h
          refine es (31, [some (.inr (.inr 92)), some (.inl a1), some (.inl a2), some (.inl a3), some (.inl a4), none, none], [], g) (congrArg some (if_pos hc)) ?_
          refine ev_runs 4 (31, [some (.inr (.inr 92)), some (.inl a1), some (.inl a2), some (.inl a3), some (.inl a4), none, none], [], g) (37, [some (.inr (.inr 92)), some (.inl a1), some (.inl a2), some (.inl a3), some (.inl a4), some (.inl 0), some (.inl 0)], [], g) rfl ?_
          refine ev_le (L := [some (.inr (.inr 92)), some (.inl a1), some (.inl a2), some (.inl a3), some (.inl a4), some (.inl 0), some (.inl 0)]) (by simp [Lle]) ?_
          refine ev_Md_alike_l37 a1 a2 a3 a4 _ ?_ fu 0 0 g r g' h
          · intro x5 g6 r g' h
            refine ev_runs 1 (81, [none, none, none, none, none, some (.inl x5), none], [], g6) (83, [none, none, none, none, none, some (.inl x5), none], [.inl x5], g6) rfl ?_
            by_cases hc : x5 = 0 ∨ x5 = 1
            · rw [if_pos hc] at h
              cases h
              exact er (if_pos hc)
            · rw [if_neg hc] at h; cases h
        · rw [if_neg hc] at h
          refine es (27, [some (.inr (.inr 92)), some (.inl a1), some (.inl a2), some (.inl a3), some (.inl a4), none, none], [], g) (congrArg some (if_neg hc)) ?_
          refine ev_runs 5 (27, [some (.inr (.inr 92)), some (.inl a1), some (.inl a2), some (.inl a3), some (.inl a4), none, none], [], g) (37, [some (.inr (.inr 92)), some (.inl a1), some (.inl a2), some (.inl a3), some (.inl a4), some (.inl 1), some (.inl 0)], [], g) rfl ?_
          refine ev_le (L := [some (.inr (.inr 92)), some (.inl a1), some (.inl a2), some (.inl a3), some (.inl a4), some (.inl 1), some (.inl 0)]) (by simp [Lle]) ?_
          refine ev_Md_alike_l37 a1 a2 a3 a4 _ ?_ fu 1 0 g r g' h
          · intro x7 g8 r g' h
            refine ev_runs 1 (81, [none, none, none, none, none, some (.inl x7), none], [], g8) (83, [none, none, none, none, none, some (.inl x7), none], [.inl x7], g8) rfl ?_
            by_cases hc : x7 = 0 ∨ x7 = 1
            · rw [if_pos hc] at h
              cases h
              exact er (if_pos hc)
            · rw [if_neg hc] at h; cases h
      · rw [if_neg hc] at h; cases h
  · rw [if_neg hc] at h; cases h
set_option maxRecDepth 100000 in
set_option maxHeartbeats 4000000 in
theorem ev_Md_rowsCan_l6 (c1 : Int) (c2 : Int) (c3 : Int) (c4 : Int) (K6_58 : Int → Gx → Option (Int × Gx)) (hK6_58 : ∀ (x5 : Int) (g : Gx) (r : Int) (g' : Gx), K6_58 x5 g = some (r, g') → Ev 193 58 [none, none, none, none, none, some (.inl x5), none] [] g (some (.inl r)) g') : ∀ (n6 : Nat) (v5 v6 : Int) (g : Gx) (r : Int) (g' : Gx), Md_rowsCan_l6 c1 c2 c3 c4 K6_58 n6 v5 v6 g = some (r, g') → Ev 193 6 [some (.inr (.inr 92)), some (.inl c1), some (.inl c2), some (.inl c3), some (.inl c4), some (.inl v5), some (.inl v6)] [] g (some (.inl r)) g' := by
  intro n6
  induction n6 with
  | zero => intro v5 v6 g r g' h; cases h
  | succ n6 ih6 =>
    intro v5 v6 g r g' h
    rw [Md_rowsCan_l6] at h
    refine ev_runs 3 (6, [some (.inr (.inr 92)), some (.inl c1), some (.inl c2), some (.inl c3), some (.inl c4), some (.inl v5), some (.inl v6)], [], g) (12, [some (.inr (.inr 92)), some (.inl c1), some (.inl c2), some (.inl c3), some (.inl c4), some (.inl v5), some (.inl v6)], [.inl (g 92 21), .inl v6], g) rfl ?_
    by_cases hc : (g 92 21) ≤ v6
    · rw [if_pos hc] at h
      refine es (58, [some (.inr (.inr 92)), some (.inl c1), some (.inl c2), some (.inl c3), some (.inl c4), some (.inl v5), some (.inl v6)], [], g) (congrArg some (if_pos hc)) ?_
      exact ev_le (L := [none, none, none, none, none, some (.inl v5), none]) (by simp [Lle]) (hK6_58 v5 g r g' h)
    · rw [if_neg hc] at h
      refine es (15, [some (.inr (.inr 92)), some (.inl c1), some (.inl c2), some (.inl c3), some (.inl c4), some (.inl v5), some (.inl v6)], [], g) (congrArg some (if_neg hc)) ?_
      refine ev_runs 1 (15, [some (.inr (.inr 92)), some (.inl c1), some (.inl c2), some (.inl c3), some (.inl c4), some (.inl v5), some (.inl v6)], [], g) (17, [some (.inr (.inr 92)), some (.inl c1), some (.inl c2), some (.inl c3), some (.inl c4), some (.inl v5), some (.inl v6)], [.inl v5], g) rfl ?_
      by_cases hc : ¬ v5 = 0
      · rw [if_pos hc] at h
        refine es (45, [some (.inr (.inr 92)), some (.inl c1), some (.inl c2), some (.inl c3), some (.inl c4), some (.inl v5), some (.inl v6)], [], g) (congrArg some (if_pos hc)) ?_
        refine ev_runs 5 (45, [some (.inr (.inr 92)), some (.inl c1), some (.inl c2), some (.inl c3), some (.inl c4), some (.inl v5), some (.inl v6)], [], g) (6, [some (.inr (.inr 92)), some (.inl c1), some (.inl c2), some (.inl c3), some (.inl c4), some (.inl 1), some (.inl (wr (v6 + 1)))], [], g) rfl ?_
        exact ev_le (L := [some (.inr (.inr 92)), some (.inl c1), some (.inl c2), some (.inl c3), some (.inl c4), some (.inl 1), some (.inl (wr (v6 + 1)))]) (by simp [Lle]) (ih6 1 (wr (v6 + 1)) g r g' h)
      · rw [if_neg hc] at h
        refine es (20, [some (.inr (.inr 92)), some (.inl c1), some (.inl c2), some (.inl c3), some (.inl c4), some (.inl v5), some (.inl v6)], [], g) (congrArg some (if_neg hc)) ?_
        refine ev_runs 5 (20, [some (.inr (.inr 92)), some (.inl c1), some (.inl c2), some (.inl c3), some (.inl c4), some (.inl v5), some (.inl v6)], [], g) (26, [some (.inr (.inr 92)), some (.inl c1), some (.inl c2), some (.inl c3), some (.inl c4), some (.inl v5), some (.inl v6)], [.inl c3, .inl c2, .inl v6, .inl c1, .inr (.inr 92)], g) rfl ?_
        obtain ⟨q1, hq, h⟩ := Option.bind_eq_some_iff.mp h
        refine ec 192 29 [.inr (.inr 92), .inl c1, .inl v6, .inl c2, .inl c3] [] rfl (ev_Md_alike c1 v6 c2 c3 g q1.1 q1.2 hq) ?_
        show Ev 193 29 [some (.inr (.inr 92)), some (.inl c1), some (.inl c2), some (.inl c3), some (.inl c4), some (.inl v5), some (.inl v6)] [.inl q1.1] q1.2 _ _
        by_cases hc : q1.1 = 0
        · rw [if_pos hc] at h
          refine es (49, [some (.inr (.inr 92)), some (.inl c1), some (.inl c2), some (.inl c3), some (.inl c4), some (.inl v5), some (.inl v6)], [], q1.2) (congrArg some (if_pos hc)) ?_
          refine ev_runs 4 (49, [some (.inr (.inr 92)), some (.inl c1), some (.inl c2), some (.inl c3), some (.inl c4), some (.inl v5), some (.inl v6)], [], q1.2) (6, [some (.inr (.inr 92)), some (.inl c1), some (.inl c2), some (.inl c3), some (.inl c4), some (.inl 0), some (.inl (wr (v6 + 1)))], [], q1.2) rfl ?_
          exact ev_le (L := [some (.inr (.inr 92)), some (.inl c1), some (.inl c2), some (.inl c3), some (.inl c4), some (.inl 0), some (.inl (wr (v6 + 1)))]) (by simp [Lle]) (ih6 0 (wr (v6 + 1)) q1.2 r g' h)
        · rw [if_neg hc] at h
          refine es (32, [some (.inr (.inr 92)), some (.inl c1), some (.inl c2), some (.inl c3), some (.inl c4), some (.inl v5), some (.inl v6)], [], q1.2) (congrArg some (if_neg hc)) ?_
          refine ev_runs 4 (32, [some (.inr (.inr 92)), some (.inl c1), some (.inl c2), some (.inl c3), some (.inl c4), some (.inl v5), some (.inl v6)], [], q1.2) (37, [some (.inr (.inr 92)), some (.inl c1), some (.inl c2), some (.inl c3), some (.inl c4), some (.inl v5), some (.inl v6)], [.inl c3, .inl v6, .inl c1, .inr (.inr 92)], q1.2) rfl ?_
          obtain ⟨q2, hq, h⟩ := Option.bind_eq_some_iff.mp h
          refine ec 191 40 [.inr (.inr 92), .inl c1, .inl v6, .inl c3] [] rfl (ev_Md_rowAt c1 v6 c3 q1.2 q2.1 q2.2 hq) ?_
          show Ev 193 40 [some (.inr (.inr 92)), some (.inl c1), some (.inl c2), some (.inl c3), some (.inl c4), some (.inl v5), some (.inl v6)] [.inl q2.1] q2.2 _ _
          refine ev_runs 1 (40, [some (.inr (.inr 92)), some (.inl c1), some (.inl c2), some (.inl c3), some (.inl c4), some (.inl v5), some (.inl v6)], [.inl q2.1], q2.2) (42, [some (.inr (.inr 92)), some (.inl c1), some (.inl c2), some (.inl c3), some (.inl c4), some (.inl v5), some (.inl v6)], [.inl c4, .inl q2.1], q2.2) rfl ?_
          by_cases hc : ¬ q2.1 = c4
          · rw [if_pos hc] at h
            refine es (49, [some (.inr (.inr 92)), some (.inl c1), some (.inl c2), some (.inl c3), some (.inl c4), some (.inl v5), some (.inl v6)], [], q2.2) (congrArg some (if_pos hc)) ?_
            refine ev_runs 4 (49, [some (.inr (.inr 92)), some (.inl c1), some (.inl c2), some (.inl c3), some (.inl c4), some (.inl v5), some (.inl v6)], [], q2.2) (6, [some (.inr (.inr 92)), some (.inl c1), some (.inl c2), some (.inl c3), some (.inl c4), some (.inl 0), some (.inl (wr (v6 + 1)))], [], q2.2) rfl ?_
            exact ev_le (L := [some (.inr (.inr 92)), some (.inl c1), some (.inl c2), some (.inl c3), some (.inl c4), some (.inl 0), some (.inl (wr (v6 + 1)))]) (by simp [Lle]) (ih6 0 (wr (v6 + 1)) q2.2 r g' h)
          · rw [if_neg hc] at h
            refine es (45, [some (.inr (.inr 92)), some (.inl c1), some (.inl c2), some (.inl c3), some (.inl c4), some (.inl v5), some (.inl v6)], [], q2.2) (congrArg some (if_neg hc)) ?_
            refine ev_runs 5 (45, [some (.inr (.inr 92)), some (.inl c1), some (.inl c2), some (.inl c3), some (.inl c4), some (.inl v5), some (.inl v6)], [], q2.2) (6, [some (.inr (.inr 92)), some (.inl c1), some (.inl c2), some (.inl c3), some (.inl c4), some (.inl 1), some (.inl (wr (v6 + 1)))], [], q2.2) rfl ?_
            exact ev_le (L := [some (.inr (.inr 92)), some (.inl c1), some (.inl c2), some (.inl c3), some (.inl c4), some (.inl 1), some (.inl (wr (v6 + 1)))]) (by simp [Lle]) (ih6 1 (wr (v6 + 1)) q2.2 r g' h)
set_option maxRecDepth 100000 in
set_option maxHeartbeats 4000000 in
theorem ev_Md_rowsCan (a1 a2 a3 a4 : Int) (g : Gx) (r : Int) (g' : Gx) (h : Md_rowsCan a1 a2 a3 a4 g = some (r, g')) : Ev 193 0 [some (.inr (.inr 92)), some (.inl a1), some (.inl a2), some (.inl a3), some (.inl a4), none, none] [] g (some (.inl r)) g' := by
  rw [Md_rowsCan] at h
  refine ev_runs 4 (0, [some (.inr (.inr 92)), some (.inl a1), some (.inl a2), some (.inl a3), some (.inl a4), none, none], [], g) (6, [some (.inr (.inr 92)), some (.inl a1), some (.inl a2), some (.inl a3), some (.inl a4), some (.inl 0), some (.inl 0)], [], g) rfl ?_
  refine ev_le (L := [some (.inr (.inr 92)), some (.inl a1), some (.inl a2), some (.inl a3), some (.inl a4), some (.inl 0), some (.inl 0)]) (by simp [Lle]) ?_
  refine ev_Md_rowsCan_l6 a1 a2 a3 a4 _ ?_ fu 0 0 g r g' h
  · intro x3 g4 r g' h
    refine ev_runs 1 (58, [none, none, none, none, none, some (.inl x3), none], [], g4) (60, [none, none, none, none, none, some (.inl x3), none], [.inl x3], g4) rfl ?_
    by_cases hc : x3 = 0 ∨ x3 = 1
    · rw [if_pos hc] at h
      cases h
      exact er (if_pos hc)
    · rw [if_neg hc] at h; cases h
set_option maxRecDepth 100000 in
set_option maxHeartbeats 4000000 in
theorem ev_Md_looksCan_l6 (c1 : Int) (c2 : Int) (c3 : Int) (c4 : Int) (K6_58 : Int → Gx → Option (Int × Gx)) (hK6_58 : ∀ (x5 : Int) (g : Gx) (r : Int) (g' : Gx), K6_58 x5 g = some (r, g') → Ev 194 58 [none, none, none, none, none, some (.inl x5), none] [] g (some (.inl r)) g') : ∀ (n6 : Nat) (v5 v6 : Int) (g : Gx) (r : Int) (g' : Gx), Md_looksCan_l6 c1 c2 c3 c4 K6_58 n6 v5 v6 g = some (r, g') → Ev 194 6 [some (.inr (.inr 92)), some (.inl c1), some (.inl c2), some (.inl c3), some (.inl c4), some (.inl v5), some (.inl v6)] [] g (some (.inl r)) g' := by
  intro n6
  induction n6 with
  | zero => intro v5 v6 g r g' h; cases h
  | succ n6 ih6 =>
    intro v5 v6 g r g' h
    rw [Md_looksCan_l6] at h
    refine ev_runs 3 (6, [some (.inr (.inr 92)), some (.inl c1), some (.inl c2), some (.inl c3), some (.inl c4), some (.inl v5), some (.inl v6)], [], g) (12, [some (.inr (.inr 92)), some (.inl c1), some (.inl c2), some (.inl c3), some (.inl c4), some (.inl v5), some (.inl v6)], [.inl (g 92 26), .inl v6], g) rfl ?_
    by_cases hc : (g 92 26) ≤ v6
    · rw [if_pos hc] at h
      refine es (58, [some (.inr (.inr 92)), some (.inl c1), some (.inl c2), some (.inl c3), some (.inl c4), some (.inl v5), some (.inl v6)], [], g) (congrArg some (if_pos hc)) ?_
      exact ev_le (L := [none, none, none, none, none, some (.inl v5), none]) (by simp [Lle]) (hK6_58 v5 g r g' h)
    · rw [if_neg hc] at h
      refine es (15, [some (.inr (.inr 92)), some (.inl c1), some (.inl c2), some (.inl c3), some (.inl c4), some (.inl v5), some (.inl v6)], [], g) (congrArg some (if_neg hc)) ?_
      refine ev_runs 1 (15, [some (.inr (.inr 92)), some (.inl c1), some (.inl c2), some (.inl c3), some (.inl c4), some (.inl v5), some (.inl v6)], [], g) (17, [some (.inr (.inr 92)), some (.inl c1), some (.inl c2), some (.inl c3), some (.inl c4), some (.inl v5), some (.inl v6)], [.inl v5], g) rfl ?_
      by_cases hc : ¬ v5 = 0
      · rw [if_pos hc] at h
        refine es (45, [some (.inr (.inr 92)), some (.inl c1), some (.inl c2), some (.inl c3), some (.inl c4), some (.inl v5), some (.inl v6)], [], g) (congrArg some (if_pos hc)) ?_
        refine ev_runs 5 (45, [some (.inr (.inr 92)), some (.inl c1), some (.inl c2), some (.inl c3), some (.inl c4), some (.inl v5), some (.inl v6)], [], g) (6, [some (.inr (.inr 92)), some (.inl c1), some (.inl c2), some (.inl c3), some (.inl c4), some (.inl 1), some (.inl (wr (v6 + 1)))], [], g) rfl ?_
        exact ev_le (L := [some (.inr (.inr 92)), some (.inl c1), some (.inl c2), some (.inl c3), some (.inl c4), some (.inl 1), some (.inl (wr (v6 + 1)))]) (by simp [Lle]) (ih6 1 (wr (v6 + 1)) g r g' h)
      · rw [if_neg hc] at h
        refine es (20, [some (.inr (.inr 92)), some (.inl c1), some (.inl c2), some (.inl c3), some (.inl c4), some (.inl v5), some (.inl v6)], [], g) (congrArg some (if_neg hc)) ?_
        refine ev_runs 5 (20, [some (.inr (.inr 92)), some (.inl c1), some (.inl c2), some (.inl c3), some (.inl c4), some (.inl v5), some (.inl v6)], [], g) (26, [some (.inr (.inr 92)), some (.inl c1), some (.inl c2), some (.inl c3), some (.inl c4), some (.inl v5), some (.inl v6)], [.inl c3, .inl v6, .inl c2, .inl c1, .inr (.inr 92)], g) rfl ?_
        obtain ⟨q1, hq, h⟩ := Option.bind_eq_some_iff.mp h
        refine ec 192 29 [.inr (.inr 92), .inl c1, .inl c2, .inl v6, .inl c3] [] rfl (ev_Md_alike c1 c2 v6 c3 g q1.1 q1.2 hq) ?_
        show Ev 194 29 [some (.inr (.inr 92)), some (.inl c1), some (.inl c2), some (.inl c3), some (.inl c4), some (.inl v5), some (.inl v6)] [.inl q1.1] q1.2 _ _
        by_cases hc : q1.1 = 0
        · rw [if_pos hc] at h
          refine es (49, [some (.inr (.inr 92)), some (.inl c1), some (.inl c2), some (.inl c3), some (.inl c4), some (.inl v5), some (.inl v6)], [], q1.2) (congrArg some (if_pos hc)) ?_
          refine ev_runs 4 (49, [some (.inr (.inr 92)), some (.inl c1), some (.inl c2), some (.inl c3), some (.inl c4), some (.inl v5), some (.inl v6)], [], q1.2) (6, [some (.inr (.inr 92)), some (.inl c1), some (.inl c2), some (.inl c3), some (.inl c4), some (.inl 0), some (.inl (wr (v6 + 1)))], [], q1.2) rfl ?_
          exact ev_le (L := [some (.inr (.inr 92)), some (.inl c1), some (.inl c2), some (.inl c3), some (.inl c4), some (.inl 0), some (.inl (wr (v6 + 1)))]) (by simp [Lle]) (ih6 0 (wr (v6 + 1)) q1.2 r g' h)
        · rw [if_neg hc] at h
          refine es (32, [some (.inr (.inr 92)), some (.inl c1), some (.inl c2), some (.inl c3), some (.inl c4), some (.inl v5), some (.inl v6)], [], q1.2) (congrArg some (if_neg hc)) ?_
          refine ev_runs 4 (32, [some (.inr (.inr 92)), some (.inl c1), some (.inl c2), some (.inl c3), some (.inl c4), some (.inl v5), some (.inl v6)], [], q1.2) (37, [some (.inr (.inr 92)), some (.inl c1), some (.inl c2), some (.inl c3), some (.inl c4), some (.inl v5), some (.inl v6)], [.inl c3, .inl v6, .inl c1, .inr (.inr 92)], q1.2) rfl ?_
          obtain ⟨q2, hq, h⟩ := Option.bind_eq_some_iff.mp h
          refine ec 102 40 [.inr (.inr 92), .inl c1, .inl v6, .inl c3] [] rfl (ev_Md_lookAt c1 v6 c3 q1.2 q2.1 q2.2 hq) ?_
          show Ev 194 40 [some (.inr (.inr 92)), some (.inl c1), some (.inl c2), some (.inl c3), some (.inl c4), some (.inl v5), some (.inl v6)] [.inl q2.1] q2.2 _ _
          refine ev_runs 1 (40, [some (.inr (.inr 92)), some (.inl c1), some (.inl c2), some (.inl c3), some (.inl c4), some (.inl v5), some (.inl v6)], [.inl q2.1], q2.2) (42, [some (.inr (.inr 92)), some (.inl c1), some (.inl c2), some (.inl c3), some (.inl c4), some (.inl v5), some (.inl v6)], [.inl c4, .inl q2.1], q2.2) rfl ?_
          by_cases hc : ¬ q2.1 = c4
          · rw [if_pos hc] at h
            refine es (49, [some (.inr (.inr 92)), some (.inl c1), some (.inl c2), some (.inl c3), some (.inl c4), some (.inl v5), some (.inl v6)], [], q2.2) (congrArg some (if_pos hc)) ?_
            refine ev_runs 4 (49, [some (.inr (.inr 92)), some (.inl c1), some (.inl c2), some (.inl c3), some (.inl c4), some (.inl v5), some (.inl v6)], [], q2.2) (6, [some (.inr (.inr 92)), some (.inl c1), some (.inl c2), some (.inl c3), some (.inl c4), some (.inl 0), some (.inl (wr (v6 + 1)))], [], q2.2) rfl ?_
            exact ev_le (L := [some (.inr (.inr 92)), some (.inl c1), some (.inl c2), some (.inl c3), some (.inl c4), some (.inl 0), some (.inl (wr (v6 + 1)))]) (by simp [Lle]) (ih6 0 (wr (v6 + 1)) q2.2 r g' h)
          · rw [if_neg hc] at h
            refine es (45, [some (.inr (.inr 92)), some (.inl c1), some (.inl c2), some (.inl c3), some (.inl c4), some (.inl v5), some (.inl v6)], [], q2.2) (congrArg some (if_neg hc)) ?_
            refine ev_runs 5 (45, [some (.inr (.inr 92)), some (.inl c1), some (.inl c2), some (.inl c3), some (.inl c4), some (.inl v5), some (.inl v6)], [], q2.2) (6, [some (.inr (.inr 92)), some (.inl c1), some (.inl c2), some (.inl c3), some (.inl c4), some (.inl 1), some (.inl (wr (v6 + 1)))], [], q2.2) rfl ?_
            exact ev_le (L := [some (.inr (.inr 92)), some (.inl c1), some (.inl c2), some (.inl c3), some (.inl c4), some (.inl 1), some (.inl (wr (v6 + 1)))]) (by simp [Lle]) (ih6 1 (wr (v6 + 1)) q2.2 r g' h)
set_option maxRecDepth 100000 in
set_option maxHeartbeats 4000000 in
theorem ev_Md_looksCan (a1 a2 a3 a4 : Int) (g : Gx) (r : Int) (g' : Gx) (h : Md_looksCan a1 a2 a3 a4 g = some (r, g')) : Ev 194 0 [some (.inr (.inr 92)), some (.inl a1), some (.inl a2), some (.inl a3), some (.inl a4), none, none] [] g (some (.inl r)) g' := by
  rw [Md_looksCan] at h
  refine ev_runs 4 (0, [some (.inr (.inr 92)), some (.inl a1), some (.inl a2), some (.inl a3), some (.inl a4), none, none], [], g) (6, [some (.inr (.inr 92)), some (.inl a1), some (.inl a2), some (.inl a3), some (.inl a4), some (.inl 0), some (.inl 0)], [], g) rfl ?_
  refine ev_le (L := [some (.inr (.inr 92)), some (.inl a1), some (.inl a2), some (.inl a3), some (.inl a4), some (.inl 0), some (.inl 0)]) (by simp [Lle]) ?_
  refine ev_Md_looksCan_l6 a1 a2 a3 a4 _ ?_ fu 0 0 g r g' h
  · intro x3 g4 r g' h
    refine ev_runs 1 (58, [none, none, none, none, none, some (.inl x3), none], [], g4) (60, [none, none, none, none, none, some (.inl x3), none], [.inl x3], g4) rfl ?_
    by_cases hc : x3 = 0 ∨ x3 = 1
    · rw [if_pos hc] at h
      cases h
      exact er (if_pos hc)
    · rw [if_neg hc] at h; cases h
set_option maxRecDepth 100000 in
set_option maxHeartbeats 4000000 in
theorem ev_Md_fitsAt_l12 (c1 : Int) (c2 : Int) (c3 : Int) (c4 : Int) (K12_138 : Int → Int → Int → Gx → Option (Int × Gx)) (hK12_138 : ∀ (x5 x6 x7 : Int) (g : Gx) (r : Int) (g' : Gx), K12_138 x5 x6 x7 g = some (r, g') → Ev 195 138 [some (.inr (.inr 92)), some (.inl c1), some (.inl c2), some (.inl c3), some (.inl c4), some (.inl x5), some (.inl x6), some (.inl x7), none, none, none] [] g (some (.inl r)) g') : ∀ (n12 : Nat) (v5 v6 v7 v8 : Int) (g : Gx) (r : Int) (g' : Gx), Md_fitsAt_l12 c1 c2 c3 c4 K12_138 n12 v5 v6 v7 v8 g = some (r, g') → Ev 195 12 [some (.inr (.inr 92)), some (.inl c1), some (.inl c2), some (.inl c3), some (.inl c4), some (.inl v5), some (.inl v6), some (.inl v7), some (.inl v8), none, none] [] g (some (.inl r)) g' := by
  intro n12
  induction n12 with
  | zero => intro v5 v6 v7 v8 g r g' h; cases h
  | succ n12 ih12 =>
    intro v5 v6 v7 v8 g r g' h
    rw [Md_fitsAt_l12] at h
    refine ev_runs 3 (12, [some (.inr (.inr 92)), some (.inl c1), some (.inl c2), some (.inl c3), some (.inl c4), some (.inl v5), some (.inl v6), some (.inl v7), some (.inl v8), none, none], [], g) (18, [some (.inr (.inr 92)), some (.inl c1), some (.inl c2), some (.inl c3), some (.inl c4), some (.inl v5), some (.inl v6), some (.inl v7), some (.inl v8), none, none], [.inl (g 92 26), .inl v8], g) rfl ?_
    by_cases hc : (g 92 26) ≤ v8
    · rw [if_pos hc] at h
      refine es (138, [some (.inr (.inr 92)), some (.inl c1), some (.inl c2), some (.inl c3), some (.inl c4), some (.inl v5), some (.inl v6), some (.inl v7), some (.inl v8), none, none], [], g) (congrArg some (if_pos hc)) ?_
      exact ev_le (L := [some (.inr (.inr 92)), some (.inl c1), some (.inl c2), some (.inl c3), some (.inl c4), some (.inl v5), some (.inl v6), some (.inl v7), none, none, none]) (by simp [Lle]) (hK12_138 v5 v6 v7 g r g' h)
    · rw [if_neg hc] at h
      refine es (21, [some (.inr (.inr 92)), some (.inl c1), some (.inl c2), some (.inl c3), some (.inl c4), some (.inl v5), some (.inl v6), some (.inl v7), some (.inl v8), none, none], [], g) (congrArg some (if_neg hc)) ?_
      refine ev_runs 5 (21, [some (.inr (.inr 92)), some (.inl c1), some (.inl c2), some (.inl c3), some (.inl c4), some (.inl v5), some (.inl v6), some (.inl v7), some (.inl v8), none, none], [], g) (28, [some (.inr (.inr 92)), some (.inl c1), some (.inl c2), some (.inl c3), some (.inl c4), some (.inl v5), some (.inl v6), some (.inl v7), some (.inl v8), none, none], [.inl c4, .inl v8, .inl c2, .inl c1, .inr (.inr 92)], g) rfl ?_
      obtain ⟨q1, hq, h⟩ := Option.bind_eq_some_iff.mp h
      refine ec 192 31 [.inr (.inr 92), .inl c1, .inl c2, .inl v8, .inl c4] [] rfl (ev_Md_alike c1 c2 v8 c4 g q1.1 q1.2 hq) ?_
      show Ev 195 31 [some (.inr (.inr 92)), some (.inl c1), some (.inl c2), some (.inl c3), some (.inl c4), some (.inl v5), some (.inl v6), some (.inl v7), some (.inl v8), none, none] [.inl q1.1] q1.2 _ _
      by_cases hc : q1.1 = 0
      · rw [if_pos hc] at h
        refine es (132, [some (.inr (.inr 92)), some (.inl c1), some (.inl c2), some (.inl c3), some (.inl c4), some (.inl v5), some (.inl v6), some (.inl v7), some (.inl v8), none, none], [], q1.2) (congrArg some (if_pos hc)) ?_
        refine ev_runs 2 (132, [some (.inr (.inr 92)), some (.inl c1), some (.inl c2), some (.inl c3), some (.inl c4), some (.inl v5), some (.inl v6), some (.inl v7), some (.inl v8), none, none], [], q1.2) (12, [some (.inr (.inr 92)), some (.inl c1), some (.inl c2), some (.inl c3), some (.inl c4), some (.inl v5), some (.inl v6), some (.inl v7), some (.inl (wr (v8 + 1))), none, none], [], q1.2) rfl ?_
        exact ev_le (L := [some (.inr (.inr 92)), some (.inl c1), some (.inl c2), some (.inl c3), some (.inl c4), some (.inl v5), some (.inl v6), some (.inl v7), some (.inl (wr (v8 + 1))), none, none]) (by simp [Lle]) (ih12 v5 v6 v7 (wr (v8 + 1)) q1.2 r g' h)
      · rw [if_neg hc] at h
        refine es (34, [some (.inr (.inr 92)), some (.inl c1), some (.inl c2), some (.inl c3), some (.inl c4), some (.inl v5), some (.inl v6), some (.inl v7), some (.inl v8), none, none], [], q1.2) (congrArg some (if_neg hc)) ?_
        refine ev_runs 4 (34, [some (.inr (.inr 92)), some (.inl c1), some (.inl c2), some (.inl c3), some (.inl c4), some (.inl v5), some (.inl v6), some (.inl v7), some (.inl v8), none, none], [], q1.2) (40, [some (.inr (.inr 92)), some (.inl c1), some (.inl c2), some (.inl c3), some (.inl c4), some (.inl v5), some (.inl v6), some (.inl v7), some (.inl v8), none, none], [.inl c4, .inl v8, .inl c1, .inr (.inr 92)], q1.2) rfl ?_
        obtain ⟨q2, hq, h⟩ := Option.bind_eq_some_iff.mp h
        refine ec 102 43 [.inr (.inr 92), .inl c1, .inl v8, .inl c4] [] rfl (ev_Md_lookAt c1 v8 c4 q1.2 q2.1 q2.2 hq) ?_
        show Ev 195 43 [some (.inr (.inr 92)), some (.inl c1), some (.inl c2), some (.inl c3), some (.inl c4), some (.inl v5), some (.inl v6), some (.inl v7), some (.inl v8), none, none] [.inl q2.1] q2.2 _ _
        refine ev_runs 2 (43, [some (.inr (.inr 92)), some (.inl c1), some (.inl c2), some (.inl c3), some (.inl c4), some (.inl v5), some (.inl v6), some (.inl v7), some (.inl v8), none, none], [.inl q2.1], q2.2) (47, [some (.inr (.inr 92)), some (.inl c1), some (.inl c2), some (.inl c3), some (.inl c4), some (.inl v5), some (.inl v6), some (.inl v7), some (.inl v8), some (.inl q2.1), none], [.inl v6], q2.2) rfl ?_
        obtain ⟨y3, hy3, h⟩ := lett_inv h
        have hjy3 : Ev 195 70 [some (.inr (.inr 92)), some (.inl c1), some (.inl c2), some (.inl c3), some (.inl c4), some (.inl v5), none, some (.inl v7), some (.inl v8), some (.inl q2.1), none] [.inl y3] q2.2 (some (.inl r)) g' := by
          refine ev_runs 2 (70, [some (.inr (.inr 92)), some (.inl c1), some (.inl c2), some (.inl c3), some (.inl c4), some (.inl v5), none, some (.inl v7), some (.inl v8), some (.inl q2.1), none], [.inl y3], q2.2) (74, [some (.inr (.inr 92)), some (.inl c1), some (.inl c2), some (.inl c3), some (.inl c4), some (.inl v5), some (.inl y3), some (.inl v7), some (.inl v8), some (.inl q2.1), none], [.inl v7], q2.2) rfl ?_
          obtain ⟨y4, hy4, h⟩ := lett_inv h
          have hjy4 : Ev 195 97 [some (.inr (.inr 92)), some (.inl c1), some (.inl c2), some (.inl c3), some (.inl c4), some (.inl v5), some (.inl y3), none, some (.inl v8), some (.inl q2.1), none] [.inl y4] q2.2 (some (.inl r)) g' := by
            refine ev_runs 2 (97, [some (.inr (.inr 92)), some (.inl c1), some (.inl c2), some (.inl c3), some (.inl c4), some (.inl v5), some (.inl y3), none, some (.inl v8), some (.inl q2.1), none], [.inl y4], q2.2) (101, [some (.inr (.inr 92)), some (.inl c1), some (.inl c2), some (.inl c3), some (.inl c4), some (.inl v5), some (.inl y3), some (.inl y4), some (.inl v8), some (.inl q2.1), none], [.inl v5], q2.2) rfl ?_
            by_cases hc : v5 = 0
            · rw [if_pos hc] at h
              refine es (129, [some (.inr (.inr 92)), some (.inl c1), some (.inl c2), some (.inl c3), some (.inl c4), some (.inl v5), some (.inl y3), some (.inl y4), some (.inl v8), some (.inl q2.1), none], [], q2.2) (congrArg some (if_pos hc)) ?_
              refine ev_runs 4 (129, [some (.inr (.inr 92)), some (.inl c1), some (.inl c2), some (.inl c3), some (.inl c4), some (.inl v5), some (.inl y3), some (.inl y4), some (.inl v8), some (.inl q2.1), none], [], q2.2) (12, [some (.inr (.inr 92)), some (.inl c1), some (.inl c2), some (.inl c3), some (.inl c4), some (.inl 0), some (.inl y3), some (.inl y4), some (.inl (wr (v8 + 1))), some (.inl q2.1), none], [], q2.2) rfl ?_
              exact ev_le (L := [some (.inr (.inr 92)), some (.inl c1), some (.inl c2), some (.inl c3), some (.inl c4), some (.inl 0), some (.inl y3), some (.inl y4), some (.inl (wr (v8 + 1))), none, none]) (by simp [Lle]) (ih12 0 y3 y4 (wr (v8 + 1)) q2.2 r g' h)
            · rw [if_neg hc] at h
              refine es (104, [some (.inr (.inr 92)), some (.inl c1), some (.inl c2), some (.inl c3), some (.inl c4), some (.inl v5), some (.inl y3), some (.inl y4), some (.inl v8), some (.inl q2.1), none], [], q2.2) (congrArg some (if_neg hc)) ?_
              refine ev_runs 2 (104, [some (.inr (.inr 92)), some (.inl c1), some (.inl c2), some (.inl c3), some (.inl c4), some (.inl v5), some (.inl y3), some (.inl y4), some (.inl v8), some (.inl q2.1), none], [], q2.2) (109, [some (.inr (.inr 92)), some (.inl c1), some (.inl c2), some (.inl c3), some (.inl c4), some (.inl v5), some (.inl y3), some (.inl y4), some (.inl v8), some (.inl q2.1), none], [.inl 20000, .inl q2.1], q2.2) rfl ?_
              by_cases hc : q2.1 < 20000
              · rw [if_pos hc] at h
                refine es (125, [some (.inr (.inr 92)), some (.inl c1), some (.inl c2), some (.inl c3), some (.inl c4), some (.inl v5), some (.inl y3), some (.inl y4), some (.inl v8), some (.inl q2.1), none], [], q2.2) (congrArg some (if_pos hc)) ?_
                refine ev_runs 5 (125, [some (.inr (.inr 92)), some (.inl c1), some (.inl c2), some (.inl c3), some (.inl c4), some (.inl v5), some (.inl y3), some (.inl y4), some (.inl v8), some (.inl q2.1), none], [], q2.2) (12, [some (.inr (.inr 92)), some (.inl c1), some (.inl c2), some (.inl c3), some (.inl c4), some (.inl 1), some (.inl y3), some (.inl y4), some (.inl (wr (v8 + 1))), some (.inl q2.1), none], [], q2.2) rfl ?_
                exact ev_le (L := [some (.inr (.inr 92)), some (.inl c1), some (.inl c2), some (.inl c3), some (.inl c4), some (.inl 1), some (.inl y3), some (.inl y4), some (.inl (wr (v8 + 1))), none, none]) (by simp [Lle]) (ih12 1 y3 y4 (wr (v8 + 1)) q2.2 r g' h)
              · rw [if_neg hc] at h
                refine es (112, [some (.inr (.inr 92)), some (.inl c1), some (.inl c2), some (.inl c3), some (.inl c4), some (.inl v5), some (.inl y3), some (.inl y4), some (.inl v8), some (.inl q2.1), none], [], q2.2) (congrArg some (if_neg hc)) ?_
                refine ev_runs 5 (112, [some (.inr (.inr 92)), some (.inl c1), some (.inl c2), some (.inl c3), some (.inl c4), some (.inl v5), some (.inl y3), some (.inl y4), some (.inl v8), some (.inl q2.1), none], [], q2.2) (119, [some (.inr (.inr 92)), some (.inl c1), some (.inl c2), some (.inl c3), some (.inl c4), some (.inl v5), some (.inl y3), some (.inl y4), some (.inl v8), some (.inl q2.1), none], [.inl q2.1, .inl c4, .inl c3, .inl c1, .inr (.inr 92)], q2.2) rfl ?_
                obtain ⟨q5, hq, h⟩ := Option.bind_eq_some_iff.mp h
                refine ec 193 122 [.inr (.inr 92), .inl c1, .inl c3, .inl c4, .inl q2.1] [] rfl (ev_Md_rowsCan c1 c3 c4 q2.1 q2.2 q5.1 q5.2 hq) ?_
                show Ev 195 122 [some (.inr (.inr 92)), some (.inl c1), some (.inl c2), some (.inl c3), some (.inl c4), some (.inl v5), some (.inl y3), some (.inl y4), some (.inl v8), some (.inl q2.1), none] [.inl q5.1] q5.2 _ _
                by_cases hc : q5.1 = 0
                · rw [if_pos hc] at h
                  refine es (129, [some (.inr (.inr 92)), some (.inl c1), some (.inl c2), some (.inl c3), some (.inl c4), some (.inl v5), some (.inl y3), some (.inl y4), some (.inl v8), some (.inl q2.1), none], [], q5.2) (congrArg some (if_pos hc)) ?_
                  refine ev_runs 4 (129, [some (.inr (.inr 92)), some (.inl c1), some (.inl c2), some (.inl c3), some (.inl c4), some (.inl v5), some (.inl y3), some (.inl y4), some (.inl v8), some (.inl q2.1), none], [], q5.2) (12, [some (.inr (.inr 92)), some (.inl c1), some (.inl c2), some (.inl c3), some (.inl c4), some (.inl 0), some (.inl y3), some (.inl y4), some (.inl (wr (v8 + 1))), some (.inl q2.1), none], [], q5.2) rfl ?_
                  exact ev_le (L := [some (.inr (.inr 92)), some (.inl c1), some (.inl c2), some (.inl c3), some (.inl c4), some (.inl 0), some (.inl y3), some (.inl y4), some (.inl (wr (v8 + 1))), none, none]) (by simp [Lle]) (ih12 0 y3 y4 (wr (v8 + 1)) q5.2 r g' h)
                · rw [if_neg hc] at h
                  refine es (125, [some (.inr (.inr 92)), some (.inl c1), some (.inl c2), some (.inl c3), some (.inl c4), some (.inl v5), some (.inl y3), some (.inl y4), some (.inl v8), some (.inl q2.1), none], [], q5.2) (congrArg some (if_neg hc)) ?_
                  refine ev_runs 5 (125, [some (.inr (.inr 92)), some (.inl c1), some (.inl c2), some (.inl c3), some (.inl c4), some (.inl v5), some (.inl y3), some (.inl y4), some (.inl v8), some (.inl q2.1), none], [], q5.2) (12, [some (.inr (.inr 92)), some (.inl c1), some (.inl c2), some (.inl c3), some (.inl c4), some (.inl 1), some (.inl y3), some (.inl y4), some (.inl (wr (v8 + 1))), some (.inl q2.1), none], [], q5.2) rfl ?_
                  exact ev_le (L := [some (.inr (.inr 92)), some (.inl c1), some (.inl c2), some (.inl c3), some (.inl c4), some (.inl 1), some (.inl y3), some (.inl y4), some (.inl (wr (v8 + 1))), none, none]) (by simp [Lle]) (ih12 1 y3 y4 (wr (v8 + 1)) q5.2 r g' h)
          by_cases hc : ¬ v7 = 0
          · rw [if_pos hc] at hy4
            refine es (92, [some (.inr (.inr 92)), some (.inl c1), some (.inl c2), some (.inl c3), some (.inl c4), some (.inl v5), some (.inl y3), some (.inl v7), some (.inl v8), some (.inl q2.1), none], [], q2.2) (congrArg some (if_pos hc)) ?_
            refine ev_runs 2 (92, [some (.inr (.inr 92)), some (.inl c1), some (.inl c2), some (.inl c3), some (.inl c4), some (.inl v5), some (.inl y3), some (.inl v7), some (.inl v8), some (.inl q2.1), none], [], q2.2) (97, [some (.inr (.inr 92)), some (.inl c1), some (.inl c2), some (.inl c3), some (.inl c4), some (.inl v5), some (.inl y3), some (.inl v7), some (.inl v8), some (.inl q2.1), none], [.inl 1], q2.2) rfl ?_
            rw [hy4] at hjy4
            exact ev_le (L := [some (.inr (.inr 92)), some (.inl c1), some (.inl c2), some (.inl c3), some (.inl c4), some (.inl v5), some (.inl y3), none, some (.inl v8), some (.inl q2.1), none]) (by simp [Lle]) hjy4
          · rw [if_neg hc] at hy4
            refine es (77, [some (.inr (.inr 92)), some (.inl c1), some (.inl c2), some (.inl c3), some (.inl c4), some (.inl v5), some (.inl y3), some (.inl v7), some (.inl v8), some (.inl q2.1), none], [], q2.2) (congrArg some (if_neg hc)) ?_
            refine ev_runs 4 (77, [some (.inr (.inr 92)), some (.inl c1), some (.inl c2), some (.inl c3), some (.inl c4), some (.inl v5), some (.inl y3), some (.inl v7), some (.inl v8), some (.inl q2.1), none], [], q2.2) (86, [some (.inr (.inr 92)), some (.inl c1), some (.inl c2), some (.inl c3), some (.inl c4), some (.inl v5), some (.inl y3), some (.inl v7), some (.inl v8), some (.inl q2.1), none], [.inr (.inl 19999), .inr (.inl 10000), .inr (.inl q2.1)], q2.2) rfl ?_
            refine ec 4 89 [.inr (.inl q2.1), .inr (.inl 10000), .inr (.inl 19999)] [] rfl (ev_Md_in q2.1 10000 19999 q2.2 _ rfl) ?_
            show Ev 195 89 [some (.inr (.inr 92)), some (.inl c1), some (.inl c2), some (.inl c3), some (.inl c4), some (.inl v5), some (.inl y3), some (.inl v7), some (.inl v8), some (.inl q2.1), none] [.inl (Md_in q2.1 10000 19999)] q2.2 _ _
            by_cases hc : ¬ (Md_in q2.1 10000 19999) = 0
            · rw [if_pos hc] at hy4
              refine es (96, [some (.inr (.inr 92)), some (.inl c1), some (.inl c2), some (.inl c3), some (.inl c4), some (.inl v5), some (.inl y3), some (.inl v7), some (.inl v8), some (.inl q2.1), none], [], q2.2) (congrArg some (if_pos hc)) ?_
              refine ev_runs 1 (96, [some (.inr (.inr 92)), some (.inl c1), some (.inl c2), some (.inl c3), some (.inl c4), some (.inl v5), some (.inl y3), some (.inl v7), some (.inl v8), some (.inl q2.1), none], [], q2.2) (97, [some (.inr (.inr 92)), some (.inl c1), some (.inl c2), some (.inl c3), some (.inl c4), some (.inl v5), some (.inl y3), some (.inl v7), some (.inl v8), some (.inl q2.1), none], [.inl 0], q2.2) rfl ?_
              rw [hy4] at hjy4
              exact ev_le (L := [some (.inr (.inr 92)), some (.inl c1), some (.inl c2), some (.inl c3), some (.inl c4), some (.inl v5), some (.inl y3), none, some (.inl v8), some (.inl q2.1), none]) (by simp [Lle]) hjy4
            · rw [if_neg hc] at hy4
              refine es (92, [some (.inr (.inr 92)), some (.inl c1), some (.inl c2), some (.inl c3), some (.inl c4), some (.inl v5), some (.inl y3), some (.inl v7), some (.inl v8), some (.inl q2.1), none], [], q2.2) (congrArg some (if_neg hc)) ?_
              refine ev_runs 2 (92, [some (.inr (.inr 92)), some (.inl c1), some (.inl c2), some (.inl c3), some (.inl c4), some (.inl v5), some (.inl y3), some (.inl v7), some (.inl v8), some (.inl q2.1), none], [], q2.2) (97, [some (.inr (.inr 92)), some (.inl c1), some (.inl c2), some (.inl c3), some (.inl c4), some (.inl v5), some (.inl y3), some (.inl v7), some (.inl v8), some (.inl q2.1), none], [.inl 1], q2.2) rfl ?_
              rw [hy4] at hjy4
              exact ev_le (L := [some (.inr (.inr 92)), some (.inl c1), some (.inl c2), some (.inl c3), some (.inl c4), some (.inl v5), some (.inl y3), none, some (.inl v8), some (.inl q2.1), none]) (by simp [Lle]) hjy4
        by_cases hc : ¬ v6 = 0
        · rw [if_pos hc] at hy3
          refine es (65, [some (.inr (.inr 92)), some (.inl c1), some (.inl c2), some (.inl c3), some (.inl c4), some (.inl v5), some (.inl v6), some (.inl v7), some (.inl v8), some (.inl q2.1), none], [], q2.2) (congrArg some (if_pos hc)) ?_
          refine ev_runs 2 (65, [some (.inr (.inr 92)), some (.inl c1), some (.inl c2), some (.inl c3), some (.inl c4), some (.inl v5), some (.inl v6), some (.inl v7), some (.inl v8), some (.inl q2.1), none], [], q2.2) (70, [some (.inr (.inr 92)), some (.inl c1), some (.inl c2), some (.inl c3), some (.inl c4), some (.inl v5), some (.inl v6), some (.inl v7), some (.inl v8), some (.inl q2.1), none], [.inl 1], q2.2) rfl ?_
          rw [hy3] at hjy3
          exact ev_le (L := [some (.inr (.inr 92)), some (.inl c1), some (.inl c2), some (.inl c3), some (.inl c4), some (.inl v5), none, some (.inl v7), some (.inl v8), some (.inl q2.1), none]) (by simp [Lle]) hjy3
        · rw [if_neg hc] at hy3
          refine es (50, [some (.inr (.inr 92)), some (.inl c1), some (.inl c2), some (.inl c3), some (.inl c4), some (.inl v5), some (.inl v6), some (.inl v7), some (.inl v8), some (.inl q2.1), none], [], q2.2) (congrArg some (if_neg hc)) ?_
          refine ev_runs 4 (50, [some (.inr (.inr 92)), some (.inl c1), some (.inl c2), some (.inl c3), some (.inl c4), some (.inl v5), some (.inl v6), some (.inl v7), some (.inl v8), some (.inl q2.1), none], [], q2.2) (59, [some (.inr (.inr 92)), some (.inl c1), some (.inl c2), some (.inl c3), some (.inl c4), some (.inl v5), some (.inl v6), some (.inl v7), some (.inl v8), some (.inl q2.1), none], [.inr (.inl 19999), .inr (.inl 10000), .inr (.inl q2.1)], q2.2) rfl ?_
          refine ec 4 62 [.inr (.inl q2.1), .inr (.inl 10000), .inr (.inl 19999)] [] rfl (ev_Md_in q2.1 10000 19999 q2.2 _ rfl) ?_
          show Ev 195 62 [some (.inr (.inr 92)), some (.inl c1), some (.inl c2), some (.inl c3), some (.inl c4), some (.inl v5), some (.inl v6), some (.inl v7), some (.inl v8), some (.inl q2.1), none] [.inl (Md_in q2.1 10000 19999)] q2.2 _ _
          by_cases hc : (Md_in q2.1 10000 19999) = 0
          · rw [if_pos hc] at hy3
            refine es (69, [some (.inr (.inr 92)), some (.inl c1), some (.inl c2), some (.inl c3), some (.inl c4), some (.inl v5), some (.inl v6), some (.inl v7), some (.inl v8), some (.inl q2.1), none], [], q2.2) (congrArg some (if_pos hc)) ?_
            refine ev_runs 1 (69, [some (.inr (.inr 92)), some (.inl c1), some (.inl c2), some (.inl c3), some (.inl c4), some (.inl v5), some (.inl v6), some (.inl v7), some (.inl v8), some (.inl q2.1), none], [], q2.2) (70, [some (.inr (.inr 92)), some (.inl c1), some (.inl c2), some (.inl c3), some (.inl c4), some (.inl v5), some (.inl v6), some (.inl v7), some (.inl v8), some (.inl q2.1), none], [.inl 0], q2.2) rfl ?_
            rw [hy3] at hjy3
            exact ev_le (L := [some (.inr (.inr 92)), some (.inl c1), some (.inl c2), some (.inl c3), some (.inl c4), some (.inl v5), none, some (.inl v7), some (.inl v8), some (.inl q2.1), none]) (by simp [Lle]) hjy3
          · rw [if_neg hc] at hy3
            refine es (65, [some (.inr (.inr 92)), some (.inl c1), some (.inl c2), some (.inl c3), some (.inl c4), some (.inl v5), some (.inl v6), some (.inl v7), some (.inl v8), some (.inl q2.1), none], [], q2.2) (congrArg some (if_neg hc)) ?_
            refine ev_runs 2 (65, [some (.inr (.inr 92)), some (.inl c1), some (.inl c2), some (.inl c3), some (.inl c4), some (.inl v5), some (.inl v6), some (.inl v7), some (.inl v8), some (.inl q2.1), none], [], q2.2) (70, [some (.inr (.inr 92)), some (.inl c1), some (.inl c2), some (.inl c3), some (.inl c4), some (.inl v5), some (.inl v6), some (.inl v7), some (.inl v8), some (.inl q2.1), none], [.inl 1], q2.2) rfl ?_
            rw [hy3] at hjy3
            exact ev_le (L := [some (.inr (.inr 92)), some (.inl c1), some (.inl c2), some (.inl c3), some (.inl c4), some (.inl v5), none, some (.inl v7), some (.inl v8), some (.inl q2.1), none]) (by simp [Lle]) hjy3
set_option maxRecDepth 100000 in
set_option maxHeartbeats 4000000 in
theorem ev_Md_fitsAt_l144 (c1 : Int) (c2 : Int) (c3 : Int) (c4 : Int) (c6 : Int) (c7 : Int) (K144_250 : Int → Int → Gx → Option (Int × Gx)) (hK144_250 : ∀ (x5 x8 : Int) (g : Gx) (r : Int) (g' : Gx), K144_250 x5 x8 g = some (r, g') → Ev 195 250 [none, none, none, none, none, some (.inl x5), some (.inl c6), some (.inl c7), some (.inl x8), none, none] [] g (some (.inl r)) g') : ∀ (n144 : Nat) (v5 v8 v9 : Int) (g : Gx) (r : Int) (g' : Gx), Md_fitsAt_l144 c1 c2 c3 c4 c6 c7 K144_250 n144 v5 v8 v9 g = some (r, g') → Ev 195 144 [some (.inr (.inr 92)), some (.inl c1), some (.inl c2), some (.inl c3), some (.inl c4), some (.inl v5), some (.inl c6), some (.inl c7), some (.inl v8), some (.inl v9), none] [] g (some (.inl r)) g' := by
  intro n144
  induction n144 with
  | zero => intro v5 v8 v9 g r g' h; cases h
  | succ n144 ih144 =>
    intro v5 v8 v9 g r g' h
    rw [Md_fitsAt_l144] at h
    refine ev_runs 3 (144, [some (.inr (.inr 92)), some (.inl c1), some (.inl c2), some (.inl c3), some (.inl c4), some (.inl v5), some (.inl c6), some (.inl c7), some (.inl v8), some (.inl v9), none], [], g) (150, [some (.inr (.inr 92)), some (.inl c1), some (.inl c2), some (.inl c3), some (.inl c4), some (.inl v5), some (.inl c6), some (.inl c7), some (.inl v8), some (.inl v9), none], [.inl (g 92 21), .inl v9], g) rfl ?_
    by_cases hc : (g 92 21) ≤ v9
    · rw [if_pos hc] at h
      refine es (250, [some (.inr (.inr 92)), some (.inl c1), some (.inl c2), some (.inl c3), some (.inl c4), some (.inl v5), some (.inl c6), some (.inl c7), some (.inl v8), some (.inl v9), none], [], g) (congrArg some (if_pos hc)) ?_
      exact ev_le (L := [none, none, none, none, none, some (.inl v5), some (.inl c6), some (.inl c7), some (.inl v8), none, none]) (by simp [Lle]) (hK144_250 v5 v8 g r g' h)
    · rw [if_neg hc] at h
      refine es (153, [some (.inr (.inr 92)), some (.inl c1), some (.inl c2), some (.inl c3), some (.inl c4), some (.inl v5), some (.inl c6), some (.inl c7), some (.inl v8), some (.inl v9), none], [], g) (congrArg some (if_neg hc)) ?_
      refine ev_runs 5 (153, [some (.inr (.inr 92)), some (.inl c1), some (.inl c2), some (.inl c3), some (.inl c4), some (.inl v5), some (.inl c6), some (.inl c7), some (.inl v8), some (.inl v9), none], [], g) (160, [some (.inr (.inr 92)), some (.inl c1), some (.inl c2), some (.inl c3), some (.inl c4), some (.inl v5), some (.inl c6), some (.inl c7), some (.inl v8), some (.inl v9), none], [.inl c4, .inl c3, .inl v9, .inl c1, .inr (.inr 92)], g) rfl ?_
      obtain ⟨q10, hq, h⟩ := Option.bind_eq_some_iff.mp h
      refine ec 192 163 [.inr (.inr 92), .inl c1, .inl v9, .inl c3, .inl c4] [] rfl (ev_Md_alike c1 v9 c3 c4 g q10.1 q10.2 hq) ?_
      show Ev 195 163 [some (.inr (.inr 92)), some (.inl c1), some (.inl c2), some (.inl c3), some (.inl c4), some (.inl v5), some (.inl c6), some (.inl c7), some (.inl v8), some (.inl v9), none] [.inl q10.1] q10.2 _ _
      by_cases hc : q10.1 = 0
      · rw [if_pos hc] at h
        refine es (244, [some (.inr (.inr 92)), some (.inl c1), some (.inl c2), some (.inl c3), some (.inl c4), some (.inl v5), some (.inl c6), some (.inl c7), some (.inl v8), some (.inl v9), none], [], q10.2) (congrArg some (if_pos hc)) ?_
        refine ev_runs 2 (244, [some (.inr (.inr 92)), some (.inl c1), some (.inl c2), some (.inl c3), some (.inl c4), some (.inl v5), some (.inl c6), some (.inl c7), some (.inl v8), some (.inl v9), none], [], q10.2) (144, [some (.inr (.inr 92)), some (.inl c1), some (.inl c2), some (.inl c3), some (.inl c4), some (.inl v5), some (.inl c6), some (.inl c7), some (.inl v8), some (.inl (wr (v9 + 1))), none], [], q10.2) rfl ?_
        exact ev_le (L := [some (.inr (.inr 92)), some (.inl c1), some (.inl c2), some (.inl c3), some (.inl c4), some (.inl v5), some (.inl c6), some (.inl c7), some (.inl v8), some (.inl (wr (v9 + 1))), none]) (by simp [Lle]) (ih144 v5 v8 (wr (v9 + 1)) q10.2 r g' h)
      · rw [if_neg hc] at h
        refine es (166, [some (.inr (.inr 92)), some (.inl c1), some (.inl c2), some (.inl c3), some (.inl c4), some (.inl v5), some (.inl c6), some (.inl c7), some (.inl v8), some (.inl v9), none], [], q10.2) (congrArg some (if_neg hc)) ?_
        refine ev_runs 4 (166, [some (.inr (.inr 92)), some (.inl c1), some (.inl c2), some (.inl c3), some (.inl c4), some (.inl v5), some (.inl c6), some (.inl c7), some (.inl v8), some (.inl v9), none], [], q10.2) (172, [some (.inr (.inr 92)), some (.inl c1), some (.inl c2), some (.inl c3), some (.inl c4), some (.inl v5), some (.inl c6), some (.inl c7), some (.inl v8), some (.inl v9), none], [.inl c4, .inl v9, .inl c1, .inr (.inr 92)], q10.2) rfl ?_
        obtain ⟨q11, hq, h⟩ := Option.bind_eq_some_iff.mp h
        refine ec 191 175 [.inr (.inr 92), .inl c1, .inl v9, .inl c4] [] rfl (ev_Md_rowAt c1 v9 c4 q10.2 q11.1 q11.2 hq) ?_
        show Ev 195 175 [some (.inr (.inr 92)), some (.inl c1), some (.inl c2), some (.inl c3), some (.inl c4), some (.inl v5), some (.inl c6), some (.inl c7), some (.inl v8), some (.inl v9), none] [.inl q11.1] q11.2 _ _
        refine ev_runs 2 (175, [some (.inr (.inr 92)), some (.inl c1), some (.inl c2), some (.inl c3), some (.inl c4), some (.inl v5), some (.inl c6), some (.inl c7), some (.inl v8), some (.inl v9), none], [.inl q11.1], q11.2) (179, [some (.inr (.inr 92)), some (.inl c1), some (.inl c2), some (.inl c3), some (.inl c4), some (.inl v5), some (.inl c6), some (.inl c7), some (.inl v8), some (.inl v9), some (.inl q11.1)], [.inl v8], q11.2) rfl ?_
        obtain ⟨y12, hy12, h⟩ := lett_inv h
        have hjy12 : Ev 195 202 [some (.inr (.inr 92)), some (.inl c1), some (.inl c2), some (.inl c3), some (.inl c4), some (.inl v5), some (.inl c6), some (.inl c7), none, some (.inl v9), some (.inl q11.1)] [.inl y12] q11.2 (some (.inl r)) g' := by
          refine ev_runs 2 (202, [some (.inr (.inr 92)), some (.inl c1), some (.inl c2), some (.inl c3), some (.inl c4), some (.inl v5), some (.inl c6), some (.inl c7), none, some (.inl v9), some (.inl q11.1)], [.inl y12], q11.2) (206, [some (.inr (.inr 92)), some (.inl c1), some (.inl c2), some (.inl c3), some (.inl c4), some (.inl v5), some (.inl c6), some (.inl c7), some (.inl y12), some (.inl v9), some (.inl q11.1)], [.inl v5], q11.2) rfl ?_
          by_cases hc : v5 = 0
          · rw [if_pos hc] at h
            refine es (241, [some (.inr (.inr 92)), some (.inl c1), some (.inl c2), some (.inl c3), some (.inl c4), some (.inl v5), some (.inl c6), some (.inl c7), some (.inl y12), some (.inl v9), some (.inl q11.1)], [], q11.2) (congrArg some (if_pos hc)) ?_
            refine ev_runs 4 (241, [some (.inr (.inr 92)), some (.inl c1), some (.inl c2), some (.inl c3), some (.inl c4), some (.inl v5), some (.inl c6), some (.inl c7), some (.inl y12), some (.inl v9), some (.inl q11.1)], [], q11.2) (144, [some (.inr (.inr 92)), some (.inl c1), some (.inl c2), some (.inl c3), some (.inl c4), some (.inl 0), some (.inl c6), some (.inl c7), some (.inl y12), some (.inl (wr (v9 + 1))), some (.inl q11.1)], [], q11.2) rfl ?_
            exact ev_le (L := [some (.inr (.inr 92)), some (.inl c1), some (.inl c2), some (.inl c3), some (.inl c4), some (.inl 0), some (.inl c6), some (.inl c7), some (.inl y12), some (.inl (wr (v9 + 1))), none]) (by simp [Lle]) (ih144 0 y12 (wr (v9 + 1)) q11.2 r g' h)
          · rw [if_neg hc] at h
            refine es (209, [some (.inr (.inr 92)), some (.inl c1), some (.inl c2), some (.inl c3), some (.inl c4), some (.inl v5), some (.inl c6), some (.inl c7), some (.inl y12), some (.inl v9), some (.inl q11.1)], [], q11.2) (congrArg some (if_neg hc)) ?_
            refine ev_runs 4 (209, [some (.inr (.inr 92)), some (.inl c1), some (.inl c2), some (.inl c3), some (.inl c4), some (.inl v5), some (.inl c6), some (.inl c7), some (.inl y12), some (.inl v9), some (.inl q11.1)], [], q11.2) (218, [some (.inr (.inr 92)), some (.inl c1), some (.inl c2), some (.inl c3), some (.inl c4), some (.inl v5), some (.inl c6), some (.inl c7), some (.inl y12), some (.inl v9), some (.inl q11.1)], [.inr (.inl 19999), .inr (.inl 10000), .inr (.inl q11.1)], q11.2) rfl ?_
            refine ec 4 221 [.inr (.inl q11.1), .inr (.inl 10000), .inr (.inl 19999)] [] rfl (ev_Md_in q11.1 10000 19999 q11.2 _ rfl) ?_
            show Ev 195 221 [some (.inr (.inr 92)), some (.inl c1), some (.inl c2), some (.inl c3), some (.inl c4), some (.inl v5), some (.inl c6), some (.inl c7), some (.inl y12), some (.inl v9), some (.inl q11.1)] [.inl (Md_in q11.1 10000 19999)] q11.2 _ _
            by_cases hc : (Md_in q11.1 10000 19999) = 0
            · rw [if_pos hc] at h
              refine es (237, [some (.inr (.inr 92)), some (.inl c1), some (.inl c2), some (.inl c3), some (.inl c4), some (.inl v5), some (.inl c6), some (.inl c7), some (.inl y12), some (.inl v9), some (.inl q11.1)], [], q11.2) (congrArg some (if_pos hc)) ?_
              refine ev_runs 5 (237, [some (.inr (.inr 92)), some (.inl c1), some (.inl c2), some (.inl c3), some (.inl c4), some (.inl v5), some (.inl c6), some (.inl c7), some (.inl y12), some (.inl v9), some (.inl q11.1)], [], q11.2) (144, [some (.inr (.inr 92)), some (.inl c1), some (.inl c2), some (.inl c3), some (.inl c4), some (.inl 1), some (.inl c6), some (.inl c7), some (.inl y12), some (.inl (wr (v9 + 1))), some (.inl q11.1)], [], q11.2) rfl ?_
              exact ev_le (L := [some (.inr (.inr 92)), some (.inl c1), some (.inl c2), some (.inl c3), some (.inl c4), some (.inl 1), some (.inl c6), some (.inl c7), some (.inl y12), some (.inl (wr (v9 + 1))), none]) (by simp [Lle]) (ih144 1 y12 (wr (v9 + 1)) q11.2 r g' h)
            · rw [if_neg hc] at h
              refine es (224, [some (.inr (.inr 92)), some (.inl c1), some (.inl c2), some (.inl c3), some (.inl c4), some (.inl v5), some (.inl c6), some (.inl c7), some (.inl y12), some (.inl v9), some (.inl q11.1)], [], q11.2) (congrArg some (if_neg hc)) ?_
              refine ev_runs 5 (224, [some (.inr (.inr 92)), some (.inl c1), some (.inl c2), some (.inl c3), some (.inl c4), some (.inl v5), some (.inl c6), some (.inl c7), some (.inl y12), some (.inl v9), some (.inl q11.1)], [], q11.2) (231, [some (.inr (.inr 92)), some (.inl c1), some (.inl c2), some (.inl c3), some (.inl c4), some (.inl v5), some (.inl c6), some (.inl c7), some (.inl y12), some (.inl v9), some (.inl q11.1)], [.inl q11.1, .inl c4, .inl c2, .inl c1, .inr (.inr 92)], q11.2) rfl ?_
              obtain ⟨q13, hq, h⟩ := Option.bind_eq_some_iff.mp h
              refine ec 194 234 [.inr (.inr 92), .inl c1, .inl c2, .inl c4, .inl q11.1] [] rfl (ev_Md_looksCan c1 c2 c4 q11.1 q11.2 q13.1 q13.2 hq) ?_
              show Ev 195 234 [some (.inr (.inr 92)), some (.inl c1), some (.inl c2), some (.inl c3), some (.inl c4), some (.inl v5), some (.inl c6), some (.inl c7), some (.inl y12), some (.inl v9), some (.inl q11.1)] [.inl q13.1] q13.2 _ _
              by_cases hc : q13.1 = 0
              · rw [if_pos hc] at h
                refine es (241, [some (.inr (.inr 92)), some (.inl c1), some (.inl c2), some (.inl c3), some (.inl c4), some (.inl v5), some (.inl c6), some (.inl c7), some (.inl y12), some (.inl v9), some (.inl q11.1)], [], q13.2) (congrArg some (if_pos hc)) ?_
                refine ev_runs 4 (241, [some (.inr (.inr 92)), some (.inl c1), some (.inl c2), some (.inl c3), some (.inl c4), some (.inl v5), some (.inl c6), some (.inl c7), some (.inl y12), some (.inl v9), some (.inl q11.1)], [], q13.2) (144, [some (.inr (.inr 92)), some (.inl c1), some (.inl c2), some (.inl c3), some (.inl c4), some (.inl 0), some (.inl c6), some (.inl c7), some (.inl y12), some (.inl (wr (v9 + 1))), some (.inl q11.1)], [], q13.2) rfl ?_
                exact ev_le (L := [some (.inr (.inr 92)), some (.inl c1), some (.inl c2), some (.inl c3), some (.inl c4), some (.inl 0), some (.inl c6), some (.inl c7), some (.inl y12), some (.inl (wr (v9 + 1))), none]) (by simp [Lle]) (ih144 0 y12 (wr (v9 + 1)) q13.2 r g' h)
              · rw [if_neg hc] at h
                refine es (237, [some (.inr (.inr 92)), some (.inl c1), some (.inl c2), some (.inl c3), some (.inl c4), some (.inl v5), some (.inl c6), some (.inl c7), some (.inl y12), some (.inl v9), some (.inl q11.1)], [], q13.2) (congrArg some (if_neg hc)) ?_
                refine ev_runs 5 (237, [some (.inr (.inr 92)), some (.inl c1), some (.inl c2), some (.inl c3), some (.inl c4), some (.inl v5), some (.inl c6), some (.inl c7), some (.inl y12), some (.inl v9), some (.inl q11.1)], [], q13.2) (144, [some (.inr (.inr 92)), some (.inl c1), some (.inl c2), some (.inl c3), some (.inl c4), some (.inl 1), some (.inl c6), some (.inl c7), some (.inl y12), some (.inl (wr (v9 + 1))), some (.inl q11.1)], [], q13.2) rfl ?_
                exact ev_le (L := [some (.inr (.inr 92)), some (.inl c1), some (.inl c2), some (.inl c3), some (.inl c4), some (.inl 1), some (.inl c6), some (.inl c7), some (.inl y12), some (.inl (wr (v9 + 1))), none]) (by simp [Lle]) (ih144 1 y12 (wr (v9 + 1)) q13.2 r g' h)
        by_cases hc : ¬ v8 = 0
        · rw [if_pos hc] at hy12
          refine es (197, [some (.inr (.inr 92)), some (.inl c1), some (.inl c2), some (.inl c3), some (.inl c4), some (.inl v5), some (.inl c6), some (.inl c7), some (.inl v8), some (.inl v9), some (.inl q11.1)], [], q11.2) (congrArg some (if_pos hc)) ?_
          refine ev_runs 2 (197, [some (.inr (.inr 92)), some (.inl c1), some (.inl c2), some (.inl c3), some (.inl c4), some (.inl v5), some (.inl c6), some (.inl c7), some (.inl v8), some (.inl v9), some (.inl q11.1)], [], q11.2) (202, [some (.inr (.inr 92)), some (.inl c1), some (.inl c2), some (.inl c3), some (.inl c4), some (.inl v5), some (.inl c6), some (.inl c7), some (.inl v8), some (.inl v9), some (.inl q11.1)], [.inl 1], q11.2) rfl ?_
          rw [hy12] at hjy12
          exact ev_le (L := [some (.inr (.inr 92)), some (.inl c1), some (.inl c2), some (.inl c3), some (.inl c4), some (.inl v5), some (.inl c6), some (.inl c7), none, some (.inl v9), some (.inl q11.1)]) (by simp [Lle]) hjy12
        · rw [if_neg hc] at hy12
          refine es (182, [some (.inr (.inr 92)), some (.inl c1), some (.inl c2), some (.inl c3), some (.inl c4), some (.inl v5), some (.inl c6), some (.inl c7), some (.inl v8), some (.inl v9), some (.inl q11.1)], [], q11.2) (congrArg some (if_neg hc)) ?_
          refine ev_runs 4 (182, [some (.inr (.inr 92)), some (.inl c1), some (.inl c2), some (.inl c3), some (.inl c4), some (.inl v5), some (.inl c6), some (.inl c7), some (.inl v8), some (.inl v9), some (.inl q11.1)], [], q11.2) (191, [some (.inr (.inr 92)), some (.inl c1), some (.inl c2), some (.inl c3), some (.inl c4), some (.inl v5), some (.inl c6), some (.inl c7), some (.inl v8), some (.inl v9), some (.inl q11.1)], [.inr (.inl 19999), .inr (.inl 10000), .inr (.inl q11.1)], q11.2) rfl ?_
          refine ec 4 194 [.inr (.inl q11.1), .inr (.inl 10000), .inr (.inl 19999)] [] rfl (ev_Md_in q11.1 10000 19999 q11.2 _ rfl) ?_
          show Ev 195 194 [some (.inr (.inr 92)), some (.inl c1), some (.inl c2), some (.inl c3), some (.inl c4), some (.inl v5), some (.inl c6), some (.inl c7), some (.inl v8), some (.inl v9), some (.inl q11.1)] [.inl (Md_in q11.1 10000 19999)] q11.2 _ _
          by_cases hc : (Md_in q11.1 10000 19999) = 0
          · rw [if_pos hc] at hy12
            refine es (201, [some (.inr (.inr 92)), some (.inl c1), some (.inl c2), some (.inl c3), some (.inl c4), some (.inl v5), some (.inl c6), some (.inl c7), some (.inl v8), some (.inl v9), some (.inl q11.1)], [], q11.2) (congrArg some (if_pos hc)) ?_
            refine ev_runs 1 (201, [some (.inr (.inr 92)), some (.inl c1), some (.inl c2), some (.inl c3), some (.inl c4), some (.inl v5), some (.inl c6), some (.inl c7), some (.inl v8), some (.inl v9), some (.inl q11.1)], [], q11.2) (202, [some (.inr (.inr 92)), some (.inl c1), some (.inl c2), some (.inl c3), some (.inl c4), some (.inl v5), some (.inl c6), some (.inl c7), some (.inl v8), some (.inl v9), some (.inl q11.1)], [.inl 0], q11.2) rfl ?_
            rw [hy12] at hjy12
            exact ev_le (L := [some (.inr (.inr 92)), some (.inl c1), some (.inl c2), some (.inl c3), some (.inl c4), some (.inl v5), some (.inl c6), some (.inl c7), none, some (.inl v9), some (.inl q11.1)]) (by simp [Lle]) hjy12
          · rw [if_neg hc] at hy12
            refine es (197, [some (.inr (.inr 92)), some (.inl c1), some (.inl c2), some (.inl c3), some (.inl c4), some (.inl v5), some (.inl c6), some (.inl c7), some (.inl v8), some (.inl v9), some (.inl q11.1)], [], q11.2) (congrArg some (if_neg hc)) ?_
            refine ev_runs 2 (197, [some (.inr (.inr 92)), some (.inl c1), some (.inl c2), some (.inl c3), some (.inl c4), some (.inl v5), some (.inl c6), some (.inl c7), some (.inl v8), some (.inl v9), some (.inl q11.1)], [], q11.2) (202, [some (.inr (.inr 92)), some (.inl c1), some (.inl c2), some (.inl c3), some (.inl c4), some (.inl v5), some (.inl c6), some (.inl c7), some (.inl v8), some (.inl v9), some (.inl q11.1)], [.inl 1], q11.2) rfl ?_
            rw [hy12] at hjy12
            exact ev_le (L := [some (.inr (.inr 92)), some (.inl c1), some (.inl c2), some (.inl c3), some (.inl c4), some (.inl v5), some (.inl c6), some (.inl c7), none, some (.inl v9), some (.inl q11.1)]) (by simp [Lle]) hjy12
set_option maxRecDepth 100000 in
set_option maxHeartbeats 4000000 in
theorem ev_Md_fitsAt (a1 a2 a3 a4 : Int) (g : Gx) (r : Int) (g' : Gx) (h : Md_fitsAt a1 a2 a3 a4 g = some (r, g')) : Ev 195 0 [some (.inr (.inr 92)), some (.inl a1), some (.inl a2), some (.inl a3), some (.inl a4), none, none, none, none, none, none] [] g (some (.inl r)) g' := by
  rw [Md_fitsAt] at h
  refine ev_runs 8 (0, [some (.inr (.inr 92)), some (.inl a1), some (.inl a2), some (.inl a3), some (.inl a4), none, none, none, none, none, none], [], g) (12, [some (.inr (.inr 92)), some (.inl a1), some (.inl a2), some (.inl a3), some (.inl a4), some (.inl 1), some (.inl 0), some (.inl 0), some (.inl 0), none, none], [], g) rfl ?_
  refine ev_le (L := [some (.inr (.inr 92)), some (.inl a1), some (.inl a2), some (.inl a3), some (.inl a4), some (.inl 1), some (.inl 0), some (.inl 0), some (.inl 0), none, none]) (by simp [Lle]) ?_
  refine ev_Md_fitsAt_l12 a1 a2 a3 a4 _ ?_ fu 1 0 0 0 g r g' h
  · intro x6 x7 x8 g9 r g' h
    refine ev_runs 4 (138, [some (.inr (.inr 92)), some (.inl a1), some (.inl a2), some (.inl a3), some (.inl a4), some (.inl x6), some (.inl x7), some (.inl x8), none, none, none], [], g9) (144, [some (.inr (.inr 92)), some (.inl a1), some (.inl a2), some (.inl a3), some (.inl a4), some (.inl x6), some (.inl x7), some (.inl x8), some (.inl 0), some (.inl 0), none], [], g9) rfl ?_
    refine ev_le (L := [some (.inr (.inr 92)), some (.inl a1), some (.inl a2), some (.inl a3), some (.inl a4), some (.inl x6), some (.inl x7), some (.inl x8), some (.inl 0), some (.inl 0), none]) (by simp [Lle]) ?_
    refine ev_Md_fitsAt_l144 a1 a2 a3 a4 x7 x8 _ ?_ fu x6 0 0 g9 r g' h
    · intro x14 x15 g16 r g' h
      refine ev_runs 1 (250, [none, none, none, none, none, some (.inl x14), some (.inl x7), some (.inl x8), some (.inl x15), none, none], [], g16) (252, [none, none, none, none, none, some (.inl x14), some (.inl x7), some (.inl x8), some (.inl x15), none, none], [.inl x14], g16) rfl ?_
      by_cases hc : x14 = 0
      · rw [if_pos hc] at h
        refine es (274, [none, none, none, none, none, some (.inl x14), some (.inl x7), some (.inl x8), some (.inl x15), none, none], [], g16) (congrArg some (if_pos hc)) ?_
        refine ev_runs 1 (274, [none, none, none, none, none, some (.inl x14), some (.inl x7), some (.inl x8), some (.inl x15), none, none], [], g16) (275, [none, none, none, none, none, some (.inl x14), some (.inl x7), some (.inl x8), some (.inl x15), none, none], [.inl 0], g16) rfl ?_
        cases h
        exact er rfl
      · rw [if_neg hc] at h
        refine es (255, [none, none, none, none, none, some (.inl x14), some (.inl x7), some (.inl x8), some (.inl x15), none, none], [], g16) (congrArg some (if_neg hc)) ?_
        refine ev_runs 1 (255, [none, none, none, none, none, some (.inl x14), some (.inl x7), some (.inl x8), some (.inl x15), none, none], [], g16) (257, [none, none, none, none, none, some (.inl x14), some (.inl x7), some (.inl x8), some (.inl x15), none, none], [.inl x7], g16) rfl ?_
        by_cases hc : x7 = 0
        · rw [if_pos hc] at h
          refine es (270, [none, none, none, none, none, some (.inl x14), some (.inl x7), some (.inl x8), some (.inl x15), none, none], [], g16) (congrArg some (if_pos hc)) ?_
          refine ev_runs 2 (270, [none, none, none, none, none, some (.inl x14), some (.inl x7), some (.inl x8), some (.inl x15), none, none], [], g16) (275, [none, none, none, none, none, some (.inl x14), some (.inl x7), some (.inl x8), some (.inl x15), none, none], [.inl 1], g16) rfl ?_
          cases h
          exact er rfl
        · rw [if_neg hc] at h
          refine es (260, [none, none, none, none, none, some (.inl x14), some (.inl x7), some (.inl x8), some (.inl x15), none, none], [], g16) (congrArg some (if_neg hc)) ?_
          refine ev_runs 1 (260, [none, none, none, none, none, some (.inl x14), some (.inl x7), some (.inl x8), some (.inl x15), none, none], [], g16) (262, [none, none, none, none, none, some (.inl x14), some (.inl x7), some (.inl x8), some (.inl x15), none, none], [.inl x8], g16) rfl ?_
          by_cases hc : ¬ x8 = 0
          · rw [if_pos hc] at h
            refine es (270, [none, none, none, none, none, some (.inl x14), some (.inl x7), some (.inl x8), some (.inl x15), none, none], [], g16) (congrArg some (if_pos hc)) ?_
            refine ev_runs 2 (270, [none, none, none, none, none, some (.inl x14), some (.inl x7), some (.inl x8), some (.inl x15), none, none], [], g16) (275, [none, none, none, none, none, some (.inl x14), some (.inl x7), some (.inl x8), some (.inl x15), none, none], [.inl 1], g16) rfl ?_
            cases h
            exact er rfl
          · rw [if_neg hc] at h
            refine es (265, [none, none, none, none, none, some (.inl x14), some (.inl x7), some (.inl x8), some (.inl x15), none, none], [], g16) (congrArg some (if_neg hc)) ?_
            refine ev_runs 1 (265, [none, none, none, none, none, some (.inl x14), some (.inl x7), some (.inl x8), some (.inl x15), none, none], [], g16) (267, [none, none, none, none, none, some (.inl x14), some (.inl x7), some (.inl x8), some (.inl x15), none, none], [.inl x15], g16) rfl ?_
            by_cases hc : x15 = 0
            · rw [if_pos hc] at h
              refine es (274, [none, none, none, none, none, some (.inl x14), some (.inl x7), some (.inl x8), some (.inl x15), none, none], [], g16) (congrArg some (if_pos hc)) ?_
              refine ev_runs 1 (274, [none, none, none, none, none, some (.inl x14), some (.inl x7), some (.inl x8), some (.inl x15), none, none], [], g16) (275, [none, none, none, none, none, some (.inl x14), some (.inl x7), some (.inl x8), some (.inl x15), none, none], [.inl 0], g16) rfl ?_
              cases h
              exact er rfl
            · rw [if_neg hc] at h
              refine es (270, [none, none, none, none, none, some (.inl x14), some (.inl x7), some (.inl x8), some (.inl x15), none, none], [], g16) (congrArg some (if_neg hc)) ?_
              refine ev_runs 2 (270, [none, none, none, none, none, some (.inl x14), some (.inl x7), some (.inl x8), some (.inl x15), none, none], [], g16) (275, [none, none, none, none, none, some (.inl x14), some (.inl x7), some (.inl x8), some (.inl x15), none, none], [.inl 1], g16) rfl ?_
              cases h
              exact er rfl
