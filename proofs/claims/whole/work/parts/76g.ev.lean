/-! The small machine does what the functions say. Printed by wip/gen/gen_parts.py. -/
set_option maxRecDepth 100000 in
set_option maxHeartbeats 4000000 in
theorem ev_Rn_goes (a0 a1 a2 : Int) (g : Gx) (r : Int) (h : Rn_goes a0 a1 a2 = r) : Ev 157 0 [some (.inl a0), some (.inl a1), some (.inl a2)] [] g (some (.inl r)) g := by
  rw [Rn_goes] at h
  refine ev_runs 1 (0, [some (.inl a0), some (.inl a1), some (.inl a2)], [], g) (1, [some (.inl a0), some (.inl a1), some (.inl a2)], [.inl a0], g) rfl ?_
  refine ec 92 4 [.inl a0] [] rfl (ev_Op_sayer a0 g _ rfl) ?_
  show Ev 157 4 [some (.inl a0), some (.inl a1), some (.inl a2)] [.inl (Op_sayer a0)] g _ _
  refine ev_runs 1 (4, [some (.inl a0), some (.inl a1), some (.inl a2)], [.inl (Op_sayer a0)], g) (5, [some (.inl a0), some (.inl a1), some (.inl a2)], [.inl a1, .inl (Op_sayer a0)], g) rfl ?_
  by_cases hc : ¬ (Op_sayer a0) = a1
  · rw [if_pos hc] at h
    refine es (20, [some (.inl a0), some (.inl a1), some (.inl a2)], [], g) (congrArg some (if_pos hc)) ?_
    refine ev_runs 1 (20, [some (.inl a0), some (.inl a1), some (.inl a2)], [], g) (21, [some (.inl a0), some (.inl a1), some (.inl a2)], [.inl 0], g) rfl ?_
    subst h
    exact er rfl
  · rw [if_neg hc] at h
    refine es (8, [some (.inl a0), some (.inl a1), some (.inl a2)], [], g) (congrArg some (if_neg hc)) ?_
    refine ev_runs 1 (8, [some (.inl a0), some (.inl a1), some (.inl a2)], [], g) (9, [some (.inl a0), some (.inl a1), some (.inl a2)], [.inl a0], g) rfl ?_
    refine ec 93 12 [.inl a0] [] rfl (ev_Op_getter a0 g _ rfl) ?_
    show Ev 157 12 [some (.inl a0), some (.inl a1), some (.inl a2)] [.inl (Op_getter a0)] g _ _
    refine ev_runs 1 (12, [some (.inl a0), some (.inl a1), some (.inl a2)], [.inl (Op_getter a0)], g) (13, [some (.inl a0), some (.inl a1), some (.inl a2)], [.inl a2, .inl (Op_getter a0)], g) rfl ?_
    by_cases hc : ¬ (Op_getter a0) = a2
    · rw [if_pos hc] at h
      refine es (20, [some (.inl a0), some (.inl a1), some (.inl a2)], [], g) (congrArg some (if_pos hc)) ?_
      refine ev_runs 1 (20, [some (.inl a0), some (.inl a1), some (.inl a2)], [], g) (21, [some (.inl a0), some (.inl a1), some (.inl a2)], [.inl 0], g) rfl ?_
      subst h
      exact er rfl
    · rw [if_neg hc] at h
      refine es (16, [some (.inl a0), some (.inl a1), some (.inl a2)], [], g) (congrArg some (if_neg hc)) ?_
      refine ev_runs 2 (16, [some (.inl a0), some (.inl a1), some (.inl a2)], [], g) (21, [some (.inl a0), some (.inl a1), some (.inl a2)], [.inl 1], g) rfl ?_
      subst h
      exact er rfl
set_option maxRecDepth 100000 in
set_option maxHeartbeats 4000000 in
theorem ev_Rn_gotAhead_l13 (c1 : Int) (c3 : Int) (c4 : Int) (K13_82 : Int → Gx → Option (Int × Gx)) (hK13_82 : ∀ (x6 : Int) (g : Gx) (r : Int) (g' : Gx), K13_82 x6 g = some (r, g') → Ev 158 82 [none, none, none, none, none, none, some (.inl x6), none, none] [] g (some (.inl r)) g') : ∀ (n13 : Nat) (v5 v6 v7 : Int) (g : Gx) (r : Int) (g' : Gx), Rn_gotAhead_l13 c1 c3 c4 K13_82 n13 v5 v6 v7 g = some (r, g') → Ev 158 13 [some (.inr (.inr 60)), some (.inl c1), none, some (.inl c3), some (.inl c4), some (.inl v5), some (.inl v6), some (.inl v7), none] [] g (some (.inl r)) g' := by
  intro n13
  induction n13 with
  | zero => intro v5 v6 v7 g r g' h; cases h
  | succ n13 ih13 =>
    intro v5 v6 v7 g r g' h
    rw [Rn_gotAhead_l13] at h
    refine ev_runs 1 (13, [some (.inr (.inr 60)), some (.inl c1), none, some (.inl c3), some (.inl c4), some (.inl v5), some (.inl v6), some (.inl v7), none], [], g) (15, [some (.inr (.inr 60)), some (.inl c1), none, some (.inl c3), some (.inl c4), some (.inl v5), some (.inl v6), some (.inl v7), none], [.inl v7], g) rfl ?_
    by_cases hc : v7 < 0
    · rw [if_pos hc] at h
      refine es (82, [some (.inr (.inr 60)), some (.inl c1), none, some (.inl c3), some (.inl c4), some (.inl v5), some (.inl v6), some (.inl v7), none], [], g) (congrArg some (if_pos hc)) ?_
      exact ev_le (L := [none, none, none, none, none, none, some (.inl v6), none, none]) (by simp [Lle]) (hK13_82 v6 g r g' h)
    · rw [if_neg hc] at h
      refine es (18, [some (.inr (.inr 60)), some (.inl c1), none, some (.inl c3), some (.inl c4), some (.inl v5), some (.inl v6), some (.inl v7), none], [], g) (congrArg some (if_neg hc)) ?_
      refine ev_runs 4 (18, [some (.inr (.inr 60)), some (.inl c1), none, some (.inl c3), some (.inl c4), some (.inl v5), some (.inl v6), some (.inl v7), none], [], g) (25, [some (.inr (.inr 60)), some (.inl c1), none, some (.inl c3), some (.inl c4), some (.inl v5), some (.inl v6), some (.inl v7), none], [.inl v7, .inl c1, .inr (.inr 33)], g) rfl ?_
      refine ec 85 28 [.inr (.inr 33), .inl c1, .inl v7] [] rfl (ev_Hi_word c1 v7 g _ rfl) ?_
      show Ev 158 28 [some (.inr (.inr 60)), some (.inl c1), none, some (.inl c3), some (.inl c4), some (.inl v5), some (.inl v6), some (.inl v7), none] [.inl (Hi_word c1 v7 g)] g _ _
      refine ev_runs 3 (28, [some (.inr (.inr 60)), some (.inl c1), none, some (.inl c3), some (.inl c4), some (.inl v5), some (.inl v6), some (.inl v7), none], [.inl (Hi_word c1 v7 g)], g) (34, [some (.inr (.inr 60)), some (.inl c1), none, some (.inl c3), some (.inl c4), some (.inl v5), some (.inl v6), some (.inl v7), some (.inl (Hi_word c1 v7 g))], [.inl (Hi_word c1 v7 g), .inl v5], g) rfl ?_
      refine ec 93 37 [.inl (Hi_word c1 v7 g)] [.inl v5] rfl (ev_Op_getter (Hi_word c1 v7 g) g _ rfl) ?_
      show Ev 158 37 [some (.inr (.inr 60)), some (.inl c1), none, some (.inl c3), some (.inl c4), some (.inl v5), some (.inl v6), some (.inl v7), some (.inl (Hi_word c1 v7 g))] [.inl (Op_getter (Hi_word c1 v7 g)), .inl v5] g _ _
      refine ec 64 40 [.inl v5, .inl (Op_getter (Hi_word c1 v7 g))] [] rfl (ev_Op_has v5 (Op_getter (Hi_word c1 v7 g)) g _ rfl) ?_
      show Ev 158 40 [some (.inr (.inr 60)), some (.inl c1), none, some (.inl c3), some (.inl c4), some (.inl v5), some (.inl v6), some (.inl v7), some (.inl (Hi_word c1 v7 g))] [.inl (Op_has v5 (Op_getter (Hi_word c1 v7 g)))] g _ _
      by_cases hc : (Op_has v5 (Op_getter (Hi_word c1 v7 g))) = 0
      · rw [if_pos hc] at h
        refine es (76, [some (.inr (.inr 60)), some (.inl c1), none, some (.inl c3), some (.inl c4), some (.inl v5), some (.inl v6), some (.inl v7), some (.inl (Hi_word c1 v7 g))], [], g) (congrArg some (if_pos hc)) ?_
        refine ev_runs 2 (76, [some (.inr (.inr 60)), some (.inl c1), none, some (.inl c3), some (.inl c4), some (.inl v5), some (.inl v6), some (.inl v7), some (.inl (Hi_word c1 v7 g))], [], g) (13, [some (.inr (.inr 60)), some (.inl c1), none, some (.inl c3), some (.inl c4), some (.inl v5), some (.inl v6), some (.inl (wr (v7 + (-1)))), some (.inl (Hi_word c1 v7 g))], [], g) rfl ?_
        exact ev_le (L := [some (.inr (.inr 60)), some (.inl c1), none, some (.inl c3), some (.inl c4), some (.inl v5), some (.inl v6), some (.inl (wr (v7 + (-1)))), none]) (by simp [Lle]) (ih13 v5 v6 (wr (v7 + (-1))) g r g' h)
      · rw [if_neg hc] at h
        refine es (43, [some (.inr (.inr 60)), some (.inl c1), none, some (.inl c3), some (.inl c4), some (.inl v5), some (.inl v6), some (.inl v7), some (.inl (Hi_word c1 v7 g))], [], g) (congrArg some (if_neg hc)) ?_
        refine ev_runs 3 (43, [some (.inr (.inr 60)), some (.inl c1), none, some (.inl c3), some (.inl c4), some (.inl v5), some (.inl v6), some (.inl v7), some (.inl (Hi_word c1 v7 g))], [], g) (48, [some (.inr (.inr 60)), some (.inl c1), none, some (.inl c3), some (.inl c4), some (.inl v5), some (.inl v6), some (.inl v7), some (.inl (Hi_word c1 v7 g))], [.inl (Hi_word c1 v7 g), .inl 1, .inl v5], g) rfl ?_
        refine ec 92 51 [.inl (Hi_word c1 v7 g)] [.inl 1, .inl v5] rfl (ev_Op_sayer (Hi_word c1 v7 g) g _ rfl) ?_
        show Ev 158 51 [some (.inr (.inr 60)), some (.inl c1), none, some (.inl c3), some (.inl c4), some (.inl v5), some (.inl v6), some (.inl v7), some (.inl (Hi_word c1 v7 g))] [.inl (Op_sayer (Hi_word c1 v7 g)), .inl 1, .inl v5] g _ _
        refine ev_runs 7 (51, [some (.inr (.inr 60)), some (.inl c1), none, some (.inl c3), some (.inl c4), some (.inl v5), some (.inl v6), some (.inl v7), some (.inl (Hi_word c1 v7 g))], [.inl (Op_sayer (Hi_word c1 v7 g)), .inl 1, .inl v5], g) (62, [some (.inr (.inr 60)), some (.inl c1), none, some (.inl c3), some (.inl c4), some (.inl (jor v5 (jshl 1 (Op_sayer (Hi_word c1 v7 g))))), some (.inl v6), some (.inl v7), some (.inl (Hi_word c1 v7 g))], [.inl c4, .inl c3, .inl (Hi_word c1 v7 g), .inl v6], g) rfl ?_
        refine ec 157 65 [.inl (Hi_word c1 v7 g), .inl c3, .inl c4] [.inl v6] rfl (ev_Rn_goes (Hi_word c1 v7 g) c3 c4 g _ rfl) ?_
        show Ev 158 65 [some (.inr (.inr 60)), some (.inl c1), none, some (.inl c3), some (.inl c4), some (.inl (jor v5 (jshl 1 (Op_sayer (Hi_word c1 v7 g))))), some (.inl v6), some (.inl v7), some (.inl (Hi_word c1 v7 g))] [.inl (Rn_goes (Hi_word c1 v7 g) c3 c4), .inl v6] g _ _
        by_cases hc : (Rn_goes (Hi_word c1 v7 g) c3 c4) = 0
        · rw [if_pos hc] at h
          refine es (72, [some (.inr (.inr 60)), some (.inl c1), none, some (.inl c3), some (.inl c4), some (.inl (jor v5 (jshl 1 (Op_sayer (Hi_word c1 v7 g))))), some (.inl v6), some (.inl v7), some (.inl (Hi_word c1 v7 g))], [.inl v6], g) (congrArg some (if_pos hc)) ?_
          refine ev_runs 5 (72, [some (.inr (.inr 60)), some (.inl c1), none, some (.inl c3), some (.inl c4), some (.inl (jor v5 (jshl 1 (Op_sayer (Hi_word c1 v7 g))))), some (.inl v6), some (.inl v7), some (.inl (Hi_word c1 v7 g))], [.inl v6], g) (13, [some (.inr (.inr 60)), some (.inl c1), none, some (.inl c3), some (.inl c4), some (.inl (jor v5 (jshl 1 (Op_sayer (Hi_word c1 v7 g))))), some (.inl (wr (v6 + 0))), some (.inl (wr (v7 + (-1)))), some (.inl (Hi_word c1 v7 g))], [], g) rfl ?_
          exact ev_le (L := [some (.inr (.inr 60)), some (.inl c1), none, some (.inl c3), some (.inl c4), some (.inl (jor v5 (jshl 1 (Op_sayer (Hi_word c1 v7 g))))), some (.inl (wr (v6 + 0))), some (.inl (wr (v7 + (-1)))), none]) (by simp [Lle]) (ih13 (jor v5 (jshl 1 (Op_sayer (Hi_word c1 v7 g)))) (wr (v6 + 0)) (wr (v7 + (-1))) g r g' h)
        · rw [if_neg hc] at h
          refine es (68, [some (.inr (.inr 60)), some (.inl c1), none, some (.inl c3), some (.inl c4), some (.inl (jor v5 (jshl 1 (Op_sayer (Hi_word c1 v7 g))))), some (.inl v6), some (.inl v7), some (.inl (Hi_word c1 v7 g))], [.inl v6], g) (congrArg some (if_neg hc)) ?_
          refine ev_runs 6 (68, [some (.inr (.inr 60)), some (.inl c1), none, some (.inl c3), some (.inl c4), some (.inl (jor v5 (jshl 1 (Op_sayer (Hi_word c1 v7 g))))), some (.inl v6), some (.inl v7), some (.inl (Hi_word c1 v7 g))], [.inl v6], g) (13, [some (.inr (.inr 60)), some (.inl c1), none, some (.inl c3), some (.inl c4), some (.inl (jor v5 (jshl 1 (Op_sayer (Hi_word c1 v7 g))))), some (.inl (wr (v6 + 1))), some (.inl (wr (v7 + (-1)))), some (.inl (Hi_word c1 v7 g))], [], g) rfl ?_
          exact ev_le (L := [some (.inr (.inr 60)), some (.inl c1), none, some (.inl c3), some (.inl c4), some (.inl (jor v5 (jshl 1 (Op_sayer (Hi_word c1 v7 g))))), some (.inl (wr (v6 + 1))), some (.inl (wr (v7 + (-1)))), none]) (by simp [Lle]) (ih13 (jor v5 (jshl 1 (Op_sayer (Hi_word c1 v7 g)))) (wr (v6 + 1)) (wr (v7 + (-1))) g r g' h)
set_option maxRecDepth 100000 in
set_option maxHeartbeats 4000000 in
theorem ev_Rn_gotAhead (a1 a2 a3 a4 : Int) (g : Gx) (r : Int) (g' : Gx) (h : Rn_gotAhead a1 a2 a3 a4 g = some (r, g')) : Ev 158 0 [some (.inr (.inr 60)), some (.inl a1), some (.inl a2), some (.inl a3), some (.inl a4), none, none, none, none] [] g (some (.inl r)) g' := by
  rw [Rn_gotAhead] at h
  refine ev_runs 10 (0, [some (.inr (.inr 60)), some (.inl a1), some (.inl a2), some (.inl a3), some (.inl a4), none, none, none, none], [], g) (13, [some (.inr (.inr 60)), some (.inl a1), some (.inl a2), some (.inl a3), some (.inl a4), some (.inl (jshl 1 a3)), some (.inl 0), some (.inl (wr (a2 - 1))), none], [], g) rfl ?_
  refine ev_le (L := [some (.inr (.inr 60)), some (.inl a1), none, some (.inl a3), some (.inl a4), some (.inl (jshl 1 a3)), some (.inl 0), some (.inl (wr (a2 - 1))), none]) (by simp [Lle]) ?_
  refine ev_Rn_gotAhead_l13 a1 a3 a4 _ ?_ fu (jshl 1 a3) 0 (wr (a2 - 1)) g r g' h
  · intro x1 g2 r g' h
    refine ev_runs 1 (82, [none, none, none, none, none, none, some (.inl x1), none, none], [], g2) (84, [none, none, none, none, none, none, some (.inl x1), none, none], [.inl x1], g2) rfl ?_
    cases h
    exact er rfl
set_option maxRecDepth 100000 in
set_option maxHeartbeats 4000000 in
theorem ev_Rn_longestEver_l9 (c1 : Int) (c2 : Int) (c3 : Int) (K9_68 : Int → Gx → Option (Int × Gx)) (hK9_68 : ∀ (x4 : Int) (g : Gx) (r : Int) (g' : Gx), K9_68 x4 g = some (r, g') → Ev 159 68 [none, none, none, none, some (.inl x4), none, none] [] g (some (.inl r)) g') : ∀ (n9 : Nat) (v4 v5 v6 : Int) (g : Gx) (r : Int) (g' : Gx), Rn_longestEver_l9 c1 c2 c3 K9_68 n9 v4 v5 v6 g = some (r, g') → Ev 159 9 [some (.inr (.inr 60)), some (.inl c1), some (.inl c2), some (.inl c3), some (.inl v4), some (.inl v5), some (.inl v6)] [] g (some (.inl r)) g' := by
  intro n9
  induction n9 with
  | zero => intro v4 v5 v6 g r g' h; cases h
  | succ n9 ih9 =>
    intro v4 v5 v6 g r g' h
    rw [Rn_longestEver_l9] at h
    refine ev_runs 4 (9, [some (.inr (.inr 60)), some (.inl c1), some (.inl c2), some (.inl c3), some (.inl v4), some (.inl v5), some (.inl v6)], [], g) (16, [some (.inr (.inr 60)), some (.inl c1), some (.inl c2), some (.inl c3), some (.inl v4), some (.inl v5), some (.inl v6)], [.inl c1, .inr (.inr 33), .inl v6], g) rfl ?_
    refine ec 84 19 [.inr (.inr 33), .inl c1] [.inl v6] rfl (ev_Hi_length c1 g _ rfl) ?_
    show Ev 159 19 [some (.inr (.inr 60)), some (.inl c1), some (.inl c2), some (.inl c3), some (.inl v4), some (.inl v5), some (.inl v6)] [.inl (Hi_length c1 g), .inl v6] g _ _
    by_cases hc : (Hi_length c1 g) ≤ v6
    · rw [if_pos hc] at h
      refine es (68, [some (.inr (.inr 60)), some (.inl c1), some (.inl c2), some (.inl c3), some (.inl v4), some (.inl v5), some (.inl v6)], [], g) (congrArg some (if_pos hc)) ?_
      exact ev_le (L := [none, none, none, none, some (.inl v4), none, none]) (by simp [Lle]) (hK9_68 v4 g r g' h)
    · rw [if_neg hc] at h
      refine es (22, [some (.inr (.inr 60)), some (.inl c1), some (.inl c2), some (.inl c3), some (.inl v4), some (.inl v5), some (.inl v6)], [], g) (congrArg some (if_neg hc)) ?_
      refine ev_runs 4 (22, [some (.inr (.inr 60)), some (.inl c1), some (.inl c2), some (.inl c3), some (.inl v4), some (.inl v5), some (.inl v6)], [], g) (29, [some (.inr (.inr 60)), some (.inl c1), some (.inl c2), some (.inl c3), some (.inl v4), some (.inl v5), some (.inl v6)], [.inl v6, .inl c1, .inr (.inr 33)], g) rfl ?_
      refine ec 85 32 [.inr (.inr 33), .inl c1, .inl v6] [] rfl (ev_Hi_word c1 v6 g _ rfl) ?_
      show Ev 159 32 [some (.inr (.inr 60)), some (.inl c1), some (.inl c2), some (.inl c3), some (.inl v4), some (.inl v5), some (.inl v6)] [.inl (Hi_word c1 v6 g)] g _ _
      refine ev_runs 2 (32, [some (.inr (.inr 60)), some (.inl c1), some (.inl c2), some (.inl c3), some (.inl v4), some (.inl v5), some (.inl v6)], [.inl (Hi_word c1 v6 g)], g) (34, [some (.inr (.inr 60)), some (.inl c1), some (.inl c2), some (.inl c3), some (.inl v4), some (.inl v5), some (.inl v6)], [.inl c3, .inl c2, .inl (Hi_word c1 v6 g)], g) rfl ?_
      refine ec 157 37 [.inl (Hi_word c1 v6 g), .inl c2, .inl c3] [] rfl (ev_Rn_goes (Hi_word c1 v6 g) c2 c3 g _ rfl) ?_
      show Ev 159 37 [some (.inr (.inr 60)), some (.inl c1), some (.inl c2), some (.inl c3), some (.inl v4), some (.inl v5), some (.inl v6)] [.inl (Rn_goes (Hi_word c1 v6 g) c2 c3)] g _ _
      by_cases hc : (Rn_goes (Hi_word c1 v6 g) c2 c3) = 0
      · rw [if_pos hc] at h
        refine es (62, [some (.inr (.inr 60)), some (.inl c1), some (.inl c2), some (.inl c3), some (.inl v4), some (.inl v5), some (.inl v6)], [], g) (congrArg some (if_pos hc)) ?_
        refine ev_runs 2 (62, [some (.inr (.inr 60)), some (.inl c1), some (.inl c2), some (.inl c3), some (.inl v4), some (.inl v5), some (.inl v6)], [], g) (9, [some (.inr (.inr 60)), some (.inl c1), some (.inl c2), some (.inl c3), some (.inl v4), some (.inl v5), some (.inl (wr (v6 + 1)))], [], g) rfl ?_
        exact ev_le (L := [some (.inr (.inr 60)), some (.inl c1), some (.inl c2), some (.inl c3), some (.inl v4), some (.inl v5), some (.inl (wr (v6 + 1)))]) (by simp [Lle]) (ih9 v4 v5 (wr (v6 + 1)) g r g' h)
      · rw [if_neg hc] at h
        refine es (40, [some (.inr (.inr 60)), some (.inl c1), some (.inl c2), some (.inl c3), some (.inl v4), some (.inl v5), some (.inl v6)], [], g) (congrArg some (if_neg hc)) ?_
        refine ev_runs 8 (40, [some (.inr (.inr 60)), some (.inl c1), some (.inl c2), some (.inl c3), some (.inl v4), some (.inl v5), some (.inl v6)], [], g) (53, [some (.inr (.inr 60)), some (.inl c1), some (.inl c2), some (.inl c3), some (.inl v4), some (.inl (wr (v5 + 1))), some (.inl v6)], [.inl c3, .inl c2, .inl v6, .inl c1, .inr (.inr 60), .inl (wr (v5 + 1)), .inl v4], g) rfl ?_
        obtain ⟨q1, hq, h⟩ := Option.bind_eq_some_iff.mp h
        refine ec 158 56 [.inr (.inr 60), .inl c1, .inl v6, .inl c2, .inl c3] [.inl (wr (v5 + 1)), .inl v4] rfl (ev_Rn_gotAhead c1 v6 c2 c3 g q1.1 q1.2 hq) ?_
        show Ev 159 56 [some (.inr (.inr 60)), some (.inl c1), some (.inl c2), some (.inl c3), some (.inl v4), some (.inl (wr (v5 + 1))), some (.inl v6)] [.inl q1.1, .inl (wr (v5 + 1)), .inl v4] q1.2 _ _
        refine ev_runs 5 (56, [some (.inr (.inr 60)), some (.inl c1), some (.inl c2), some (.inl c3), some (.inl v4), some (.inl (wr (v5 + 1))), some (.inl v6)], [.inl q1.1, .inl (wr (v5 + 1)), .inl v4], q1.2) (9, [some (.inr (.inr 60)), some (.inl c1), some (.inl c2), some (.inl c3), some (.inl (imax v4 (wr ((wr (v5 + 1)) - q1.1)))), some (.inl (wr (v5 + 1))), some (.inl (wr (v6 + 1)))], [], q1.2) rfl ?_
        exact ev_le (L := [some (.inr (.inr 60)), some (.inl c1), some (.inl c2), some (.inl c3), some (.inl (imax v4 (wr ((wr (v5 + 1)) - q1.1)))), some (.inl (wr (v5 + 1))), some (.inl (wr (v6 + 1)))]) (by simp [Lle]) (ih9 (imax v4 (wr ((wr (v5 + 1)) - q1.1))) (wr (v5 + 1)) (wr (v6 + 1)) q1.2 r g' h)
set_option maxRecDepth 100000 in
set_option maxHeartbeats 4000000 in
theorem ev_Rn_longestEver (a1 a2 a3 : Int) (g : Gx) (r : Int) (g' : Gx) (h : Rn_longestEver a1 a2 a3 g = some (r, g')) : Ev 159 0 [some (.inr (.inr 60)), some (.inl a1), some (.inl a2), some (.inl a3), none, none, none] [] g (some (.inl r)) g' := by
  rw [Rn_longestEver] at h
  refine ev_runs 6 (0, [some (.inr (.inr 60)), some (.inl a1), some (.inl a2), some (.inl a3), none, none, none], [], g) (9, [some (.inr (.inr 60)), some (.inl a1), some (.inl a2), some (.inl a3), some (.inl 0), some (.inl 0), some (.inl 0)], [], g) rfl ?_
  refine ev_le (L := [some (.inr (.inr 60)), some (.inl a1), some (.inl a2), some (.inl a3), some (.inl 0), some (.inl 0), some (.inl 0)]) (by simp [Lle]) ?_
  refine ev_Rn_longestEver_l9 a1 a2 a3 _ ?_ fu 0 0 0 g r g' h
  · intro x2 g3 r g' h
    refine ev_runs 1 (68, [none, none, none, none, some (.inl x2), none, none], [], g3) (70, [none, none, none, none, some (.inl x2), none, none], [.inl x2], g3) rfl ?_
    cases h
    exact er rfl
set_option maxRecDepth 100000 in
set_option maxHeartbeats 4000000 in
theorem ev_Op_longest (a1 a2 a3 : Int) (g : Gx) (r : Int) (g' : Gx) (h : Op_longest a1 a2 a3 g = some (r, g')) : Ev 160 0 [some (.inr (.inr 0)), some (.inl a1), some (.inl a2), some (.inl a3), none] [] g (some (.inl r)) g' := by
  rw [Op_longest] at h
  refine ev_runs 1 (0, [some (.inr (.inr 0)), some (.inl a1), some (.inl a2), some (.inl a3), none], [], g) (1, [some (.inr (.inr 0)), some (.inl a1), some (.inl a2), some (.inl a3), none], [.inl a1], g) rfl ?_
  refine ec 83 4 [.inl a1] [] rfl (ev_Op_isHistory a1 g _ rfl) ?_
  show Ev 160 4 [some (.inr (.inr 0)), some (.inl a1), some (.inl a2), some (.inl a3), none] [.inl (Op_isHistory a1)] g _ _
  by_cases hc : (Op_isHistory a1) = 0
  · rw [if_pos hc] at h
    refine es (26, [some (.inr (.inr 0)), some (.inl a1), some (.inl a2), some (.inl a3), none], [], g) (congrArg some (if_pos hc)) ?_
    refine ev_runs 1 (26, [some (.inr (.inr 0)), some (.inl a1), some (.inl a2), some (.inl a3), none], [], g) (28, [some (.inr (.inr 0)), some (.inl a1), some (.inl a2), some (.inl a3), none], [.inl (-2)], g) rfl ?_
    cases h
    exact er rfl
  · rw [if_neg hc] at h
    refine es (7, [some (.inr (.inr 0)), some (.inl a1), some (.inl a2), some (.inl a3), none], [], g) (congrArg some (if_neg hc)) ?_
    refine ev_runs 1 (7, [some (.inr (.inr 0)), some (.inl a1), some (.inl a2), some (.inl a3), none], [], g) (8, [some (.inr (.inr 0)), some (.inl a1), some (.inl a2), some (.inl a3), none], [.inl a2], g) rfl ?_
    refine ec 91 11 [.inl a2] [] rfl (ev_Op_isTalker a2 g _ rfl) ?_
    show Ev 160 11 [some (.inr (.inr 0)), some (.inl a1), some (.inl a2), some (.inl a3), none] [.inl (Op_isTalker a2)] g _ _
    by_cases hc : (Op_isTalker a2) = 0
    · rw [if_pos hc] at h
      refine es (26, [some (.inr (.inr 0)), some (.inl a1), some (.inl a2), some (.inl a3), none], [], g) (congrArg some (if_pos hc)) ?_
      refine ev_runs 1 (26, [some (.inr (.inr 0)), some (.inl a1), some (.inl a2), some (.inl a3), none], [], g) (28, [some (.inr (.inr 0)), some (.inl a1), some (.inl a2), some (.inl a3), none], [.inl (-2)], g) rfl ?_
      cases h
      exact er rfl
    · rw [if_neg hc] at h
      refine es (14, [some (.inr (.inr 0)), some (.inl a1), some (.inl a2), some (.inl a3), none], [], g) (congrArg some (if_neg hc)) ?_
      refine ev_runs 1 (14, [some (.inr (.inr 0)), some (.inl a1), some (.inl a2), some (.inl a3), none], [], g) (15, [some (.inr (.inr 0)), some (.inl a1), some (.inl a2), some (.inl a3), none], [.inl a3], g) rfl ?_
      refine ec 91 18 [.inl a3] [] rfl (ev_Op_isTalker a3 g _ rfl) ?_
      show Ev 160 18 [some (.inr (.inr 0)), some (.inl a1), some (.inl a2), some (.inl a3), none] [.inl (Op_isTalker a3)] g _ _
      by_cases hc : (Op_isTalker a3) = 0
      · rw [if_pos hc] at h
        refine es (26, [some (.inr (.inr 0)), some (.inl a1), some (.inl a2), some (.inl a3), none], [], g) (congrArg some (if_pos hc)) ?_
        refine ev_runs 1 (26, [some (.inr (.inr 0)), some (.inl a1), some (.inl a2), some (.inl a3), none], [], g) (28, [some (.inr (.inr 0)), some (.inl a1), some (.inl a2), some (.inl a3), none], [.inl (-2)], g) rfl ?_
        cases h
        exact er rfl
      · rw [if_neg hc] at h
        refine es (21, [some (.inr (.inr 0)), some (.inl a1), some (.inl a2), some (.inl a3), none], [], g) (congrArg some (if_neg hc)) ?_
        refine ev_runs 2 (21, [some (.inr (.inr 0)), some (.inl a1), some (.inl a2), some (.inl a3), none], [], g) (23, [some (.inr (.inr 0)), some (.inl a1), some (.inl a2), some (.inl a3), none], [.inl a3, .inl a2], g) rfl ?_
        by_cases hc : ¬ a2 = a3
        · rw [if_pos hc] at h
          refine es (29, [some (.inr (.inr 0)), some (.inl a1), some (.inl a2), some (.inl a3), none], [], g) (congrArg some (if_pos hc)) ?_
          refine ev_runs 2 (29, [some (.inr (.inr 0)), some (.inl a1), some (.inl a2), some (.inl a3), none], [], g) (31, [some (.inr (.inr 0)), some (.inl a1), some (.inl a2), some (.inl a3), none], [.inl a1, .inr (.inr 0)], g) rfl ?_
          obtain ⟨q1, hq, h⟩ := Option.bind_eq_some_iff.mp h
          refine ec 75 34 [.inr (.inr 0), .inl a1] [] rfl (ev_Op_hindrance a1 g q1.1 q1.2 hq) ?_
          show Ev 160 34 [some (.inr (.inr 0)), some (.inl a1), some (.inl a2), some (.inl a3), none] [.inl q1.1] q1.2 _ _
          refine ev_runs 2 (34, [some (.inr (.inr 0)), some (.inl a1), some (.inl a2), some (.inl a3), none], [.inl q1.1], q1.2) (38, [some (.inr (.inr 0)), some (.inl a1), some (.inl a2), some (.inl a3), some (.inl q1.1)], [.inl q1.1], q1.2) rfl ?_
          by_cases hc : q1.1 = 0
          · rw [if_pos hc] at h
            refine es (46, [some (.inr (.inr 0)), some (.inl a1), some (.inl a2), some (.inl a3), some (.inl q1.1)], [], q1.2) (congrArg some (if_pos hc)) ?_
            refine ev_runs 5 (46, [some (.inr (.inr 0)), some (.inl a1), some (.inl a2), some (.inl a3), some (.inl q1.1)], [], q1.2) (53, [some (.inr (.inr 0)), some (.inl a1), some (.inl a2), some (.inl a3), some (.inl q1.1)], [.inl a3, .inl a2, .inl a1, .inr (.inr 60)], q1.2) rfl ?_
            obtain ⟨q2, hq, h⟩ := Option.bind_eq_some_iff.mp h
            refine ec 159 56 [.inr (.inr 60), .inl a1, .inl a2, .inl a3] [] rfl (ev_Rn_longestEver a1 a2 a3 q1.2 q2.1 q2.2 hq) ?_
            show Ev 160 56 [some (.inr (.inr 0)), some (.inl a1), some (.inl a2), some (.inl a3), some (.inl q1.1)] [.inl q2.1] q2.2 _ _
            cases h
            exact er rfl
          · rw [if_neg hc] at h
            refine es (41, [some (.inr (.inr 0)), some (.inl a1), some (.inl a2), some (.inl a3), some (.inl q1.1)], [], q1.2) (congrArg some (if_neg hc)) ?_
            refine ev_runs 2 (41, [some (.inr (.inr 0)), some (.inl a1), some (.inl a2), some (.inl a3), some (.inl q1.1)], [], q1.2) (56, [some (.inr (.inr 0)), some (.inl a1), some (.inl a2), some (.inl a3), some (.inl q1.1)], [.inl q1.1], q1.2) rfl ?_
            cases h
            exact er rfl
        · rw [if_neg hc] at h
          refine es (26, [some (.inr (.inr 0)), some (.inl a1), some (.inl a2), some (.inl a3), none], [], g) (congrArg some (if_neg hc)) ?_
          refine ev_runs 1 (26, [some (.inr (.inr 0)), some (.inl a1), some (.inl a2), some (.inl a3), none], [], g) (28, [some (.inr (.inr 0)), some (.inl a1), some (.inl a2), some (.inl a3), none], [.inl (-2)], g) rfl ?_
          cases h
          exact er rfl
set_option maxRecDepth 100000 in
set_option maxHeartbeats 4000000 in
theorem ev_Md_findAheads_l28 (c1 : Int) (c2 : Int) (K28_199 : Gx → Option Gx) (hK28_199 : ∀ (g : Gx) (g' : Gx), K28_199 g = some g' → Ev 161 199 [some (.inr (.inr 92)), some (.inl c1), some (.inl c2), none, none, none, none, none, none, none, none] [] g none g') : ∀ (n28 : Nat) (v3 : Int) (g : Gx) (g' : Gx), Md_findAheads_l28 c1 c2 K28_199 n28 v3 g = some g' → Ev 161 28 [some (.inr (.inr 92)), some (.inl c1), some (.inl c2), some (.inl v3), none, none, none, none, none, none, none] [] g none g' := by
  intro n28
  induction n28 with
  | zero => intro v3 g g' h; cases h
  | succ n28 ih28 =>
    intro v3 g g' h
    rw [Md_findAheads_l28] at h
    refine ev_runs 2 (28, [some (.inr (.inr 92)), some (.inl c1), some (.inl c2), some (.inl v3), none, none, none, none, none, none, none], [], g) (30, [some (.inr (.inr 92)), some (.inl c1), some (.inl c2), some (.inl v3), none, none, none, none, none, none, none], [.inl c2, .inl v3], g) rfl ?_
    by_cases hc : c2 ≤ v3
    · rw [if_pos hc] at h
      refine es (199, [some (.inr (.inr 92)), some (.inl c1), some (.inl c2), some (.inl v3), none, none, none, none, none, none, none], [], g) (congrArg some (if_pos hc)) ?_
      exact ev_le (L := [some (.inr (.inr 92)), some (.inl c1), some (.inl c2), none, none, none, none, none, none, none, none]) (by simp [Lle]) (hK28_199 g g' h)
    · rw [if_neg hc] at h
      refine es (33, [some (.inr (.inr 92)), some (.inl c1), some (.inl c2), some (.inl v3), none, none, none, none, none, none, none], [], g) (congrArg some (if_neg hc)) ?_
      refine ev_runs 3 (33, [some (.inr (.inr 92)), some (.inl c1), some (.inl c2), some (.inl v3), none, none, none, none, none, none, none], [], g) (36, [some (.inr (.inr 92)), some (.inl c1), some (.inl c2), some (.inl v3), none, none, none, none, none, none, none], [.inl v3, .inl c1, .inr (.inr 92)], g) rfl ?_
      obtain ⟨q1, hq, h⟩ := Option.bind_eq_some_iff.mp h
      refine ec 89 39 [.inr (.inr 92), .inl c1, .inl v3] [] rfl (ev_Md_code c1 v3 g q1.1 q1.2 hq) ?_
      show Ev 161 39 [some (.inr (.inr 92)), some (.inl c1), some (.inl c2), some (.inl v3), none, none, none, none, none, none, none] [.inl q1.1] q1.2 _ _
      refine ev_runs 4 (39, [some (.inr (.inr 92)), some (.inl c1), some (.inl c2), some (.inl v3), none, none, none, none, none, none, none], [.inl q1.1], q1.2) (46, [some (.inr (.inr 92)), some (.inl c1), some (.inl c2), some (.inl v3), some (.inl q1.1), none, none, none, none, none, none], [.inl v3, .inr (.inr 124)], q1.2) rfl ?_
      by_cases hc : 0 ≤ v3 ∧ v3 < 24
      · rw [if_pos hc] at h
        refine es (47, [some (.inr (.inr 92)), some (.inl c1), some (.inl c2), some (.inl v3), some (.inl q1.1), none, none, none, none, none, none], [.inr (.inl (q1.2 124 v3.toNat))], q1.2) (if_pos hc) ?_
        refine ev_runs 10 (47, [some (.inr (.inr 92)), some (.inl c1), some (.inl c2), some (.inl v3), some (.inl q1.1), none, none, none, none, none, none], [.inr (.inl (q1.2 124 v3.toNat))], q1.2) (60, [some (.inr (.inr 92)), some (.inl c1), some (.inl c2), some (.inl v3), some (.inl q1.1), some (.inr (.inl (mor (q1.2 124 v3.toNat) (mshl 1 (wr (2 * v3)))))), none, none, none, none, none], [.inl v3, .inr (.inr 125)], q1.2) rfl ?_
        by_cases hc : 0 ≤ v3 ∧ v3 < 24
        · rw [if_pos hc] at h
          refine es (61, [some (.inr (.inr 92)), some (.inl c1), some (.inl c2), some (.inl v3), some (.inl q1.1), some (.inr (.inl (mor (q1.2 124 v3.toNat) (mshl 1 (wr (2 * v3)))))), none, none, none, none, none], [.inr (.inl (q1.2 125 v3.toNat))], q1.2) (if_pos hc) ?_
          refine ev_runs 12 (61, [some (.inr (.inr 92)), some (.inl c1), some (.inl c2), some (.inl v3), some (.inl q1.1), some (.inr (.inl (mor (q1.2 124 v3.toNat) (mshl 1 (wr (2 * v3)))))), none, none, none, none, none], [.inr (.inl (q1.2 125 v3.toNat))], q1.2) (74, [some (.inr (.inr 92)), some (.inl c1), some (.inl c2), some (.inl v3), some (.inl q1.1), some (.inr (.inl (mor (q1.2 124 v3.toNat) (mshl 1 (wr (2 * v3)))))), none, some (.inr (.inl (mor (q1.2 125 v3.toNat) (mshl 1 (wr ((wr (2 * v3)) + 1)))))), none, none, none], [.inl c2, .inl c1, .inr (.inr 92)], q1.2) rfl ?_
          obtain ⟨q2, hq, h⟩ := Option.bind_eq_some_iff.mp h
          refine ec 89 77 [.inr (.inr 92), .inl c1, .inl c2] [] rfl (ev_Md_code c1 c2 q1.2 q2.1 q2.2 hq) ?_
          show Ev 161 77 [some (.inr (.inr 92)), some (.inl c1), some (.inl c2), some (.inl v3), some (.inl q1.1), some (.inr (.inl (mor (q1.2 124 v3.toNat) (mshl 1 (wr (2 * v3)))))), none, some (.inr (.inl (mor (q1.2 125 v3.toNat) (mshl 1 (wr ((wr (2 * v3)) + 1)))))), none, none, none] [.inl q2.1] q2.2 _ _
          refine ec 99 80 [.inl q2.1] [] rfl (ev_Md_from q2.1 q2.2 _ rfl) ?_
          show Ev 161 80 [some (.inr (.inr 92)), some (.inl c1), some (.inl c2), some (.inl v3), some (.inl q1.1), some (.inr (.inl (mor (q1.2 124 v3.toNat) (mshl 1 (wr (2 * v3)))))), none, some (.inr (.inl (mor (q1.2 125 v3.toNat) (mshl 1 (wr ((wr (2 * v3)) + 1)))))), none, none, none] [.inl (Md_from q2.1)] q2.2 _ _
          refine ev_runs 4 (80, [some (.inr (.inr 92)), some (.inl c1), some (.inl c2), some (.inl v3), some (.inl q1.1), some (.inr (.inl (mor (q1.2 124 v3.toNat) (mshl 1 (wr (2 * v3)))))), none, some (.inr (.inl (mor (q1.2 125 v3.toNat) (mshl 1 (wr ((wr (2 * v3)) + 1)))))), none, none, none], [.inl (Md_from q2.1)], q2.2) (85, [some (.inr (.inr 92)), some (.inl c1), some (.inl c2), some (.inl v3), some (.inl q1.1), some (.inr (.inl (mor (q1.2 124 v3.toNat) (mshl 1 (wr (2 * v3)))))), none, some (.inr (.inl (mor (q1.2 125 v3.toNat) (mshl 1 (wr ((wr (2 * v3)) + 1)))))), none, some (.inl (Md_from q2.1)), none], [.inl c2, .inl c1, .inr (.inr 92)], q2.2) rfl ?_
          obtain ⟨q3, hq, h⟩ := Option.bind_eq_some_iff.mp h
          refine ec 89 88 [.inr (.inr 92), .inl c1, .inl c2] [] rfl (ev_Md_code c1 c2 q2.2 q3.1 q3.2 hq) ?_
          show Ev 161 88 [some (.inr (.inr 92)), some (.inl c1), some (.inl c2), some (.inl v3), some (.inl q1.1), some (.inr (.inl (mor (q1.2 124 v3.toNat) (mshl 1 (wr (2 * v3)))))), none, some (.inr (.inl (mor (q1.2 125 v3.toNat) (mshl 1 (wr ((wr (2 * v3)) + 1)))))), none, some (.inl (Md_from q2.1)), none] [.inl q3.1] q3.2 _ _
          refine ec 100 91 [.inl q3.1] [] rfl (ev_Md_to q3.1 q3.2 _ rfl) ?_
          show Ev 161 91 [some (.inr (.inr 92)), some (.inl c1), some (.inl c2), some (.inl v3), some (.inl q1.1), some (.inr (.inl (mor (q1.2 124 v3.toNat) (mshl 1 (wr (2 * v3)))))), none, some (.inr (.inl (mor (q1.2 125 v3.toNat) (mshl 1 (wr ((wr (2 * v3)) + 1)))))), none, some (.inl (Md_from q2.1)), none] [.inl (Md_to q3.1)] q3.2 _ _
          refine ev_runs 5 (91, [some (.inr (.inr 92)), some (.inl c1), some (.inl c2), some (.inl v3), some (.inl q1.1), some (.inr (.inl (mor (q1.2 124 v3.toNat) (mshl 1 (wr (2 * v3)))))), none, some (.inr (.inl (mor (q1.2 125 v3.toNat) (mshl 1 (wr ((wr (2 * v3)) + 1)))))), none, some (.inl (Md_from q2.1)), none], [.inl (Md_to q3.1)], q3.2) (99, [some (.inr (.inr 92)), some (.inl c1), some (.inl c2), some (.inl v3), some (.inl q1.1), some (.inr (.inl (mor (q1.2 124 v3.toNat) (mshl 1 (wr (2 * v3)))))), none, some (.inr (.inl (mor (q1.2 125 v3.toNat) (mshl 1 (wr ((wr (2 * v3)) + 1)))))), none, some (.inl (Md_from q2.1)), some (.inl (Md_to q3.1))], [.inl c2, .inr (.inr 124), .inl c2, .inr (.inr 124)], q3.2) rfl ?_
          by_cases hc : 0 ≤ c2 ∧ c2 < 24
          · rw [if_pos hc] at h
            refine es (100, [some (.inr (.inr 92)), some (.inl c1), some (.inl c2), some (.inl v3), some (.inl q1.1), some (.inr (.inl (mor (q1.2 124 v3.toNat) (mshl 1 (wr (2 * v3)))))), none, some (.inr (.inl (mor (q1.2 125 v3.toNat) (mshl 1 (wr ((wr (2 * v3)) + 1)))))), none, some (.inl (Md_from q2.1)), some (.inl (Md_to q3.1))], [.inr (.inl (q3.2 124 c2.toNat)), .inl c2, .inr (.inr 124)], q3.2) (if_pos hc) ?_
            refine ev_runs 1 (100, [some (.inr (.inr 92)), some (.inl c1), some (.inl c2), some (.inl v3), some (.inl q1.1), some (.inr (.inl (mor (q1.2 124 v3.toNat) (mshl 1 (wr (2 * v3)))))), none, some (.inr (.inl (mor (q1.2 125 v3.toNat) (mshl 1 (wr ((wr (2 * v3)) + 1)))))), none, some (.inl (Md_from q2.1)), some (.inl (Md_to q3.1))], [.inr (.inl (q3.2 124 c2.toNat)), .inl c2, .inr (.inr 124)], q3.2) (102, [some (.inr (.inr 92)), some (.inl c1), some (.inl c2), some (.inl v3), some (.inl q1.1), some (.inr (.inl (mor (q1.2 124 v3.toNat) (mshl 1 (wr (2 * v3)))))), none, some (.inr (.inl (mor (q1.2 125 v3.toNat) (mshl 1 (wr ((wr (2 * v3)) + 1)))))), none, some (.inl (Md_from q2.1)), some (.inl (Md_to q3.1))], [.inl q1.1, .inr (.inl (q3.2 124 c2.toNat)), .inl c2, .inr (.inr 124)], q3.2) rfl ?_
            refine ec 99 105 [.inl q1.1] [.inr (.inl (q3.2 124 c2.toNat)), .inl c2, .inr (.inr 124)] rfl (ev_Md_from q1.1 q3.2 _ rfl) ?_
            show Ev 161 105 [some (.inr (.inr 92)), some (.inl c1), some (.inl c2), some (.inl v3), some (.inl q1.1), some (.inr (.inl (mor (q1.2 124 v3.toNat) (mshl 1 (wr (2 * v3)))))), none, some (.inr (.inl (mor (q1.2 125 v3.toNat) (mshl 1 (wr ((wr (2 * v3)) + 1)))))), none, some (.inl (Md_from q2.1)), some (.inl (Md_to q3.1))] [.inl (Md_from q1.1), .inr (.inl (q3.2 124 c2.toNat)), .inl c2, .inr (.inr 124)] q3.2 _ _
            refine ev_runs 1 (105, [some (.inr (.inr 92)), some (.inl c1), some (.inl c2), some (.inl v3), some (.inl q1.1), some (.inr (.inl (mor (q1.2 124 v3.toNat) (mshl 1 (wr (2 * v3)))))), none, some (.inr (.inl (mor (q1.2 125 v3.toNat) (mshl 1 (wr ((wr (2 * v3)) + 1)))))), none, some (.inl (Md_from q2.1)), some (.inl (Md_to q3.1))], [.inl (Md_from q1.1), .inr (.inl (q3.2 124 c2.toNat)), .inl c2, .inr (.inr 124)], q3.2) (107, [some (.inr (.inr 92)), some (.inl c1), some (.inl c2), some (.inl v3), some (.inl q1.1), some (.inr (.inl (mor (q1.2 124 v3.toNat) (mshl 1 (wr (2 * v3)))))), none, some (.inr (.inl (mor (q1.2 125 v3.toNat) (mshl 1 (wr ((wr (2 * v3)) + 1)))))), none, some (.inl (Md_from q2.1)), some (.inl (Md_to q3.1))], [.inl (Md_from q2.1), .inl (Md_from q1.1), .inr (.inl (q3.2 124 c2.toNat)), .inl c2, .inr (.inr 124)], q3.2) rfl ?_
            obtain ⟨y4, hy4, h⟩ := lett_inv h
            have hjy4 : Ev 161 116 [some (.inr (.inr 92)), some (.inl c1), some (.inl c2), some (.inl v3), some (.inl q1.1), some (.inr (.inl (mor (q1.2 124 v3.toNat) (mshl 1 (wr (2 * v3)))))), none, some (.inr (.inl (mor (q1.2 125 v3.toNat) (mshl 1 (wr ((wr (2 * v3)) + 1)))))), none, some (.inl (Md_from q2.1)), some (.inl (Md_to q3.1))] [.inr (.inl y4), .inr (.inl (q3.2 124 c2.toNat)), .inl c2, .inr (.inr 124)] q3.2 none g' := by
              refine ev_runs 1 (116, [some (.inr (.inr 92)), some (.inl c1), some (.inl c2), some (.inl v3), some (.inl q1.1), some (.inr (.inl (mor (q1.2 124 v3.toNat) (mshl 1 (wr (2 * v3)))))), none, some (.inr (.inl (mor (q1.2 125 v3.toNat) (mshl 1 (wr ((wr (2 * v3)) + 1)))))), none, some (.inl (Md_from q2.1)), some (.inl (Md_to q3.1))], [.inr (.inl y4), .inr (.inl (q3.2 124 c2.toNat)), .inl c2, .inr (.inr 124)], q3.2) (117, [some (.inr (.inr 92)), some (.inl c1), some (.inl c2), some (.inl v3), some (.inl q1.1), some (.inr (.inl (mor (q1.2 124 v3.toNat) (mshl 1 (wr (2 * v3)))))), none, some (.inr (.inl (mor (q1.2 125 v3.toNat) (mshl 1 (wr ((wr (2 * v3)) + 1)))))), none, some (.inl (Md_from q2.1)), some (.inl (Md_to q3.1))], [.inr (.inl (mor (q3.2 124 c2.toNat) y4)), .inl c2, .inr (.inr 124)], q3.2) rfl ?_
              by_cases hc : 0 ≤ c2 ∧ c2 < 24
              · rw [if_pos hc] at h
                refine es (118, [some (.inr (.inr 92)), some (.inl c1), some (.inl c2), some (.inl v3), some (.inl q1.1), some (.inr (.inl (mor (q1.2 124 v3.toNat) (mshl 1 (wr (2 * v3)))))), none, some (.inr (.inl (mor (q1.2 125 v3.toNat) (mshl 1 (wr ((wr (2 * v3)) + 1)))))), none, some (.inl (Md_from q2.1)), some (.inl (Md_to q3.1))], [], (gset q3.2 124 c2.toNat (mor (q3.2 124 c2.toNat) y4))) (if_pos hc) ?_
                refine ev_runs 4 (118, [some (.inr (.inr 92)), some (.inl c1), some (.inl c2), some (.inl v3), some (.inl q1.1), some (.inr (.inl (mor (q1.2 124 v3.toNat) (mshl 1 (wr (2 * v3)))))), none, some (.inr (.inl (mor (q1.2 125 v3.toNat) (mshl 1 (wr ((wr (2 * v3)) + 1)))))), none, some (.inl (Md_from q2.1)), some (.inl (Md_to q3.1))], [], (gset q3.2 124 c2.toNat (mor (q3.2 124 c2.toNat) y4))) (124, [some (.inr (.inr 92)), some (.inl c1), some (.inl c2), some (.inl v3), some (.inl q1.1), some (.inr (.inl (mor (q1.2 124 v3.toNat) (mshl 1 (wr (2 * v3)))))), none, some (.inr (.inl (mor (q1.2 125 v3.toNat) (mshl 1 (wr ((wr (2 * v3)) + 1)))))), none, some (.inl (Md_from q2.1)), some (.inl (Md_to q3.1))], [.inl c2, .inr (.inr 124), .inl c2, .inr (.inr 124)], (gset q3.2 124 c2.toNat (mor (q3.2 124 c2.toNat) y4))) rfl ?_
                by_cases hc : 0 ≤ c2 ∧ c2 < 24
                · rw [if_pos hc] at h
                  refine es (125, [some (.inr (.inr 92)), some (.inl c1), some (.inl c2), some (.inl v3), some (.inl q1.1), some (.inr (.inl (mor (q1.2 124 v3.toNat) (mshl 1 (wr (2 * v3)))))), none, some (.inr (.inl (mor (q1.2 125 v3.toNat) (mshl 1 (wr ((wr (2 * v3)) + 1)))))), none, some (.inl (Md_from q2.1)), some (.inl (Md_to q3.1))], [.inr (.inl ((gset q3.2 124 c2.toNat (mor (q3.2 124 c2.toNat) y4)) 124 c2.toNat)), .inl c2, .inr (.inr 124)], (gset q3.2 124 c2.toNat (mor (q3.2 124 c2.toNat) y4))) (if_pos hc) ?_
                  refine ev_runs 1 (125, [some (.inr (.inr 92)), some (.inl c1), some (.inl c2), some (.inl v3), some (.inl q1.1), some (.inr (.inl (mor (q1.2 124 v3.toNat) (mshl 1 (wr (2 * v3)))))), none, some (.inr (.inl (mor (q1.2 125 v3.toNat) (mshl 1 (wr ((wr (2 * v3)) + 1)))))), none, some (.inl (Md_from q2.1)), some (.inl (Md_to q3.1))], [.inr (.inl ((gset q3.2 124 c2.toNat (mor (q3.2 124 c2.toNat) y4)) 124 c2.toNat)), .inl c2, .inr (.inr 124)], (gset q3.2 124 c2.toNat (mor (q3.2 124 c2.toNat) y4))) (127, [some (.inr (.inr 92)), some (.inl c1), some (.inl c2), some (.inl v3), some (.inl q1.1), some (.inr (.inl (mor (q1.2 124 v3.toNat) (mshl 1 (wr (2 * v3)))))), none, some (.inr (.inl (mor (q1.2 125 v3.toNat) (mshl 1 (wr ((wr (2 * v3)) + 1)))))), none, some (.inl (Md_from q2.1)), some (.inl (Md_to q3.1))], [.inl q1.1, .inr (.inl ((gset q3.2 124 c2.toNat (mor (q3.2 124 c2.toNat) y4)) 124 c2.toNat)), .inl c2, .inr (.inr 124)], (gset q3.2 124 c2.toNat (mor (q3.2 124 c2.toNat) y4))) rfl ?_
                  refine ec 100 130 [.inl q1.1] [.inr (.inl ((gset q3.2 124 c2.toNat (mor (q3.2 124 c2.toNat) y4)) 124 c2.toNat)), .inl c2, .inr (.inr 124)] rfl (ev_Md_to q1.1 (gset q3.2 124 c2.toNat (mor (q3.2 124 c2.toNat) y4)) _ rfl) ?_
                  show Ev 161 130 [some (.inr (.inr 92)), some (.inl c1), some (.inl c2), some (.inl v3), some (.inl q1.1), some (.inr (.inl (mor (q1.2 124 v3.toNat) (mshl 1 (wr (2 * v3)))))), none, some (.inr (.inl (mor (q1.2 125 v3.toNat) (mshl 1 (wr ((wr (2 * v3)) + 1)))))), none, some (.inl (Md_from q2.1)), some (.inl (Md_to q3.1))] [.inl (Md_to q1.1), .inr (.inl ((gset q3.2 124 c2.toNat (mor (q3.2 124 c2.toNat) y4)) 124 c2.toNat)), .inl c2, .inr (.inr 124)] (gset q3.2 124 c2.toNat (mor (q3.2 124 c2.toNat) y4)) _ _
                  refine ev_runs 1 (130, [some (.inr (.inr 92)), some (.inl c1), some (.inl c2), some (.inl v3), some (.inl q1.1), some (.inr (.inl (mor (q1.2 124 v3.toNat) (mshl 1 (wr (2 * v3)))))), none, some (.inr (.inl (mor (q1.2 125 v3.toNat) (mshl 1 (wr ((wr (2 * v3)) + 1)))))), none, some (.inl (Md_from q2.1)), some (.inl (Md_to q3.1))], [.inl (Md_to q1.1), .inr (.inl ((gset q3.2 124 c2.toNat (mor (q3.2 124 c2.toNat) y4)) 124 c2.toNat)), .inl c2, .inr (.inr 124)], (gset q3.2 124 c2.toNat (mor (q3.2 124 c2.toNat) y4))) (132, [some (.inr (.inr 92)), some (.inl c1), some (.inl c2), some (.inl v3), some (.inl q1.1), some (.inr (.inl (mor (q1.2 124 v3.toNat) (mshl 1 (wr (2 * v3)))))), none, some (.inr (.inl (mor (q1.2 125 v3.toNat) (mshl 1 (wr ((wr (2 * v3)) + 1)))))), none, some (.inl (Md_from q2.1)), some (.inl (Md_to q3.1))], [.inl (Md_from q2.1), .inl (Md_to q1.1), .inr (.inl ((gset q3.2 124 c2.toNat (mor (q3.2 124 c2.toNat) y4)) 124 c2.toNat)), .inl c2, .inr (.inr 124)], (gset q3.2 124 c2.toNat (mor (q3.2 124 c2.toNat) y4))) rfl ?_
                  obtain ⟨y5, hy5, h⟩ := lett_inv h
                  have hjy5 : Ev 161 141 [some (.inr (.inr 92)), some (.inl c1), some (.inl c2), some (.inl v3), some (.inl q1.1), some (.inr (.inl (mor (q1.2 124 v3.toNat) (mshl 1 (wr (2 * v3)))))), none, some (.inr (.inl (mor (q1.2 125 v3.toNat) (mshl 1 (wr ((wr (2 * v3)) + 1)))))), none, none, some (.inl (Md_to q3.1))] [.inr (.inl y5), .inr (.inl ((gset q3.2 124 c2.toNat (mor (q3.2 124 c2.toNat) y4)) 124 c2.toNat)), .inl c2, .inr (.inr 124)] (gset q3.2 124 c2.toNat (mor (q3.2 124 c2.toNat) y4)) none g' := by
                    refine ev_runs 1 (141, [some (.inr (.inr 92)), some (.inl c1), some (.inl c2), some (.inl v3), some (.inl q1.1), some (.inr (.inl (mor (q1.2 124 v3.toNat) (mshl 1 (wr (2 * v3)))))), none, some (.inr (.inl (mor (q1.2 125 v3.toNat) (mshl 1 (wr ((wr (2 * v3)) + 1)))))), none, none, some (.inl (Md_to q3.1))], [.inr (.inl y5), .inr (.inl ((gset q3.2 124 c2.toNat (mor (q3.2 124 c2.toNat) y4)) 124 c2.toNat)), .inl c2, .inr (.inr 124)], (gset q3.2 124 c2.toNat (mor (q3.2 124 c2.toNat) y4))) (142, [some (.inr (.inr 92)), some (.inl c1), some (.inl c2), some (.inl v3), some (.inl q1.1), some (.inr (.inl (mor (q1.2 124 v3.toNat) (mshl 1 (wr (2 * v3)))))), none, some (.inr (.inl (mor (q1.2 125 v3.toNat) (mshl 1 (wr ((wr (2 * v3)) + 1)))))), none, none, some (.inl (Md_to q3.1))], [.inr (.inl (mor ((gset q3.2 124 c2.toNat (mor (q3.2 124 c2.toNat) y4)) 124 c2.toNat) y5)), .inl c2, .inr (.inr 124)], (gset q3.2 124 c2.toNat (mor (q3.2 124 c2.toNat) y4))) rfl ?_
                    by_cases hc : 0 ≤ c2 ∧ c2 < 24
                    · rw [if_pos hc] at h
                      refine es (143, [some (.inr (.inr 92)), some (.inl c1), some (.inl c2), some (.inl v3), some (.inl q1.1), some (.inr (.inl (mor (q1.2 124 v3.toNat) (mshl 1 (wr (2 * v3)))))), none, some (.inr (.inl (mor (q1.2 125 v3.toNat) (mshl 1 (wr ((wr (2 * v3)) + 1)))))), none, none, some (.inl (Md_to q3.1))], [], (gset (gset q3.2 124 c2.toNat (mor (q3.2 124 c2.toNat) y4)) 124 c2.toNat (mor ((gset q3.2 124 c2.toNat (mor (q3.2 124 c2.toNat) y4)) 124 c2.toNat) y5))) (if_pos hc) ?_
                      refine ev_runs 4 (143, [some (.inr (.inr 92)), some (.inl c1), some (.inl c2), some (.inl v3), some (.inl q1.1), some (.inr (.inl (mor (q1.2 124 v3.toNat) (mshl 1 (wr (2 * v3)))))), none, some (.inr (.inl (mor (q1.2 125 v3.toNat) (mshl 1 (wr ((wr (2 * v3)) + 1)))))), none, none, some (.inl (Md_to q3.1))], [], (gset (gset q3.2 124 c2.toNat (mor (q3.2 124 c2.toNat) y4)) 124 c2.toNat (mor ((gset q3.2 124 c2.toNat (mor (q3.2 124 c2.toNat) y4)) 124 c2.toNat) y5))) (149, [some (.inr (.inr 92)), some (.inl c1), some (.inl c2), some (.inl v3), some (.inl q1.1), some (.inr (.inl (mor (q1.2 124 v3.toNat) (mshl 1 (wr (2 * v3)))))), none, some (.inr (.inl (mor (q1.2 125 v3.toNat) (mshl 1 (wr ((wr (2 * v3)) + 1)))))), none, none, some (.inl (Md_to q3.1))], [.inl c2, .inr (.inr 125), .inl c2, .inr (.inr 125)], (gset (gset q3.2 124 c2.toNat (mor (q3.2 124 c2.toNat) y4)) 124 c2.toNat (mor ((gset q3.2 124 c2.toNat (mor (q3.2 124 c2.toNat) y4)) 124 c2.toNat) y5))) rfl ?_
                      by_cases hc : 0 ≤ c2 ∧ c2 < 24
                      · rw [if_pos hc] at h
                        refine es (150, [some (.inr (.inr 92)), some (.inl c1), some (.inl c2), some (.inl v3), some (.inl q1.1), some (.inr (.inl (mor (q1.2 124 v3.toNat) (mshl 1 (wr (2 * v3)))))), none, some (.inr (.inl (mor (q1.2 125 v3.toNat) (mshl 1 (wr ((wr (2 * v3)) + 1)))))), none, none, some (.inl (Md_to q3.1))], [.inr (.inl (q3.2 125 c2.toNat)), .inl c2, .inr (.inr 125)], (gset (gset q3.2 124 c2.toNat (mor (q3.2 124 c2.toNat) y4)) 124 c2.toNat (mor ((gset q3.2 124 c2.toNat (mor (q3.2 124 c2.toNat) y4)) 124 c2.toNat) y5))) (if_pos hc) ?_
                        refine ev_runs 1 (150, [some (.inr (.inr 92)), some (.inl c1), some (.inl c2), some (.inl v3), some (.inl q1.1), some (.inr (.inl (mor (q1.2 124 v3.toNat) (mshl 1 (wr (2 * v3)))))), none, some (.inr (.inl (mor (q1.2 125 v3.toNat) (mshl 1 (wr ((wr (2 * v3)) + 1)))))), none, none, some (.inl (Md_to q3.1))], [.inr (.inl (q3.2 125 c2.toNat)), .inl c2, .inr (.inr 125)], (gset (gset q3.2 124 c2.toNat (mor (q3.2 124 c2.toNat) y4)) 124 c2.toNat (mor ((gset q3.2 124 c2.toNat (mor (q3.2 124 c2.toNat) y4)) 124 c2.toNat) y5))) (152, [some (.inr (.inr 92)), some (.inl c1), some (.inl c2), some (.inl v3), some (.inl q1.1), some (.inr (.inl (mor (q1.2 124 v3.toNat) (mshl 1 (wr (2 * v3)))))), none, some (.inr (.inl (mor (q1.2 125 v3.toNat) (mshl 1 (wr ((wr (2 * v3)) + 1)))))), none, none, some (.inl (Md_to q3.1))], [.inl q1.1, .inr (.inl (q3.2 125 c2.toNat)), .inl c2, .inr (.inr 125)], (gset (gset q3.2 124 c2.toNat (mor (q3.2 124 c2.toNat) y4)) 124 c2.toNat (mor ((gset q3.2 124 c2.toNat (mor (q3.2 124 c2.toNat) y4)) 124 c2.toNat) y5))) rfl ?_
                        refine ec 99 155 [.inl q1.1] [.inr (.inl (q3.2 125 c2.toNat)), .inl c2, .inr (.inr 125)] rfl (ev_Md_from q1.1 (gset (gset q3.2 124 c2.toNat (mor (q3.2 124 c2.toNat) y4)) 124 c2.toNat (mor ((gset q3.2 124 c2.toNat (mor (q3.2 124 c2.toNat) y4)) 124 c2.toNat) y5)) _ rfl) ?_
                        show Ev 161 155 [some (.inr (.inr 92)), some (.inl c1), some (.inl c2), some (.inl v3), some (.inl q1.1), some (.inr (.inl (mor (q1.2 124 v3.toNat) (mshl 1 (wr (2 * v3)))))), none, some (.inr (.inl (mor (q1.2 125 v3.toNat) (mshl 1 (wr ((wr (2 * v3)) + 1)))))), none, none, some (.inl (Md_to q3.1))] [.inl (Md_from q1.1), .inr (.inl (q3.2 125 c2.toNat)), .inl c2, .inr (.inr 125)] (gset (gset q3.2 124 c2.toNat (mor (q3.2 124 c2.toNat) y4)) 124 c2.toNat (mor ((gset q3.2 124 c2.toNat (mor (q3.2 124 c2.toNat) y4)) 124 c2.toNat) y5)) _ _
                        refine ev_runs 1 (155, [some (.inr (.inr 92)), some (.inl c1), some (.inl c2), some (.inl v3), some (.inl q1.1), some (.inr (.inl (mor (q1.2 124 v3.toNat) (mshl 1 (wr (2 * v3)))))), none, some (.inr (.inl (mor (q1.2 125 v3.toNat) (mshl 1 (wr ((wr (2 * v3)) + 1)))))), none, none, some (.inl (Md_to q3.1))], [.inl (Md_from q1.1), .inr (.inl (q3.2 125 c2.toNat)), .inl c2, .inr (.inr 125)], (gset (gset q3.2 124 c2.toNat (mor (q3.2 124 c2.toNat) y4)) 124 c2.toNat (mor ((gset q3.2 124 c2.toNat (mor (q3.2 124 c2.toNat) y4)) 124 c2.toNat) y5))) (157, [some (.inr (.inr 92)), some (.inl c1), some (.inl c2), some (.inl v3), some (.inl q1.1), some (.inr (.inl (mor (q1.2 124 v3.toNat) (mshl 1 (wr (2 * v3)))))), none, some (.inr (.inl (mor (q1.2 125 v3.toNat) (mshl 1 (wr ((wr (2 * v3)) + 1)))))), none, none, some (.inl (Md_to q3.1))], [.inl (Md_to q3.1), .inl (Md_from q1.1), .inr (.inl (q3.2 125 c2.toNat)), .inl c2, .inr (.inr 125)], (gset (gset q3.2 124 c2.toNat (mor (q3.2 124 c2.toNat) y4)) 124 c2.toNat (mor ((gset q3.2 124 c2.toNat (mor (q3.2 124 c2.toNat) y4)) 124 c2.toNat) y5))) rfl ?_
                        obtain ⟨y6, hy6, h⟩ := lett_inv h
                        have hjy6 : Ev 161 166 [some (.inr (.inr 92)), some (.inl c1), some (.inl c2), some (.inl v3), some (.inl q1.1), none, none, some (.inr (.inl (mor (q1.2 125 v3.toNat) (mshl 1 (wr ((wr (2 * v3)) + 1)))))), none, none, some (.inl (Md_to q3.1))] [.inr (.inl y6), .inr (.inl (q3.2 125 c2.toNat)), .inl c2, .inr (.inr 125)] (gset (gset q3.2 124 c2.toNat (mor (q3.2 124 c2.toNat) y4)) 124 c2.toNat (mor ((gset q3.2 124 c2.toNat (mor (q3.2 124 c2.toNat) y4)) 124 c2.toNat) y5)) none g' := by
                          refine ev_runs 1 (166, [some (.inr (.inr 92)), some (.inl c1), some (.inl c2), some (.inl v3), some (.inl q1.1), none, none, some (.inr (.inl (mor (q1.2 125 v3.toNat) (mshl 1 (wr ((wr (2 * v3)) + 1)))))), none, none, some (.inl (Md_to q3.1))], [.inr (.inl y6), .inr (.inl (q3.2 125 c2.toNat)), .inl c2, .inr (.inr 125)], (gset (gset q3.2 124 c2.toNat (mor (q3.2 124 c2.toNat) y4)) 124 c2.toNat (mor ((gset q3.2 124 c2.toNat (mor (q3.2 124 c2.toNat) y4)) 124 c2.toNat) y5))) (167, [some (.inr (.inr 92)), some (.inl c1), some (.inl c2), some (.inl v3), some (.inl q1.1), none, none, some (.inr (.inl (mor (q1.2 125 v3.toNat) (mshl 1 (wr ((wr (2 * v3)) + 1)))))), none, none, some (.inl (Md_to q3.1))], [.inr (.inl (mor (q3.2 125 c2.toNat) y6)), .inl c2, .inr (.inr 125)], (gset (gset q3.2 124 c2.toNat (mor (q3.2 124 c2.toNat) y4)) 124 c2.toNat (mor ((gset q3.2 124 c2.toNat (mor (q3.2 124 c2.toNat) y4)) 124 c2.toNat) y5))) rfl ?_
                          by_cases hc : 0 ≤ c2 ∧ c2 < 24
                          · rw [if_pos hc] at h
                            refine es (168, [some (.inr (.inr 92)), some (.inl c1), some (.inl c2), some (.inl v3), some (.inl q1.1), none, none, some (.inr (.inl (mor (q1.2 125 v3.toNat) (mshl 1 (wr ((wr (2 * v3)) + 1)))))), none, none, some (.inl (Md_to q3.1))], [], (gset (gset (gset q3.2 124 c2.toNat (mor (q3.2 124 c2.toNat) y4)) 124 c2.toNat (mor ((gset q3.2 124 c2.toNat (mor (q3.2 124 c2.toNat) y4)) 124 c2.toNat) y5)) 125 c2.toNat (mor (q3.2 125 c2.toNat) y6))) (if_pos hc) ?_
                            refine ev_runs 4 (168, [some (.inr (.inr 92)), some (.inl c1), some (.inl c2), some (.inl v3), some (.inl q1.1), none, none, some (.inr (.inl (mor (q1.2 125 v3.toNat) (mshl 1 (wr ((wr (2 * v3)) + 1)))))), none, none, some (.inl (Md_to q3.1))], [], (gset (gset (gset q3.2 124 c2.toNat (mor (q3.2 124 c2.toNat) y4)) 124 c2.toNat (mor ((gset q3.2 124 c2.toNat (mor (q3.2 124 c2.toNat) y4)) 124 c2.toNat) y5)) 125 c2.toNat (mor (q3.2 125 c2.toNat) y6))) (174, [some (.inr (.inr 92)), some (.inl c1), some (.inl c2), some (.inl v3), some (.inl q1.1), none, none, some (.inr (.inl (mor (q1.2 125 v3.toNat) (mshl 1 (wr ((wr (2 * v3)) + 1)))))), none, none, some (.inl (Md_to q3.1))], [.inl c2, .inr (.inr 125), .inl c2, .inr (.inr 125)], (gset (gset (gset q3.2 124 c2.toNat (mor (q3.2 124 c2.toNat) y4)) 124 c2.toNat (mor ((gset q3.2 124 c2.toNat (mor (q3.2 124 c2.toNat) y4)) 124 c2.toNat) y5)) 125 c2.toNat (mor (q3.2 125 c2.toNat) y6))) rfl ?_
                            by_cases hc : 0 ≤ c2 ∧ c2 < 24
                            · rw [if_pos hc] at h
                              refine es (175, [some (.inr (.inr 92)), some (.inl c1), some (.inl c2), some (.inl v3), some (.inl q1.1), none, none, some (.inr (.inl (mor (q1.2 125 v3.toNat) (mshl 1 (wr ((wr (2 * v3)) + 1)))))), none, none, some (.inl (Md_to q3.1))], [.inr (.inl ((gset (gset (gset q3.2 124 c2.toNat (mor (q3.2 124 c2.toNat) y4)) 124 c2.toNat (mor ((gset q3.2 124 c2.toNat (mor (q3.2 124 c2.toNat) y4)) 124 c2.toNat) y5)) 125 c2.toNat (mor (q3.2 125 c2.toNat) y6)) 125 c2.toNat)), .inl c2, .inr (.inr 125)], (gset (gset (gset q3.2 124 c2.toNat (mor (q3.2 124 c2.toNat) y4)) 124 c2.toNat (mor ((gset q3.2 124 c2.toNat (mor (q3.2 124 c2.toNat) y4)) 124 c2.toNat) y5)) 125 c2.toNat (mor (q3.2 125 c2.toNat) y6))) (if_pos hc) ?_
                              refine ev_runs 1 (175, [some (.inr (.inr 92)), some (.inl c1), some (.inl c2), some (.inl v3), some (.inl q1.1), none, none, some (.inr (.inl (mor (q1.2 125 v3.toNat) (mshl 1 (wr ((wr (2 * v3)) + 1)))))), none, none, some (.inl (Md_to q3.1))], [.inr (.inl ((gset (gset (gset q3.2 124 c2.toNat (mor (q3.2 124 c2.toNat) y4)) 124 c2.toNat (mor ((gset q3.2 124 c2.toNat (mor (q3.2 124 c2.toNat) y4)) 124 c2.toNat) y5)) 125 c2.toNat (mor (q3.2 125 c2.toNat) y6)) 125 c2.toNat)), .inl c2, .inr (.inr 125)], (gset (gset (gset q3.2 124 c2.toNat (mor (q3.2 124 c2.toNat) y4)) 124 c2.toNat (mor ((gset q3.2 124 c2.toNat (mor (q3.2 124 c2.toNat) y4)) 124 c2.toNat) y5)) 125 c2.toNat (mor (q3.2 125 c2.toNat) y6))) (177, [some (.inr (.inr 92)), some (.inl c1), some (.inl c2), some (.inl v3), some (.inl q1.1), none, none, some (.inr (.inl (mor (q1.2 125 v3.toNat) (mshl 1 (wr ((wr (2 * v3)) + 1)))))), none, none, some (.inl (Md_to q3.1))], [.inl q1.1, .inr (.inl ((gset (gset (gset q3.2 124 c2.toNat (mor (q3.2 124 c2.toNat) y4)) 124 c2.toNat (mor ((gset q3.2 124 c2.toNat (mor (q3.2 124 c2.toNat) y4)) 124 c2.toNat) y5)) 125 c2.toNat (mor (q3.2 125 c2.toNat) y6)) 125 c2.toNat)), .inl c2, .inr (.inr 125)], (gset (gset (gset q3.2 124 c2.toNat (mor (q3.2 124 c2.toNat) y4)) 124 c2.toNat (mor ((gset q3.2 124 c2.toNat (mor (q3.2 124 c2.toNat) y4)) 124 c2.toNat) y5)) 125 c2.toNat (mor (q3.2 125 c2.toNat) y6))) rfl ?_
                              refine ec 100 180 [.inl q1.1] [.inr (.inl ((gset (gset (gset q3.2 124 c2.toNat (mor (q3.2 124 c2.toNat) y4)) 124 c2.toNat (mor ((gset q3.2 124 c2.toNat (mor (q3.2 124 c2.toNat) y4)) 124 c2.toNat) y5)) 125 c2.toNat (mor (q3.2 125 c2.toNat) y6)) 125 c2.toNat)), .inl c2, .inr (.inr 125)] rfl (ev_Md_to q1.1 (gset (gset (gset q3.2 124 c2.toNat (mor (q3.2 124 c2.toNat) y4)) 124 c2.toNat (mor ((gset q3.2 124 c2.toNat (mor (q3.2 124 c2.toNat) y4)) 124 c2.toNat) y5)) 125 c2.toNat (mor (q3.2 125 c2.toNat) y6)) _ rfl) ?_
                              show Ev 161 180 [some (.inr (.inr 92)), some (.inl c1), some (.inl c2), some (.inl v3), some (.inl q1.1), none, none, some (.inr (.inl (mor (q1.2 125 v3.toNat) (mshl 1 (wr ((wr (2 * v3)) + 1)))))), none, none, some (.inl (Md_to q3.1))] [.inl (Md_to q1.1), .inr (.inl ((gset (gset (gset q3.2 124 c2.toNat (mor (q3.2 124 c2.toNat) y4)) 124 c2.toNat (mor ((gset q3.2 124 c2.toNat (mor (q3.2 124 c2.toNat) y4)) 124 c2.toNat) y5)) 125 c2.toNat (mor (q3.2 125 c2.toNat) y6)) 125 c2.toNat)), .inl c2, .inr (.inr 125)] (gset (gset (gset q3.2 124 c2.toNat (mor (q3.2 124 c2.toNat) y4)) 124 c2.toNat (mor ((gset q3.2 124 c2.toNat (mor (q3.2 124 c2.toNat) y4)) 124 c2.toNat) y5)) 125 c2.toNat (mor (q3.2 125 c2.toNat) y6)) _ _
                              refine ev_runs 1 (180, [some (.inr (.inr 92)), some (.inl c1), some (.inl c2), some (.inl v3), some (.inl q1.1), none, none, some (.inr (.inl (mor (q1.2 125 v3.toNat) (mshl 1 (wr ((wr (2 * v3)) + 1)))))), none, none, some (.inl (Md_to q3.1))], [.inl (Md_to q1.1), .inr (.inl ((gset (gset (gset q3.2 124 c2.toNat (mor (q3.2 124 c2.toNat) y4)) 124 c2.toNat (mor ((gset q3.2 124 c2.toNat (mor (q3.2 124 c2.toNat) y4)) 124 c2.toNat) y5)) 125 c2.toNat (mor (q3.2 125 c2.toNat) y6)) 125 c2.toNat)), .inl c2, .inr (.inr 125)], (gset (gset (gset q3.2 124 c2.toNat (mor (q3.2 124 c2.toNat) y4)) 124 c2.toNat (mor ((gset q3.2 124 c2.toNat (mor (q3.2 124 c2.toNat) y4)) 124 c2.toNat) y5)) 125 c2.toNat (mor (q3.2 125 c2.toNat) y6))) (182, [some (.inr (.inr 92)), some (.inl c1), some (.inl c2), some (.inl v3), some (.inl q1.1), none, none, some (.inr (.inl (mor (q1.2 125 v3.toNat) (mshl 1 (wr ((wr (2 * v3)) + 1)))))), none, none, some (.inl (Md_to q3.1))], [.inl (Md_to q3.1), .inl (Md_to q1.1), .inr (.inl ((gset (gset (gset q3.2 124 c2.toNat (mor (q3.2 124 c2.toNat) y4)) 124 c2.toNat (mor ((gset q3.2 124 c2.toNat (mor (q3.2 124 c2.toNat) y4)) 124 c2.toNat) y5)) 125 c2.toNat (mor (q3.2 125 c2.toNat) y6)) 125 c2.toNat)), .inl c2, .inr (.inr 125)], (gset (gset (gset q3.2 124 c2.toNat (mor (q3.2 124 c2.toNat) y4)) 124 c2.toNat (mor ((gset q3.2 124 c2.toNat (mor (q3.2 124 c2.toNat) y4)) 124 c2.toNat) y5)) 125 c2.toNat (mor (q3.2 125 c2.toNat) y6))) rfl ?_
                              by_cases hc : ¬ (Md_to q1.1) = (Md_to q3.1)
                              · rw [if_pos hc] at h
                                refine es (190, [some (.inr (.inr 92)), some (.inl c1), some (.inl c2), some (.inl v3), some (.inl q1.1), none, none, some (.inr (.inl (mor (q1.2 125 v3.toNat) (mshl 1 (wr ((wr (2 * v3)) + 1)))))), none, none, some (.inl (Md_to q3.1))], [.inr (.inl ((gset (gset (gset q3.2 124 c2.toNat (mor (q3.2 124 c2.toNat) y4)) 124 c2.toNat (mor ((gset q3.2 124 c2.toNat (mor (q3.2 124 c2.toNat) y4)) 124 c2.toNat) y5)) 125 c2.toNat (mor (q3.2 125 c2.toNat) y6)) 125 c2.toNat)), .inl c2, .inr (.inr 125)], (gset (gset (gset q3.2 124 c2.toNat (mor (q3.2 124 c2.toNat) y4)) 124 c2.toNat (mor ((gset q3.2 124 c2.toNat (mor (q3.2 124 c2.toNat) y4)) 124 c2.toNat) y5)) 125 c2.toNat (mor (q3.2 125 c2.toNat) y6))) (congrArg some (if_pos hc)) ?_
                                refine ev_runs 2 (190, [some (.inr (.inr 92)), some (.inl c1), some (.inl c2), some (.inl v3), some (.inl q1.1), none, none, some (.inr (.inl (mor (q1.2 125 v3.toNat) (mshl 1 (wr ((wr (2 * v3)) + 1)))))), none, none, some (.inl (Md_to q3.1))], [.inr (.inl ((gset (gset (gset q3.2 124 c2.toNat (mor (q3.2 124 c2.toNat) y4)) 124 c2.toNat (mor ((gset q3.2 124 c2.toNat (mor (q3.2 124 c2.toNat) y4)) 124 c2.toNat) y5)) 125 c2.toNat (mor (q3.2 125 c2.toNat) y6)) 125 c2.toNat)), .inl c2, .inr (.inr 125)], (gset (gset (gset q3.2 124 c2.toNat (mor (q3.2 124 c2.toNat) y4)) 124 c2.toNat (mor ((gset q3.2 124 c2.toNat (mor (q3.2 124 c2.toNat) y4)) 124 c2.toNat) y5)) 125 c2.toNat (mor (q3.2 125 c2.toNat) y6))) (192, [some (.inr (.inr 92)), some (.inl c1), some (.inl c2), some (.inl v3), some (.inl q1.1), none, none, some (.inr (.inl (mor (q1.2 125 v3.toNat) (mshl 1 (wr ((wr (2 * v3)) + 1)))))), none, none, some (.inl (Md_to q3.1))], [.inr (.inl (mor ((gset (gset (gset q3.2 124 c2.toNat (mor (q3.2 124 c2.toNat) y4)) 124 c2.toNat (mor ((gset q3.2 124 c2.toNat (mor (q3.2 124 c2.toNat) y4)) 124 c2.toNat) y5)) 125 c2.toNat (mor (q3.2 125 c2.toNat) y6)) 125 c2.toNat) 0)), .inl c2, .inr (.inr 125)], (gset (gset (gset q3.2 124 c2.toNat (mor (q3.2 124 c2.toNat) y4)) 124 c2.toNat (mor ((gset q3.2 124 c2.toNat (mor (q3.2 124 c2.toNat) y4)) 124 c2.toNat) y5)) 125 c2.toNat (mor (q3.2 125 c2.toNat) y6))) rfl ?_
                                by_cases hc : 0 ≤ c2 ∧ c2 < 24
                                · rw [if_pos hc] at h
                                  refine es (193, [some (.inr (.inr 92)), some (.inl c1), some (.inl c2), some (.inl v3), some (.inl q1.1), none, none, some (.inr (.inl (mor (q1.2 125 v3.toNat) (mshl 1 (wr ((wr (2 * v3)) + 1)))))), none, none, some (.inl (Md_to q3.1))], [], (gset (gset (gset (gset q3.2 124 c2.toNat (mor (q3.2 124 c2.toNat) y4)) 124 c2.toNat (mor ((gset q3.2 124 c2.toNat (mor (q3.2 124 c2.toNat) y4)) 124 c2.toNat) y5)) 125 c2.toNat (mor (q3.2 125 c2.toNat) y6)) 125 c2.toNat (mor ((gset (gset (gset q3.2 124 c2.toNat (mor (q3.2 124 c2.toNat) y4)) 124 c2.toNat (mor ((gset q3.2 124 c2.toNat (mor (q3.2 124 c2.toNat) y4)) 124 c2.toNat) y5)) 125 c2.toNat (mor (q3.2 125 c2.toNat) y6)) 125 c2.toNat) 0))) (if_pos hc) ?_
                                  refine ev_runs 2 (193, [some (.inr (.inr 92)), some (.inl c1), some (.inl c2), some (.inl v3), some (.inl q1.1), none, none, some (.inr (.inl (mor (q1.2 125 v3.toNat) (mshl 1 (wr ((wr (2 * v3)) + 1)))))), none, none, some (.inl (Md_to q3.1))], [], (gset (gset (gset (gset q3.2 124 c2.toNat (mor (q3.2 124 c2.toNat) y4)) 124 c2.toNat (mor ((gset q3.2 124 c2.toNat (mor (q3.2 124 c2.toNat) y4)) 124 c2.toNat) y5)) 125 c2.toNat (mor (q3.2 125 c2.toNat) y6)) 125 c2.toNat (mor ((gset (gset (gset q3.2 124 c2.toNat (mor (q3.2 124 c2.toNat) y4)) 124 c2.toNat (mor ((gset q3.2 124 c2.toNat (mor (q3.2 124 c2.toNat) y4)) 124 c2.toNat) y5)) 125 c2.toNat (mor (q3.2 125 c2.toNat) y6)) 125 c2.toNat) 0))) (28, [some (.inr (.inr 92)), some (.inl c1), some (.inl c2), some (.inl (wr (v3 + 1))), some (.inl q1.1), none, none, some (.inr (.inl (mor (q1.2 125 v3.toNat) (mshl 1 (wr ((wr (2 * v3)) + 1)))))), none, none, some (.inl (Md_to q3.1))], [], (gset (gset (gset (gset q3.2 124 c2.toNat (mor (q3.2 124 c2.toNat) y4)) 124 c2.toNat (mor ((gset q3.2 124 c2.toNat (mor (q3.2 124 c2.toNat) y4)) 124 c2.toNat) y5)) 125 c2.toNat (mor (q3.2 125 c2.toNat) y6)) 125 c2.toNat (mor ((gset (gset (gset q3.2 124 c2.toNat (mor (q3.2 124 c2.toNat) y4)) 124 c2.toNat (mor ((gset q3.2 124 c2.toNat (mor (q3.2 124 c2.toNat) y4)) 124 c2.toNat) y5)) 125 c2.toNat (mor (q3.2 125 c2.toNat) y6)) 125 c2.toNat) 0))) rfl ?_
                                  exact ev_le (L := [some (.inr (.inr 92)), some (.inl c1), some (.inl c2), some (.inl (wr (v3 + 1))), none, none, none, none, none, none, none]) (by simp [Lle]) (ih28 (wr (v3 + 1)) (gset (gset (gset (gset q3.2 124 c2.toNat (mor (q3.2 124 c2.toNat) y4)) 124 c2.toNat (mor ((gset q3.2 124 c2.toNat (mor (q3.2 124 c2.toNat) y4)) 124 c2.toNat) y5)) 125 c2.toNat (mor (q3.2 125 c2.toNat) y6)) 125 c2.toNat (mor ((gset (gset (gset q3.2 124 c2.toNat (mor (q3.2 124 c2.toNat) y4)) 124 c2.toNat (mor ((gset q3.2 124 c2.toNat (mor (q3.2 124 c2.toNat) y4)) 124 c2.toNat) y5)) 125 c2.toNat (mor (q3.2 125 c2.toNat) y6)) 125 c2.toNat) 0)) g' h)
                                · rw [if_neg hc] at h; cases h
                              · rw [if_neg hc] at h
                                refine es (185, [some (.inr (.inr 92)), some (.inl c1), some (.inl c2), some (.inl v3), some (.inl q1.1), none, none, some (.inr (.inl (mor (q1.2 125 v3.toNat) (mshl 1 (wr ((wr (2 * v3)) + 1)))))), none, none, some (.inl (Md_to q3.1))], [.inr (.inl ((gset (gset (gset q3.2 124 c2.toNat (mor (q3.2 124 c2.toNat) y4)) 124 c2.toNat (mor ((gset q3.2 124 c2.toNat (mor (q3.2 124 c2.toNat) y4)) 124 c2.toNat) y5)) 125 c2.toNat (mor (q3.2 125 c2.toNat) y6)) 125 c2.toNat)), .inl c2, .inr (.inr 125)], (gset (gset (gset q3.2 124 c2.toNat (mor (q3.2 124 c2.toNat) y4)) 124 c2.toNat (mor ((gset q3.2 124 c2.toNat (mor (q3.2 124 c2.toNat) y4)) 124 c2.toNat) y5)) 125 c2.toNat (mor (q3.2 125 c2.toNat) y6))) (congrArg some (if_neg hc)) ?_
                                refine ev_runs 3 (185, [some (.inr (.inr 92)), some (.inl c1), some (.inl c2), some (.inl v3), some (.inl q1.1), none, none, some (.inr (.inl (mor (q1.2 125 v3.toNat) (mshl 1 (wr ((wr (2 * v3)) + 1)))))), none, none, some (.inl (Md_to q3.1))], [.inr (.inl ((gset (gset (gset q3.2 124 c2.toNat (mor (q3.2 124 c2.toNat) y4)) 124 c2.toNat (mor ((gset q3.2 124 c2.toNat (mor (q3.2 124 c2.toNat) y4)) 124 c2.toNat) y5)) 125 c2.toNat (mor (q3.2 125 c2.toNat) y6)) 125 c2.toNat)), .inl c2, .inr (.inr 125)], (gset (gset (gset q3.2 124 c2.toNat (mor (q3.2 124 c2.toNat) y4)) 124 c2.toNat (mor ((gset q3.2 124 c2.toNat (mor (q3.2 124 c2.toNat) y4)) 124 c2.toNat) y5)) 125 c2.toNat (mor (q3.2 125 c2.toNat) y6))) (192, [some (.inr (.inr 92)), some (.inl c1), some (.inl c2), some (.inl v3), some (.inl q1.1), none, none, some (.inr (.inl (mor (q1.2 125 v3.toNat) (mshl 1 (wr ((wr (2 * v3)) + 1)))))), none, none, some (.inl (Md_to q3.1))], [.inr (.inl (mor ((gset (gset (gset q3.2 124 c2.toNat (mor (q3.2 124 c2.toNat) y4)) 124 c2.toNat (mor ((gset q3.2 124 c2.toNat (mor (q3.2 124 c2.toNat) y4)) 124 c2.toNat) y5)) 125 c2.toNat (mor (q3.2 125 c2.toNat) y6)) 125 c2.toNat) (mor (q1.2 125 v3.toNat) (mshl 1 (wr ((wr (2 * v3)) + 1)))))), .inl c2, .inr (.inr 125)], (gset (gset (gset q3.2 124 c2.toNat (mor (q3.2 124 c2.toNat) y4)) 124 c2.toNat (mor ((gset q3.2 124 c2.toNat (mor (q3.2 124 c2.toNat) y4)) 124 c2.toNat) y5)) 125 c2.toNat (mor (q3.2 125 c2.toNat) y6))) rfl ?_
                                by_cases hc : 0 ≤ c2 ∧ c2 < 24
                                · rw [if_pos hc] at h
                                  refine es (193, [some (.inr (.inr 92)), some (.inl c1), some (.inl c2), some (.inl v3), some (.inl q1.1), none, none, some (.inr (.inl (mor (q1.2 125 v3.toNat) (mshl 1 (wr ((wr (2 * v3)) + 1)))))), none, none, some (.inl (Md_to q3.1))], [], (gset (gset (gset (gset q3.2 124 c2.toNat (mor (q3.2 124 c2.toNat) y4)) 124 c2.toNat (mor ((gset q3.2 124 c2.toNat (mor (q3.2 124 c2.toNat) y4)) 124 c2.toNat) y5)) 125 c2.toNat (mor (q3.2 125 c2.toNat) y6)) 125 c2.toNat (mor ((gset (gset (gset q3.2 124 c2.toNat (mor (q3.2 124 c2.toNat) y4)) 124 c2.toNat (mor ((gset q3.2 124 c2.toNat (mor (q3.2 124 c2.toNat) y4)) 124 c2.toNat) y5)) 125 c2.toNat (mor (q3.2 125 c2.toNat) y6)) 125 c2.toNat) (mor (q1.2 125 v3.toNat) (mshl 1 (wr ((wr (2 * v3)) + 1))))))) (if_pos hc) ?_
                                  refine ev_runs 2 (193, [some (.inr (.inr 92)), some (.inl c1), some (.inl c2), some (.inl v3), some (.inl q1.1), none, none, some (.inr (.inl (mor (q1.2 125 v3.toNat) (mshl 1 (wr ((wr (2 * v3)) + 1)))))), none, none, some (.inl (Md_to q3.1))], [], (gset (gset (gset (gset q3.2 124 c2.toNat (mor (q3.2 124 c2.toNat) y4)) 124 c2.toNat (mor ((gset q3.2 124 c2.toNat (mor (q3.2 124 c2.toNat) y4)) 124 c2.toNat) y5)) 125 c2.toNat (mor (q3.2 125 c2.toNat) y6)) 125 c2.toNat (mor ((gset (gset (gset q3.2 124 c2.toNat (mor (q3.2 124 c2.toNat) y4)) 124 c2.toNat (mor ((gset q3.2 124 c2.toNat (mor (q3.2 124 c2.toNat) y4)) 124 c2.toNat) y5)) 125 c2.toNat (mor (q3.2 125 c2.toNat) y6)) 125 c2.toNat) (mor (q1.2 125 v3.toNat) (mshl 1 (wr ((wr (2 * v3)) + 1))))))) (28, [some (.inr (.inr 92)), some (.inl c1), some (.inl c2), some (.inl (wr (v3 + 1))), some (.inl q1.1), none, none, some (.inr (.inl (mor (q1.2 125 v3.toNat) (mshl 1 (wr ((wr (2 * v3)) + 1)))))), none, none, some (.inl (Md_to q3.1))], [], (gset (gset (gset (gset q3.2 124 c2.toNat (mor (q3.2 124 c2.toNat) y4)) 124 c2.toNat (mor ((gset q3.2 124 c2.toNat (mor (q3.2 124 c2.toNat) y4)) 124 c2.toNat) y5)) 125 c2.toNat (mor (q3.2 125 c2.toNat) y6)) 125 c2.toNat (mor ((gset (gset (gset q3.2 124 c2.toNat (mor (q3.2 124 c2.toNat) y4)) 124 c2.toNat (mor ((gset q3.2 124 c2.toNat (mor (q3.2 124 c2.toNat) y4)) 124 c2.toNat) y5)) 125 c2.toNat (mor (q3.2 125 c2.toNat) y6)) 125 c2.toNat) (mor (q1.2 125 v3.toNat) (mshl 1 (wr ((wr (2 * v3)) + 1))))))) rfl ?_
                                  exact ev_le (L := [some (.inr (.inr 92)), some (.inl c1), some (.inl c2), some (.inl (wr (v3 + 1))), none, none, none, none, none, none, none]) (by simp [Lle]) (ih28 (wr (v3 + 1)) (gset (gset (gset (gset q3.2 124 c2.toNat (mor (q3.2 124 c2.toNat) y4)) 124 c2.toNat (mor ((gset q3.2 124 c2.toNat (mor (q3.2 124 c2.toNat) y4)) 124 c2.toNat) y5)) 125 c2.toNat (mor (q3.2 125 c2.toNat) y6)) 125 c2.toNat (mor ((gset (gset (gset q3.2 124 c2.toNat (mor (q3.2 124 c2.toNat) y4)) 124 c2.toNat (mor ((gset q3.2 124 c2.toNat (mor (q3.2 124 c2.toNat) y4)) 124 c2.toNat) y5)) 125 c2.toNat (mor (q3.2 125 c2.toNat) y6)) 125 c2.toNat) (mor (q1.2 125 v3.toNat) (mshl 1 (wr ((wr (2 * v3)) + 1)))))) g' h)
                                · rw [if_neg hc] at h; cases h
                            · rw [if_neg hc] at h; cases h
                          · rw [if_neg hc] at h; cases h
                        by_cases hc : ¬ (Md_from q1.1) = (Md_to q3.1)
                        · rw [if_pos hc] at hy6
                          refine es (165, [some (.inr (.inr 92)), some (.inl c1), some (.inl c2), some (.inl v3), some (.inl q1.1), some (.inr (.inl (mor (q1.2 124 v3.toNat) (mshl 1 (wr (2 * v3)))))), none, some (.inr (.inl (mor (q1.2 125 v3.toNat) (mshl 1 (wr ((wr (2 * v3)) + 1)))))), none, none, some (.inl (Md_to q3.1))], [.inr (.inl (q3.2 125 c2.toNat)), .inl c2, .inr (.inr 125)], (gset (gset q3.2 124 c2.toNat (mor (q3.2 124 c2.toNat) y4)) 124 c2.toNat (mor ((gset q3.2 124 c2.toNat (mor (q3.2 124 c2.toNat) y4)) 124 c2.toNat) y5))) (congrArg some (if_pos hc)) ?_
                          refine ev_runs 1 (165, [some (.inr (.inr 92)), some (.inl c1), some (.inl c2), some (.inl v3), some (.inl q1.1), some (.inr (.inl (mor (q1.2 124 v3.toNat) (mshl 1 (wr (2 * v3)))))), none, some (.inr (.inl (mor (q1.2 125 v3.toNat) (mshl 1 (wr ((wr (2 * v3)) + 1)))))), none, none, some (.inl (Md_to q3.1))], [.inr (.inl (q3.2 125 c2.toNat)), .inl c2, .inr (.inr 125)], (gset (gset q3.2 124 c2.toNat (mor (q3.2 124 c2.toNat) y4)) 124 c2.toNat (mor ((gset q3.2 124 c2.toNat (mor (q3.2 124 c2.toNat) y4)) 124 c2.toNat) y5))) (166, [some (.inr (.inr 92)), some (.inl c1), some (.inl c2), some (.inl v3), some (.inl q1.1), some (.inr (.inl (mor (q1.2 124 v3.toNat) (mshl 1 (wr (2 * v3)))))), none, some (.inr (.inl (mor (q1.2 125 v3.toNat) (mshl 1 (wr ((wr (2 * v3)) + 1)))))), none, none, some (.inl (Md_to q3.1))], [.inr (.inl 0), .inr (.inl (q3.2 125 c2.toNat)), .inl c2, .inr (.inr 125)], (gset (gset q3.2 124 c2.toNat (mor (q3.2 124 c2.toNat) y4)) 124 c2.toNat (mor ((gset q3.2 124 c2.toNat (mor (q3.2 124 c2.toNat) y4)) 124 c2.toNat) y5))) rfl ?_
                          rw [hy6] at hjy6
                          exact ev_le (L := [some (.inr (.inr 92)), some (.inl c1), some (.inl c2), some (.inl v3), some (.inl q1.1), none, none, some (.inr (.inl (mor (q1.2 125 v3.toNat) (mshl 1 (wr ((wr (2 * v3)) + 1)))))), none, none, some (.inl (Md_to q3.1))]) (by simp [Lle]) hjy6
                        · rw [if_neg hc] at hy6
                          refine es (160, [some (.inr (.inr 92)), some (.inl c1), some (.inl c2), some (.inl v3), some (.inl q1.1), some (.inr (.inl (mor (q1.2 124 v3.toNat) (mshl 1 (wr (2 * v3)))))), none, some (.inr (.inl (mor (q1.2 125 v3.toNat) (mshl 1 (wr ((wr (2 * v3)) + 1)))))), none, none, some (.inl (Md_to q3.1))], [.inr (.inl (q3.2 125 c2.toNat)), .inl c2, .inr (.inr 125)], (gset (gset q3.2 124 c2.toNat (mor (q3.2 124 c2.toNat) y4)) 124 c2.toNat (mor ((gset q3.2 124 c2.toNat (mor (q3.2 124 c2.toNat) y4)) 124 c2.toNat) y5))) (congrArg some (if_neg hc)) ?_
                          refine ev_runs 2 (160, [some (.inr (.inr 92)), some (.inl c1), some (.inl c2), some (.inl v3), some (.inl q1.1), some (.inr (.inl (mor (q1.2 124 v3.toNat) (mshl 1 (wr (2 * v3)))))), none, some (.inr (.inl (mor (q1.2 125 v3.toNat) (mshl 1 (wr ((wr (2 * v3)) + 1)))))), none, none, some (.inl (Md_to q3.1))], [.inr (.inl (q3.2 125 c2.toNat)), .inl c2, .inr (.inr 125)], (gset (gset q3.2 124 c2.toNat (mor (q3.2 124 c2.toNat) y4)) 124 c2.toNat (mor ((gset q3.2 124 c2.toNat (mor (q3.2 124 c2.toNat) y4)) 124 c2.toNat) y5))) (166, [some (.inr (.inr 92)), some (.inl c1), some (.inl c2), some (.inl v3), some (.inl q1.1), some (.inr (.inl (mor (q1.2 124 v3.toNat) (mshl 1 (wr (2 * v3)))))), none, some (.inr (.inl (mor (q1.2 125 v3.toNat) (mshl 1 (wr ((wr (2 * v3)) + 1)))))), none, none, some (.inl (Md_to q3.1))], [.inr (.inl (mor (q1.2 124 v3.toNat) (mshl 1 (wr (2 * v3))))), .inr (.inl (q3.2 125 c2.toNat)), .inl c2, .inr (.inr 125)], (gset (gset q3.2 124 c2.toNat (mor (q3.2 124 c2.toNat) y4)) 124 c2.toNat (mor ((gset q3.2 124 c2.toNat (mor (q3.2 124 c2.toNat) y4)) 124 c2.toNat) y5))) rfl ?_
                          rw [hy6] at hjy6
                          exact ev_le (L := [some (.inr (.inr 92)), some (.inl c1), some (.inl c2), some (.inl v3), some (.inl q1.1), none, none, some (.inr (.inl (mor (q1.2 125 v3.toNat) (mshl 1 (wr ((wr (2 * v3)) + 1)))))), none, none, some (.inl (Md_to q3.1))]) (by simp [Lle]) hjy6
                      · rw [if_neg hc] at h; cases h
                    · rw [if_neg hc] at h; cases h
                  by_cases hc : ¬ (Md_to q1.1) = (Md_from q2.1)
                  · rw [if_pos hc] at hy5
                    refine es (140, [some (.inr (.inr 92)), some (.inl c1), some (.inl c2), some (.inl v3), some (.inl q1.1), some (.inr (.inl (mor (q1.2 124 v3.toNat) (mshl 1 (wr (2 * v3)))))), none, some (.inr (.inl (mor (q1.2 125 v3.toNat) (mshl 1 (wr ((wr (2 * v3)) + 1)))))), none, some (.inl (Md_from q2.1)), some (.inl (Md_to q3.1))], [.inr (.inl ((gset q3.2 124 c2.toNat (mor (q3.2 124 c2.toNat) y4)) 124 c2.toNat)), .inl c2, .inr (.inr 124)], (gset q3.2 124 c2.toNat (mor (q3.2 124 c2.toNat) y4))) (congrArg some (if_pos hc)) ?_
                    refine ev_runs 1 (140, [some (.inr (.inr 92)), some (.inl c1), some (.inl c2), some (.inl v3), some (.inl q1.1), some (.inr (.inl (mor (q1.2 124 v3.toNat) (mshl 1 (wr (2 * v3)))))), none, some (.inr (.inl (mor (q1.2 125 v3.toNat) (mshl 1 (wr ((wr (2 * v3)) + 1)))))), none, some (.inl (Md_from q2.1)), some (.inl (Md_to q3.1))], [.inr (.inl ((gset q3.2 124 c2.toNat (mor (q3.2 124 c2.toNat) y4)) 124 c2.toNat)), .inl c2, .inr (.inr 124)], (gset q3.2 124 c2.toNat (mor (q3.2 124 c2.toNat) y4))) (141, [some (.inr (.inr 92)), some (.inl c1), some (.inl c2), some (.inl v3), some (.inl q1.1), some (.inr (.inl (mor (q1.2 124 v3.toNat) (mshl 1 (wr (2 * v3)))))), none, some (.inr (.inl (mor (q1.2 125 v3.toNat) (mshl 1 (wr ((wr (2 * v3)) + 1)))))), none, some (.inl (Md_from q2.1)), some (.inl (Md_to q3.1))], [.inr (.inl 0), .inr (.inl ((gset q3.2 124 c2.toNat (mor (q3.2 124 c2.toNat) y4)) 124 c2.toNat)), .inl c2, .inr (.inr 124)], (gset q3.2 124 c2.toNat (mor (q3.2 124 c2.toNat) y4))) rfl ?_
                    rw [hy5] at hjy5
                    exact ev_le (L := [some (.inr (.inr 92)), some (.inl c1), some (.inl c2), some (.inl v3), some (.inl q1.1), some (.inr (.inl (mor (q1.2 124 v3.toNat) (mshl 1 (wr (2 * v3)))))), none, some (.inr (.inl (mor (q1.2 125 v3.toNat) (mshl 1 (wr ((wr (2 * v3)) + 1)))))), none, none, some (.inl (Md_to q3.1))]) (by simp [Lle]) hjy5
                  · rw [if_neg hc] at hy5
                    refine es (135, [some (.inr (.inr 92)), some (.inl c1), some (.inl c2), some (.inl v3), some (.inl q1.1), some (.inr (.inl (mor (q1.2 124 v3.toNat) (mshl 1 (wr (2 * v3)))))), none, some (.inr (.inl (mor (q1.2 125 v3.toNat) (mshl 1 (wr ((wr (2 * v3)) + 1)))))), none, some (.inl (Md_from q2.1)), some (.inl (Md_to q3.1))], [.inr (.inl ((gset q3.2 124 c2.toNat (mor (q3.2 124 c2.toNat) y4)) 124 c2.toNat)), .inl c2, .inr (.inr 124)], (gset q3.2 124 c2.toNat (mor (q3.2 124 c2.toNat) y4))) (congrArg some (if_neg hc)) ?_
                    refine ev_runs 2 (135, [some (.inr (.inr 92)), some (.inl c1), some (.inl c2), some (.inl v3), some (.inl q1.1), some (.inr (.inl (mor (q1.2 124 v3.toNat) (mshl 1 (wr (2 * v3)))))), none, some (.inr (.inl (mor (q1.2 125 v3.toNat) (mshl 1 (wr ((wr (2 * v3)) + 1)))))), none, some (.inl (Md_from q2.1)), some (.inl (Md_to q3.1))], [.inr (.inl ((gset q3.2 124 c2.toNat (mor (q3.2 124 c2.toNat) y4)) 124 c2.toNat)), .inl c2, .inr (.inr 124)], (gset q3.2 124 c2.toNat (mor (q3.2 124 c2.toNat) y4))) (141, [some (.inr (.inr 92)), some (.inl c1), some (.inl c2), some (.inl v3), some (.inl q1.1), some (.inr (.inl (mor (q1.2 124 v3.toNat) (mshl 1 (wr (2 * v3)))))), none, some (.inr (.inl (mor (q1.2 125 v3.toNat) (mshl 1 (wr ((wr (2 * v3)) + 1)))))), none, some (.inl (Md_from q2.1)), some (.inl (Md_to q3.1))], [.inr (.inl (mor (q1.2 125 v3.toNat) (mshl 1 (wr ((wr (2 * v3)) + 1))))), .inr (.inl ((gset q3.2 124 c2.toNat (mor (q3.2 124 c2.toNat) y4)) 124 c2.toNat)), .inl c2, .inr (.inr 124)], (gset q3.2 124 c2.toNat (mor (q3.2 124 c2.toNat) y4))) rfl ?_
                    rw [hy5] at hjy5
                    exact ev_le (L := [some (.inr (.inr 92)), some (.inl c1), some (.inl c2), some (.inl v3), some (.inl q1.1), some (.inr (.inl (mor (q1.2 124 v3.toNat) (mshl 1 (wr (2 * v3)))))), none, some (.inr (.inl (mor (q1.2 125 v3.toNat) (mshl 1 (wr ((wr (2 * v3)) + 1)))))), none, none, some (.inl (Md_to q3.1))]) (by simp [Lle]) hjy5
                · rw [if_neg hc] at h; cases h
              · rw [if_neg hc] at h; cases h
            by_cases hc : ¬ (Md_from q1.1) = (Md_from q2.1)
            · rw [if_pos hc] at hy4
              refine es (115, [some (.inr (.inr 92)), some (.inl c1), some (.inl c2), some (.inl v3), some (.inl q1.1), some (.inr (.inl (mor (q1.2 124 v3.toNat) (mshl 1 (wr (2 * v3)))))), none, some (.inr (.inl (mor (q1.2 125 v3.toNat) (mshl 1 (wr ((wr (2 * v3)) + 1)))))), none, some (.inl (Md_from q2.1)), some (.inl (Md_to q3.1))], [.inr (.inl (q3.2 124 c2.toNat)), .inl c2, .inr (.inr 124)], q3.2) (congrArg some (if_pos hc)) ?_
              refine ev_runs 1 (115, [some (.inr (.inr 92)), some (.inl c1), some (.inl c2), some (.inl v3), some (.inl q1.1), some (.inr (.inl (mor (q1.2 124 v3.toNat) (mshl 1 (wr (2 * v3)))))), none, some (.inr (.inl (mor (q1.2 125 v3.toNat) (mshl 1 (wr ((wr (2 * v3)) + 1)))))), none, some (.inl (Md_from q2.1)), some (.inl (Md_to q3.1))], [.inr (.inl (q3.2 124 c2.toNat)), .inl c2, .inr (.inr 124)], q3.2) (116, [some (.inr (.inr 92)), some (.inl c1), some (.inl c2), some (.inl v3), some (.inl q1.1), some (.inr (.inl (mor (q1.2 124 v3.toNat) (mshl 1 (wr (2 * v3)))))), none, some (.inr (.inl (mor (q1.2 125 v3.toNat) (mshl 1 (wr ((wr (2 * v3)) + 1)))))), none, some (.inl (Md_from q2.1)), some (.inl (Md_to q3.1))], [.inr (.inl 0), .inr (.inl (q3.2 124 c2.toNat)), .inl c2, .inr (.inr 124)], q3.2) rfl ?_
              rw [hy4] at hjy4
              exact ev_le (L := [some (.inr (.inr 92)), some (.inl c1), some (.inl c2), some (.inl v3), some (.inl q1.1), some (.inr (.inl (mor (q1.2 124 v3.toNat) (mshl 1 (wr (2 * v3)))))), none, some (.inr (.inl (mor (q1.2 125 v3.toNat) (mshl 1 (wr ((wr (2 * v3)) + 1)))))), none, some (.inl (Md_from q2.1)), some (.inl (Md_to q3.1))]) (by simp [Lle]) hjy4
            · rw [if_neg hc] at hy4
              refine es (110, [some (.inr (.inr 92)), some (.inl c1), some (.inl c2), some (.inl v3), some (.inl q1.1), some (.inr (.inl (mor (q1.2 124 v3.toNat) (mshl 1 (wr (2 * v3)))))), none, some (.inr (.inl (mor (q1.2 125 v3.toNat) (mshl 1 (wr ((wr (2 * v3)) + 1)))))), none, some (.inl (Md_from q2.1)), some (.inl (Md_to q3.1))], [.inr (.inl (q3.2 124 c2.toNat)), .inl c2, .inr (.inr 124)], q3.2) (congrArg some (if_neg hc)) ?_
              refine ev_runs 2 (110, [some (.inr (.inr 92)), some (.inl c1), some (.inl c2), some (.inl v3), some (.inl q1.1), some (.inr (.inl (mor (q1.2 124 v3.toNat) (mshl 1 (wr (2 * v3)))))), none, some (.inr (.inl (mor (q1.2 125 v3.toNat) (mshl 1 (wr ((wr (2 * v3)) + 1)))))), none, some (.inl (Md_from q2.1)), some (.inl (Md_to q3.1))], [.inr (.inl (q3.2 124 c2.toNat)), .inl c2, .inr (.inr 124)], q3.2) (116, [some (.inr (.inr 92)), some (.inl c1), some (.inl c2), some (.inl v3), some (.inl q1.1), some (.inr (.inl (mor (q1.2 124 v3.toNat) (mshl 1 (wr (2 * v3)))))), none, some (.inr (.inl (mor (q1.2 125 v3.toNat) (mshl 1 (wr ((wr (2 * v3)) + 1)))))), none, some (.inl (Md_from q2.1)), some (.inl (Md_to q3.1))], [.inr (.inl (mor (q1.2 124 v3.toNat) (mshl 1 (wr (2 * v3))))), .inr (.inl (q3.2 124 c2.toNat)), .inl c2, .inr (.inr 124)], q3.2) rfl ?_
              rw [hy4] at hjy4
              exact ev_le (L := [some (.inr (.inr 92)), some (.inl c1), some (.inl c2), some (.inl v3), some (.inl q1.1), some (.inr (.inl (mor (q1.2 124 v3.toNat) (mshl 1 (wr (2 * v3)))))), none, some (.inr (.inl (mor (q1.2 125 v3.toNat) (mshl 1 (wr ((wr (2 * v3)) + 1)))))), none, some (.inl (Md_from q2.1)), some (.inl (Md_to q3.1))]) (by simp [Lle]) hjy4
          · rw [if_neg hc] at h; cases h
        · rw [if_neg hc] at h; cases h
      · rw [if_neg hc] at h; cases h
set_option maxRecDepth 100000 in
set_option maxHeartbeats 4000000 in
theorem ev_Md_findAheads_l2 (c1 : Int) (K2_226 : Gx → Option Gx) (hK2_226 : ∀ (g : Gx) (g' : Gx), K2_226 g = some g' → Ev 161 226 [none, none, none, none, none, none, none, none, none, none, none] [] g none g') : ∀ (n2 : Nat) (v2 : Int) (g : Gx) (g' : Gx), Md_findAheads_l2 c1 K2_226 n2 v2 g = some g' → Ev 161 2 [some (.inr (.inr 92)), some (.inl c1), some (.inl v2), none, none, none, none, none, none, none, none] [] g none g' := by
  intro n2
  induction n2 with
  | zero => intro v2 g g' h; cases h
  | succ n2 ih2 =>
    intro v2 g g' h
    rw [Md_findAheads_l2] at h
    refine ev_runs 4 (2, [some (.inr (.inr 92)), some (.inl c1), some (.inl v2), none, none, none, none, none, none, none, none], [], g) (8, [some (.inr (.inr 92)), some (.inl c1), some (.inl v2), none, none, none, none, none, none, none, none], [.inl c1, .inr (.inr 110), .inl v2], g) rfl ?_
    by_cases hc : 0 ≤ c1 ∧ c1 < 30
    · rw [if_pos hc] at h
      refine es (9, [some (.inr (.inr 92)), some (.inl c1), some (.inl v2), none, none, none, none, none, none, none, none], [.inl (g 110 c1.toNat), .inl v2], g) (if_pos hc) ?_
      by_cases hc : (g 110 c1.toNat) ≤ v2
      · rw [if_pos hc] at h
        refine es (226, [some (.inr (.inr 92)), some (.inl c1), some (.inl v2), none, none, none, none, none, none, none, none], [], g) (congrArg some (if_pos hc)) ?_
        exact ev_le (L := [none, none, none, none, none, none, none, none, none, none, none]) (by simp [Lle]) (hK2_226 g g' h)
      · rw [if_neg hc] at h
        refine es (12, [some (.inr (.inr 92)), some (.inl c1), some (.inl v2), none, none, none, none, none, none, none, none], [], g) (congrArg some (if_neg hc)) ?_
        refine ev_runs 4 (12, [some (.inr (.inr 92)), some (.inl c1), some (.inl v2), none, none, none, none, none, none, none, none], [], g) (18, [some (.inr (.inr 92)), some (.inl c1), some (.inl v2), none, none, none, none, none, none, none, none], [.inr (.inl 0), .inl v2, .inr (.inr 124)], g) rfl ?_
        by_cases hc : 0 ≤ v2 ∧ v2 < 24
        · rw [if_pos hc] at h
          refine es (19, [some (.inr (.inr 92)), some (.inl c1), some (.inl v2), none, none, none, none, none, none, none, none], [], (gset g 124 v2.toNat 0)) (if_pos hc) ?_
          refine ev_runs 4 (19, [some (.inr (.inr 92)), some (.inl c1), some (.inl v2), none, none, none, none, none, none, none, none], [], (gset g 124 v2.toNat 0)) (25, [some (.inr (.inr 92)), some (.inl c1), some (.inl v2), none, none, none, none, none, none, none, none], [.inr (.inl 0), .inl v2, .inr (.inr 125)], (gset g 124 v2.toNat 0)) rfl ?_
          by_cases hc : 0 ≤ v2 ∧ v2 < 24
          · rw [if_pos hc] at h
            refine es (26, [some (.inr (.inr 92)), some (.inl c1), some (.inl v2), none, none, none, none, none, none, none, none], [], (gset (gset g 124 v2.toNat 0) 125 v2.toNat 0)) (if_pos hc) ?_
            refine ev_runs 2 (26, [some (.inr (.inr 92)), some (.inl c1), some (.inl v2), none, none, none, none, none, none, none, none], [], (gset (gset g 124 v2.toNat 0) 125 v2.toNat 0)) (28, [some (.inr (.inr 92)), some (.inl c1), some (.inl v2), some (.inl 0), none, none, none, none, none, none, none], [], (gset (gset g 124 v2.toNat 0) 125 v2.toNat 0)) rfl ?_
            refine ev_le (L := [some (.inr (.inr 92)), some (.inl c1), some (.inl v2), some (.inl 0), none, none, none, none, none, none, none]) (by simp [Lle]) ?_
            refine ev_Md_findAheads_l28 c1 v2 _ ?_ fu 0 (gset (gset g 124 v2.toNat 0) 125 v2.toNat 0) g' h
            · intro g7 g' h
              refine ev_runs 4 (199, [some (.inr (.inr 92)), some (.inl c1), some (.inl v2), none, none, none, none, none, none, none, none], [], g7) (205, [some (.inr (.inr 92)), some (.inl c1), some (.inl v2), none, none, none, none, none, none, none, none], [.inl v2, .inr (.inr 125), .inl v2, .inr (.inr 125)], g7) rfl ?_
              by_cases hc : 0 ≤ v2 ∧ v2 < 24
              · rw [if_pos hc] at h
                refine es (206, [some (.inr (.inr 92)), some (.inl c1), some (.inl v2), none, none, none, none, none, none, none, none], [.inr (.inl (g7 125 v2.toNat)), .inl v2, .inr (.inr 125)], g7) (if_pos hc) ?_
                refine ev_runs 3 (206, [some (.inr (.inr 92)), some (.inl c1), some (.inl v2), none, none, none, none, none, none, none, none], [.inr (.inl (g7 125 v2.toNat)), .inl v2, .inr (.inr 125)], g7) (211, [some (.inr (.inr 92)), some (.inl c1), some (.inl v2), none, none, none, none, none, none, none, none], [.inl v2, .inr (.inr 124), .inr (.inl (g7 125 v2.toNat)), .inl v2, .inr (.inr 125)], g7) rfl ?_
                by_cases hc : 0 ≤ v2 ∧ v2 < 24
                · rw [if_pos hc] at h
                  refine es (212, [some (.inr (.inr 92)), some (.inl c1), some (.inl v2), none, none, none, none, none, none, none, none], [.inr (.inl (g7 124 v2.toNat)), .inr (.inl (g7 125 v2.toNat)), .inl v2, .inr (.inr 125)], g7) (if_pos hc) ?_
                  refine ev_runs 7 (212, [some (.inr (.inr 92)), some (.inl c1), some (.inl v2), none, none, none, none, none, none, none, none], [.inr (.inl (g7 124 v2.toNat)), .inr (.inl (g7 125 v2.toNat)), .inl v2, .inr (.inr 125)], g7) (219, [some (.inr (.inr 92)), some (.inl c1), some (.inl v2), none, none, none, none, none, none, none, none], [.inr (.inl (mor (g7 125 v2.toNat) (mor (g7 124 v2.toNat) (mshl 1 (wr (2 * v2)))))), .inl v2, .inr (.inr 125)], g7) rfl ?_
                  by_cases hc : 0 ≤ v2 ∧ v2 < 24
                  · rw [if_pos hc] at h
                    refine es (220, [some (.inr (.inr 92)), some (.inl c1), some (.inl v2), none, none, none, none, none, none, none, none], [], (gset g7 125 v2.toNat (mor (g7 125 v2.toNat) (mor (g7 124 v2.toNat) (mshl 1 (wr (2 * v2))))))) (if_pos hc) ?_
                    refine ev_runs 2 (220, [some (.inr (.inr 92)), some (.inl c1), some (.inl v2), none, none, none, none, none, none, none, none], [], (gset g7 125 v2.toNat (mor (g7 125 v2.toNat) (mor (g7 124 v2.toNat) (mshl 1 (wr (2 * v2))))))) (2, [some (.inr (.inr 92)), some (.inl c1), some (.inl (wr (v2 + 1))), none, none, none, none, none, none, none, none], [], (gset g7 125 v2.toNat (mor (g7 125 v2.toNat) (mor (g7 124 v2.toNat) (mshl 1 (wr (2 * v2))))))) rfl ?_
                    exact ev_le (L := [some (.inr (.inr 92)), some (.inl c1), some (.inl (wr (v2 + 1))), none, none, none, none, none, none, none, none]) (by simp [Lle]) (ih2 (wr (v2 + 1)) (gset g7 125 v2.toNat (mor (g7 125 v2.toNat) (mor (g7 124 v2.toNat) (mshl 1 (wr (2 * v2)))))) g' h)
                  · rw [if_neg hc] at h; cases h
                · rw [if_neg hc] at h; cases h
              · rw [if_neg hc] at h; cases h
          · rw [if_neg hc] at h; cases h
        · rw [if_neg hc] at h; cases h
    · rw [if_neg hc] at h; cases h
set_option maxRecDepth 100000 in
set_option maxHeartbeats 4000000 in
theorem ev_Md_findAheads (a1 : Int) (g : Gx) (g' : Gx) (h : Md_findAheads a1 g = some g') : Ev 161 0 [some (.inr (.inr 92)), some (.inl a1), none, none, none, none, none, none, none, none, none] [] g none g' := by
  rw [Md_findAheads] at h
  refine ev_runs 2 (0, [some (.inr (.inr 92)), some (.inl a1), none, none, none, none, none, none, none, none, none], [], g) (2, [some (.inr (.inr 92)), some (.inl a1), some (.inl 0), none, none, none, none, none, none, none, none], [], g) rfl ?_
  refine ev_le (L := [some (.inr (.inr 92)), some (.inl a1), some (.inl 0), none, none, none, none, none, none, none, none]) (by simp [Lle]) ?_
  refine ev_Md_findAheads_l2 a1 _ ?_ fu 0 g g' h
  · intro g8 g' h
    cases h
    exact er rfl
set_option maxRecDepth 100000 in
set_option maxHeartbeats 4000000 in
theorem ev_Md_longest_l106 (c1 : Int) (c2 : Int) (c3 : Int) (c5 : Int) (c6 : Int) (c7 : Int) (K106_190 : Int → Gx → Option (Int × Gx)) (hK106_190 : ∀ (x8 : Int) (g : Gx) (r : Int) (g' : Gx), K106_190 x8 g = some (r, g') → Ev 162 190 [some (.inr (.inr 92)), some (.inl c1), some (.inl c2), some (.inl c3), none, some (.inl c5), some (.inl c6), some (.inl c7), some (.inl x8), none, none] [] g (some (.inl r)) g') : ∀ (n106 : Nat) (v8 v9 : Int) (g : Gx) (r : Int) (g' : Gx), Md_longest_l106 c1 c2 c3 c5 c6 c7 K106_190 n106 v8 v9 g = some (r, g') → Ev 162 106 [some (.inr (.inr 92)), some (.inl c1), some (.inl c2), some (.inl c3), none, some (.inl c5), some (.inl c6), some (.inl c7), some (.inl v8), some (.inl v9), none] [] g (some (.inl r)) g' := by
  intro n106
  induction n106 with
  | zero => intro v8 v9 g r g' h; cases h
  | succ n106 ih106 =>
    intro v8 v9 g r g' h
    rw [Md_longest_l106] at h
    refine ev_runs 2 (106, [some (.inr (.inr 92)), some (.inl c1), some (.inl c2), some (.inl c3), none, some (.inl c5), some (.inl c6), some (.inl c7), some (.inl v8), some (.inl v9), none], [], g) (110, [some (.inr (.inr 92)), some (.inl c1), some (.inl c2), some (.inl c3), none, some (.inl c5), some (.inl c6), some (.inl c7), some (.inl v8), some (.inl v9), none], [.inl c7, .inl v9], g) rfl ?_
    by_cases hc : c7 ≤ v9
    · rw [if_pos hc] at h
      refine es (190, [some (.inr (.inr 92)), some (.inl c1), some (.inl c2), some (.inl c3), none, some (.inl c5), some (.inl c6), some (.inl c7), some (.inl v8), some (.inl v9), none], [], g) (congrArg some (if_pos hc)) ?_
      exact ev_le (L := [some (.inr (.inr 92)), some (.inl c1), some (.inl c2), some (.inl c3), none, some (.inl c5), some (.inl c6), some (.inl c7), some (.inl v8), none, none]) (by simp [Lle]) (hK106_190 v8 g r g' h)
    · rw [if_neg hc] at h
      refine es (113, [some (.inr (.inr 92)), some (.inl c1), some (.inl c2), some (.inl c3), none, some (.inl c5), some (.inl c6), some (.inl c7), some (.inl v8), some (.inl v9), none], [], g) (congrArg some (if_neg hc)) ?_
      refine ev_runs 3 (113, [some (.inr (.inr 92)), some (.inl c1), some (.inl c2), some (.inl c3), none, some (.inl c5), some (.inl c6), some (.inl c7), some (.inl v8), some (.inl v9), none], [], g) (117, [some (.inr (.inr 92)), some (.inl c1), some (.inl c2), some (.inl c3), none, some (.inl c5), some (.inl c6), some (.inl c7), some (.inl v8), some (.inl v9), none], [.inl v9, .inl c1, .inr (.inr 92)], g) rfl ?_
      obtain ⟨q5, hq, h⟩ := Option.bind_eq_some_iff.mp h
      refine ec 89 120 [.inr (.inr 92), .inl c1, .inl v9] [] rfl (ev_Md_code c1 v9 g q5.1 q5.2 hq) ?_
      show Ev 162 120 [some (.inr (.inr 92)), some (.inl c1), some (.inl c2), some (.inl c3), none, some (.inl c5), some (.inl c6), some (.inl c7), some (.inl v8), some (.inl v9), none] [.inl q5.1] q5.2 _ _
      refine ec 99 123 [.inl q5.1] [] rfl (ev_Md_from q5.1 q5.2 _ rfl) ?_
      show Ev 162 123 [some (.inr (.inr 92)), some (.inl c1), some (.inl c2), some (.inl c3), none, some (.inl c5), some (.inl c6), some (.inl c7), some (.inl v8), some (.inl v9), none] [.inl (Md_from q5.1)] q5.2 _ _
      refine ev_runs 1 (123, [some (.inr (.inr 92)), some (.inl c1), some (.inl c2), some (.inl c3), none, some (.inl c5), some (.inl c6), some (.inl c7), some (.inl v8), some (.inl v9), none], [.inl (Md_from q5.1)], q5.2) (124, [some (.inr (.inr 92)), some (.inl c1), some (.inl c2), some (.inl c3), none, some (.inl c5), some (.inl c6), some (.inl c7), some (.inl v8), some (.inl v9), none], [.inl c2, .inl (Md_from q5.1)], q5.2) rfl ?_
      by_cases hc : ¬ (Md_from q5.1) = c2
      · rw [if_pos hc] at h
        refine es (145, [some (.inr (.inr 92)), some (.inl c1), some (.inl c2), some (.inl c3), none, some (.inl c5), some (.inl c6), some (.inl c7), some (.inl v8), some (.inl v9), none], [], q5.2) (congrArg some (if_pos hc)) ?_
        refine ev_runs 10 (145, [some (.inr (.inr 92)), some (.inl c1), some (.inl c2), some (.inl c3), none, some (.inl c5), some (.inl c6), some (.inl c7), some (.inl v8), some (.inl v9), none], [], q5.2) (106, [some (.inr (.inr 92)), some (.inl c1), some (.inl c2), some (.inl c3), none, some (.inl c5), some (.inl c6), some (.inl c7), some (.inl (wr (v8 + 0))), some (.inl (wr (v9 + 1))), some (.inl 0)], [], q5.2) rfl ?_
        exact ev_le (L := [some (.inr (.inr 92)), some (.inl c1), some (.inl c2), some (.inl c3), none, some (.inl c5), some (.inl c6), some (.inl c7), some (.inl (wr (v8 + 0))), some (.inl (wr (v9 + 1))), none]) (by simp [Lle]) (ih106 (wr (v8 + 0)) (wr (v9 + 1)) q5.2 r g' h)
      · rw [if_neg hc] at h
        refine es (127, [some (.inr (.inr 92)), some (.inl c1), some (.inl c2), some (.inl c3), none, some (.inl c5), some (.inl c6), some (.inl c7), some (.inl v8), some (.inl v9), none], [], q5.2) (congrArg some (if_neg hc)) ?_
        refine ev_runs 3 (127, [some (.inr (.inr 92)), some (.inl c1), some (.inl c2), some (.inl c3), none, some (.inl c5), some (.inl c6), some (.inl c7), some (.inl v8), some (.inl v9), none], [], q5.2) (131, [some (.inr (.inr 92)), some (.inl c1), some (.inl c2), some (.inl c3), none, some (.inl c5), some (.inl c6), some (.inl c7), some (.inl v8), some (.inl v9), none], [.inl v9, .inl c1, .inr (.inr 92)], q5.2) rfl ?_
        obtain ⟨q6, hq, h⟩ := Option.bind_eq_some_iff.mp h
        refine ec 89 134 [.inr (.inr 92), .inl c1, .inl v9] [] rfl (ev_Md_code c1 v9 q5.2 q6.1 q6.2 hq) ?_
        show Ev 162 134 [some (.inr (.inr 92)), some (.inl c1), some (.inl c2), some (.inl c3), none, some (.inl c5), some (.inl c6), some (.inl c7), some (.inl v8), some (.inl v9), none] [.inl q6.1] q6.2 _ _
        refine ec 100 137 [.inl q6.1] [] rfl (ev_Md_to q6.1 q6.2 _ rfl) ?_
        show Ev 162 137 [some (.inr (.inr 92)), some (.inl c1), some (.inl c2), some (.inl c3), none, some (.inl c5), some (.inl c6), some (.inl c7), some (.inl v8), some (.inl v9), none] [.inl (Md_to q6.1)] q6.2 _ _
        refine ev_runs 1 (137, [some (.inr (.inr 92)), some (.inl c1), some (.inl c2), some (.inl c3), none, some (.inl c5), some (.inl c6), some (.inl c7), some (.inl v8), some (.inl v9), none], [.inl (Md_to q6.1)], q6.2) (138, [some (.inr (.inr 92)), some (.inl c1), some (.inl c2), some (.inl c3), none, some (.inl c5), some (.inl c6), some (.inl c7), some (.inl v8), some (.inl v9), none], [.inl c3, .inl (Md_to q6.1)], q6.2) rfl ?_
        obtain ⟨y7, hy7, h⟩ := lett_inv h
        have hjy7 : Ev 162 146 [some (.inr (.inr 92)), some (.inl c1), some (.inl c2), some (.inl c3), none, some (.inl c5), some (.inl c6), some (.inl c7), some (.inl v8), some (.inl v9), none] [.inl y7] q6.2 (some (.inl r)) g' := by
          refine ev_runs 3 (146, [some (.inr (.inr 92)), some (.inl c1), some (.inl c2), some (.inl c3), none, some (.inl c5), some (.inl c6), some (.inl c7), some (.inl v8), some (.inl v9), none], [.inl y7], q6.2) (152, [some (.inr (.inr 92)), some (.inl c1), some (.inl c2), some (.inl c3), none, some (.inl c5), some (.inl c6), some (.inl c7), some (.inl v8), some (.inl v9), some (.inl y7)], [.inl y7, .inl v8], q6.2) rfl ?_
          by_cases hc : y7 = 0
          · rw [if_pos hc] at h
            refine es (180, [some (.inr (.inr 92)), some (.inl c1), some (.inl c2), some (.inl c3), none, some (.inl c5), some (.inl c6), some (.inl c7), some (.inl v8), some (.inl v9), some (.inl y7)], [.inl v8], q6.2) (congrArg some (if_pos hc)) ?_
            refine ev_runs 5 (180, [some (.inr (.inr 92)), some (.inl c1), some (.inl c2), some (.inl c3), none, some (.inl c5), some (.inl c6), some (.inl c7), some (.inl v8), some (.inl v9), some (.inl y7)], [.inl v8], q6.2) (106, [some (.inr (.inr 92)), some (.inl c1), some (.inl c2), some (.inl c3), none, some (.inl c5), some (.inl c6), some (.inl c7), some (.inl (wr (v8 + 0))), some (.inl (wr (v9 + 1))), some (.inl y7)], [], q6.2) rfl ?_
            exact ev_le (L := [some (.inr (.inr 92)), some (.inl c1), some (.inl c2), some (.inl c3), none, some (.inl c5), some (.inl c6), some (.inl c7), some (.inl (wr (v8 + 0))), some (.inl (wr (v9 + 1))), none]) (by simp [Lle]) (ih106 (wr (v8 + 0)) (wr (v9 + 1)) q6.2 r g' h)
          · rw [if_neg hc] at h
            refine es (155, [some (.inr (.inr 92)), some (.inl c1), some (.inl c2), some (.inl c3), none, some (.inl c5), some (.inl c6), some (.inl c7), some (.inl v8), some (.inl v9), some (.inl y7)], [.inl v8], q6.2) (congrArg some (if_neg hc)) ?_
            refine ev_runs 3 (155, [some (.inr (.inr 92)), some (.inl c1), some (.inl c2), some (.inl c3), none, some (.inl c5), some (.inl c6), some (.inl c7), some (.inl v8), some (.inl v9), some (.inl y7)], [.inl v8], q6.2) (161, [some (.inr (.inr 92)), some (.inl c1), some (.inl c2), some (.inl c3), none, some (.inl c5), some (.inl c6), some (.inl c7), some (.inl v8), some (.inl v9), some (.inl y7)], [.inl c7, .inr (.inr 124), .inl v8], q6.2) rfl ?_
            by_cases hc : 0 ≤ c7 ∧ c7 < 24
            · rw [if_pos hc] at h
              refine es (162, [some (.inr (.inr 92)), some (.inl c1), some (.inl c2), some (.inl c3), none, some (.inl c5), some (.inl c6), some (.inl c7), some (.inl v8), some (.inl v9), some (.inl y7)], [.inr (.inl (q6.2 124 c7.toNat)), .inl v8], q6.2) (if_pos hc) ?_
              refine ev_runs 10 (162, [some (.inr (.inr 92)), some (.inl c1), some (.inl c2), some (.inl c3), none, some (.inl c5), some (.inl c6), some (.inl c7), some (.inl v8), some (.inl v9), some (.inl y7)], [.inr (.inl (q6.2 124 c7.toNat)), .inl v8], q6.2) (173, [some (.inr (.inr 92)), some (.inl c1), some (.inl c2), some (.inl c3), none, some (.inl c5), some (.inl c6), some (.inl c7), some (.inl v8), some (.inl v9), some (.inl y7)], [.inl (mcmp (mand (mshr (q6.2 124 c7.toNat) (wr ((wr (2 * v9)) + 1))) 1) 1), .inl v8], q6.2) rfl ?_
              by_cases hc : ¬ (mcmp (mand (mshr (q6.2 124 c7.toNat) (wr ((wr (2 * v9)) + 1))) 1) 1) = 0
              · rw [if_pos hc] at h
                refine es (180, [some (.inr (.inr 92)), some (.inl c1), some (.inl c2), some (.inl c3), none, some (.inl c5), some (.inl c6), some (.inl c7), some (.inl v8), some (.inl v9), some (.inl y7)], [.inl v8], q6.2) (congrArg some (if_pos hc)) ?_
                refine ev_runs 5 (180, [some (.inr (.inr 92)), some (.inl c1), some (.inl c2), some (.inl c3), none, some (.inl c5), some (.inl c6), some (.inl c7), some (.inl v8), some (.inl v9), some (.inl y7)], [.inl v8], q6.2) (106, [some (.inr (.inr 92)), some (.inl c1), some (.inl c2), some (.inl c3), none, some (.inl c5), some (.inl c6), some (.inl c7), some (.inl (wr (v8 + 0))), some (.inl (wr (v9 + 1))), some (.inl y7)], [], q6.2) rfl ?_
                exact ev_le (L := [some (.inr (.inr 92)), some (.inl c1), some (.inl c2), some (.inl c3), none, some (.inl c5), some (.inl c6), some (.inl c7), some (.inl (wr (v8 + 0))), some (.inl (wr (v9 + 1))), none]) (by simp [Lle]) (ih106 (wr (v8 + 0)) (wr (v9 + 1)) q6.2 r g' h)
              · rw [if_neg hc] at h
                refine es (176, [some (.inr (.inr 92)), some (.inl c1), some (.inl c2), some (.inl c3), none, some (.inl c5), some (.inl c6), some (.inl c7), some (.inl v8), some (.inl v9), some (.inl y7)], [.inl v8], q6.2) (congrArg some (if_neg hc)) ?_
                refine ev_runs 6 (176, [some (.inr (.inr 92)), some (.inl c1), some (.inl c2), some (.inl c3), none, some (.inl c5), some (.inl c6), some (.inl c7), some (.inl v8), some (.inl v9), some (.inl y7)], [.inl v8], q6.2) (106, [some (.inr (.inr 92)), some (.inl c1), some (.inl c2), some (.inl c3), none, some (.inl c5), some (.inl c6), some (.inl c7), some (.inl (wr (v8 + 1))), some (.inl (wr (v9 + 1))), some (.inl y7)], [], q6.2) rfl ?_
                exact ev_le (L := [some (.inr (.inr 92)), some (.inl c1), some (.inl c2), some (.inl c3), none, some (.inl c5), some (.inl c6), some (.inl c7), some (.inl (wr (v8 + 1))), some (.inl (wr (v9 + 1))), none]) (by simp [Lle]) (ih106 (wr (v8 + 1)) (wr (v9 + 1)) q6.2 r g' h)
            · rw [if_neg hc] at h; cases h
        by_cases hc : ¬ (Md_to q6.1) = c3
        · rw [if_pos hc] at hy7
          refine es (145, [some (.inr (.inr 92)), some (.inl c1), some (.inl c2), some (.inl c3), none, some (.inl c5), some (.inl c6), some (.inl c7), some (.inl v8), some (.inl v9), none], [], q6.2) (congrArg some (if_pos hc)) ?_
          refine ev_runs 1 (145, [some (.inr (.inr 92)), some (.inl c1), some (.inl c2), some (.inl c3), none, some (.inl c5), some (.inl c6), some (.inl c7), some (.inl v8), some (.inl v9), none], [], q6.2) (146, [some (.inr (.inr 92)), some (.inl c1), some (.inl c2), some (.inl c3), none, some (.inl c5), some (.inl c6), some (.inl c7), some (.inl v8), some (.inl v9), none], [.inl 0], q6.2) rfl ?_
          rw [hy7] at hjy7
          exact ev_le (L := [some (.inr (.inr 92)), some (.inl c1), some (.inl c2), some (.inl c3), none, some (.inl c5), some (.inl c6), some (.inl c7), some (.inl v8), some (.inl v9), none]) (by simp [Lle]) hjy7
        · rw [if_neg hc] at hy7
          refine es (141, [some (.inr (.inr 92)), some (.inl c1), some (.inl c2), some (.inl c3), none, some (.inl c5), some (.inl c6), some (.inl c7), some (.inl v8), some (.inl v9), none], [], q6.2) (congrArg some (if_neg hc)) ?_
          refine ev_runs 2 (141, [some (.inr (.inr 92)), some (.inl c1), some (.inl c2), some (.inl c3), none, some (.inl c5), some (.inl c6), some (.inl c7), some (.inl v8), some (.inl v9), none], [], q6.2) (146, [some (.inr (.inr 92)), some (.inl c1), some (.inl c2), some (.inl c3), none, some (.inl c5), some (.inl c6), some (.inl c7), some (.inl v8), some (.inl v9), none], [.inl 1], q6.2) rfl ?_
          rw [hy7] at hjy7
          exact ev_le (L := [some (.inr (.inr 92)), some (.inl c1), some (.inl c2), some (.inl c3), none, some (.inl c5), some (.inl c6), some (.inl c7), some (.inl v8), some (.inl v9), none]) (by simp [Lle]) hjy7
set_option maxRecDepth 100000 in
set_option maxHeartbeats 4000000 in
theorem ev_Md_longest_l58 (c1 : Int) (c2 : Int) (c3 : Int) (K58_218 : Int → Gx → Option (Int × Gx)) (hK58_218 : ∀ (x5 : Int) (g : Gx) (r : Int) (g' : Gx), K58_218 x5 g = some (r, g') → Ev 162 218 [none, none, none, none, none, some (.inl x5), none, none, none, none, none] [] g (some (.inl r)) g') : ∀ (n58 : Nat) (v5 v6 v7 : Int) (g : Gx) (r : Int) (g' : Gx), Md_longest_l58 c1 c2 c3 K58_218 n58 v5 v6 v7 g = some (r, g') → Ev 162 58 [some (.inr (.inr 92)), some (.inl c1), some (.inl c2), some (.inl c3), none, some (.inl v5), some (.inl v6), some (.inl v7), none, none, none] [] g (some (.inl r)) g' := by
  intro n58
  induction n58 with
  | zero => intro v5 v6 v7 g r g' h; cases h
  | succ n58 ih58 =>
    intro v5 v6 v7 g r g' h
    rw [Md_longest_l58] at h
    refine ev_runs 4 (58, [some (.inr (.inr 92)), some (.inl c1), some (.inl c2), some (.inl c3), none, some (.inl v5), some (.inl v6), some (.inl v7), none, none, none], [], g) (65, [some (.inr (.inr 92)), some (.inl c1), some (.inl c2), some (.inl c3), none, some (.inl v5), some (.inl v6), some (.inl v7), none, none, none], [.inl c1, .inr (.inr 110), .inl v7], g) rfl ?_
    by_cases hc : 0 ≤ c1 ∧ c1 < 30
    · rw [if_pos hc] at h
      refine es (66, [some (.inr (.inr 92)), some (.inl c1), some (.inl c2), some (.inl c3), none, some (.inl v5), some (.inl v6), some (.inl v7), none, none, none], [.inl (g 110 c1.toNat), .inl v7], g) (if_pos hc) ?_
      by_cases hc : (g 110 c1.toNat) ≤ v7
      · rw [if_pos hc] at h
        refine es (218, [some (.inr (.inr 92)), some (.inl c1), some (.inl c2), some (.inl c3), none, some (.inl v5), some (.inl v6), some (.inl v7), none, none, none], [], g) (congrArg some (if_pos hc)) ?_
        exact ev_le (L := [none, none, none, none, none, some (.inl v5), none, none, none, none, none]) (by simp [Lle]) (hK58_218 v5 g r g' h)
      · rw [if_neg hc] at h
        refine es (69, [some (.inr (.inr 92)), some (.inl c1), some (.inl c2), some (.inl c3), none, some (.inl v5), some (.inl v6), some (.inl v7), none, none, none], [], g) (congrArg some (if_neg hc)) ?_
        refine ev_runs 3 (69, [some (.inr (.inr 92)), some (.inl c1), some (.inl c2), some (.inl c3), none, some (.inl v5), some (.inl v6), some (.inl v7), none, none, none], [], g) (73, [some (.inr (.inr 92)), some (.inl c1), some (.inl c2), some (.inl c3), none, some (.inl v5), some (.inl v6), some (.inl v7), none, none, none], [.inl v7, .inl c1, .inr (.inr 92)], g) rfl ?_
        obtain ⟨q3, hq, h⟩ := Option.bind_eq_some_iff.mp h
        refine ec 89 76 [.inr (.inr 92), .inl c1, .inl v7] [] rfl (ev_Md_code c1 v7 g q3.1 q3.2 hq) ?_
        show Ev 162 76 [some (.inr (.inr 92)), some (.inl c1), some (.inl c2), some (.inl c3), none, some (.inl v5), some (.inl v6), some (.inl v7), none, none, none] [.inl q3.1] q3.2 _ _
        refine ec 99 79 [.inl q3.1] [] rfl (ev_Md_from q3.1 q3.2 _ rfl) ?_
        show Ev 162 79 [some (.inr (.inr 92)), some (.inl c1), some (.inl c2), some (.inl c3), none, some (.inl v5), some (.inl v6), some (.inl v7), none, none, none] [.inl (Md_from q3.1)] q3.2 _ _
        refine ev_runs 1 (79, [some (.inr (.inr 92)), some (.inl c1), some (.inl c2), some (.inl c3), none, some (.inl v5), some (.inl v6), some (.inl v7), none, none, none], [.inl (Md_from q3.1)], q3.2) (80, [some (.inr (.inr 92)), some (.inl c1), some (.inl c2), some (.inl c3), none, some (.inl v5), some (.inl v6), some (.inl v7), none, none, none], [.inl c2, .inl (Md_from q3.1)], q3.2) rfl ?_
        by_cases hc : ¬ (Md_from q3.1) = c2
        · rw [if_pos hc] at h
          refine es (212, [some (.inr (.inr 92)), some (.inl c1), some (.inl c2), some (.inl c3), none, some (.inl v5), some (.inl v6), some (.inl v7), none, none, none], [], q3.2) (congrArg some (if_pos hc)) ?_
          refine ev_runs 2 (212, [some (.inr (.inr 92)), some (.inl c1), some (.inl c2), some (.inl c3), none, some (.inl v5), some (.inl v6), some (.inl v7), none, none, none], [], q3.2) (58, [some (.inr (.inr 92)), some (.inl c1), some (.inl c2), some (.inl c3), none, some (.inl v5), some (.inl v6), some (.inl (wr (v7 + 1))), none, none, none], [], q3.2) rfl ?_
          exact ev_le (L := [some (.inr (.inr 92)), some (.inl c1), some (.inl c2), some (.inl c3), none, some (.inl v5), some (.inl v6), some (.inl (wr (v7 + 1))), none, none, none]) (by simp [Lle]) (ih58 v5 v6 (wr (v7 + 1)) q3.2 r g' h)
        · rw [if_neg hc] at h
          refine es (83, [some (.inr (.inr 92)), some (.inl c1), some (.inl c2), some (.inl c3), none, some (.inl v5), some (.inl v6), some (.inl v7), none, none, none], [], q3.2) (congrArg some (if_neg hc)) ?_
          refine ev_runs 3 (83, [some (.inr (.inr 92)), some (.inl c1), some (.inl c2), some (.inl c3), none, some (.inl v5), some (.inl v6), some (.inl v7), none, none, none], [], q3.2) (87, [some (.inr (.inr 92)), some (.inl c1), some (.inl c2), some (.inl c3), none, some (.inl v5), some (.inl v6), some (.inl v7), none, none, none], [.inl v7, .inl c1, .inr (.inr 92)], q3.2) rfl ?_
          obtain ⟨q4, hq, h⟩ := Option.bind_eq_some_iff.mp h
          refine ec 89 90 [.inr (.inr 92), .inl c1, .inl v7] [] rfl (ev_Md_code c1 v7 q3.2 q4.1 q4.2 hq) ?_
          show Ev 162 90 [some (.inr (.inr 92)), some (.inl c1), some (.inl c2), some (.inl c3), none, some (.inl v5), some (.inl v6), some (.inl v7), none, none, none] [.inl q4.1] q4.2 _ _
          refine ec 100 93 [.inl q4.1] [] rfl (ev_Md_to q4.1 q4.2 _ rfl) ?_
          show Ev 162 93 [some (.inr (.inr 92)), some (.inl c1), some (.inl c2), some (.inl c3), none, some (.inl v5), some (.inl v6), some (.inl v7), none, none, none] [.inl (Md_to q4.1)] q4.2 _ _
          refine ev_runs 1 (93, [some (.inr (.inr 92)), some (.inl c1), some (.inl c2), some (.inl c3), none, some (.inl v5), some (.inl v6), some (.inl v7), none, none, none], [.inl (Md_to q4.1)], q4.2) (94, [some (.inr (.inr 92)), some (.inl c1), some (.inl c2), some (.inl c3), none, some (.inl v5), some (.inl v6), some (.inl v7), none, none, none], [.inl c3, .inl (Md_to q4.1)], q4.2) rfl ?_
          by_cases hc : ¬ (Md_to q4.1) = c3
          · rw [if_pos hc] at h
            refine es (212, [some (.inr (.inr 92)), some (.inl c1), some (.inl c2), some (.inl c3), none, some (.inl v5), some (.inl v6), some (.inl v7), none, none, none], [], q4.2) (congrArg some (if_pos hc)) ?_
            refine ev_runs 2 (212, [some (.inr (.inr 92)), some (.inl c1), some (.inl c2), some (.inl c3), none, some (.inl v5), some (.inl v6), some (.inl v7), none, none, none], [], q4.2) (58, [some (.inr (.inr 92)), some (.inl c1), some (.inl c2), some (.inl c3), none, some (.inl v5), some (.inl v6), some (.inl (wr (v7 + 1))), none, none, none], [], q4.2) rfl ?_
            exact ev_le (L := [some (.inr (.inr 92)), some (.inl c1), some (.inl c2), some (.inl c3), none, some (.inl v5), some (.inl v6), some (.inl (wr (v7 + 1))), none, none, none]) (by simp [Lle]) (ih58 v5 v6 (wr (v7 + 1)) q4.2 r g' h)
          · rw [if_neg hc] at h
            refine es (97, [some (.inr (.inr 92)), some (.inl c1), some (.inl c2), some (.inl c3), none, some (.inl v5), some (.inl v6), some (.inl v7), none, none, none], [], q4.2) (congrArg some (if_neg hc)) ?_
            refine ev_runs 5 (97, [some (.inr (.inr 92)), some (.inl c1), some (.inl c2), some (.inl c3), none, some (.inl v5), some (.inl v6), some (.inl v7), none, none, none], [], q4.2) (106, [some (.inr (.inr 92)), some (.inl c1), some (.inl c2), some (.inl c3), none, some (.inl v5), some (.inl (wr (v6 + 1))), some (.inl v7), some (.inl 0), some (.inl 0), none], [], q4.2) rfl ?_
            refine ev_le (L := [some (.inr (.inr 92)), some (.inl c1), some (.inl c2), some (.inl c3), none, some (.inl v5), some (.inl (wr (v6 + 1))), some (.inl v7), some (.inl 0), some (.inl 0), none]) (by simp [Lle]) ?_
            refine ev_Md_longest_l106 c1 c2 c3 v5 (wr (v6 + 1)) v7 _ ?_ fu 0 0 q4.2 r g' h
            · intro x8 g9 r g' h
              refine ev_runs 4 (190, [some (.inr (.inr 92)), some (.inl c1), some (.inl c2), some (.inl c3), none, some (.inl v5), some (.inl (wr (v6 + 1))), some (.inl v7), some (.inl x8), none, none], [], g9) (197, [some (.inr (.inr 92)), some (.inl c1), some (.inl c2), some (.inl c3), none, some (.inl v5), some (.inl (wr (v6 + 1))), some (.inl v7), some (.inl x8), none, none], [.inl v5, .inl (wr ((wr (v6 + 1)) - x8))], g9) rfl ?_
              by_cases hc : (wr ((wr (v6 + 1)) - x8)) ≤ v5
              · rw [if_pos hc] at h
                refine es (208, [some (.inr (.inr 92)), some (.inl c1), some (.inl c2), some (.inl c3), none, some (.inl v5), some (.inl (wr (v6 + 1))), some (.inl v7), some (.inl x8), none, none], [], g9) (congrArg some (if_pos hc)) ?_
                refine ev_runs 4 (208, [some (.inr (.inr 92)), some (.inl c1), some (.inl c2), some (.inl c3), none, some (.inl v5), some (.inl (wr (v6 + 1))), some (.inl v7), some (.inl x8), none, none], [], g9) (58, [some (.inr (.inr 92)), some (.inl c1), some (.inl c2), some (.inl c3), none, some (.inl v5), some (.inl (wr (v6 + 1))), some (.inl (wr (v7 + 1))), some (.inl x8), none, none], [], g9) rfl ?_
                exact ev_le (L := [some (.inr (.inr 92)), some (.inl c1), some (.inl c2), some (.inl c3), none, some (.inl v5), some (.inl (wr (v6 + 1))), some (.inl (wr (v7 + 1))), none, none, none]) (by simp [Lle]) (ih58 v5 (wr (v6 + 1)) (wr (v7 + 1)) g9 r g' h)
              · rw [if_neg hc] at h
                refine es (200, [some (.inr (.inr 92)), some (.inl c1), some (.inl c2), some (.inl c3), none, some (.inl v5), some (.inl (wr (v6 + 1))), some (.inl v7), some (.inl x8), none, none], [], g9) (congrArg some (if_neg hc)) ?_
                refine ev_runs 7 (200, [some (.inr (.inr 92)), some (.inl c1), some (.inl c2), some (.inl c3), none, some (.inl v5), some (.inl (wr (v6 + 1))), some (.inl v7), some (.inl x8), none, none], [], g9) (58, [some (.inr (.inr 92)), some (.inl c1), some (.inl c2), some (.inl c3), none, some (.inl (wr ((wr (v6 + 1)) - x8))), some (.inl (wr (v6 + 1))), some (.inl (wr (v7 + 1))), some (.inl x8), none, none], [], g9) rfl ?_
                exact ev_le (L := [some (.inr (.inr 92)), some (.inl c1), some (.inl c2), some (.inl c3), none, some (.inl (wr ((wr (v6 + 1)) - x8))), some (.inl (wr (v6 + 1))), some (.inl (wr (v7 + 1))), none, none, none]) (by simp [Lle]) (ih58 (wr ((wr (v6 + 1)) - x8)) (wr (v6 + 1)) (wr (v7 + 1)) g9 r g' h)
    · rw [if_neg hc] at h; cases h
set_option maxRecDepth 100000 in
set_option maxHeartbeats 4000000 in
theorem ev_Md_longest (a1 a2 a3 : Int) (g : Gx) (r : Int) (g' : Gx) (h : Md_longest a1 a2 a3 g = some (r, g')) : Ev 162 0 [some (.inr (.inr 92)), some (.inl a1), some (.inl a2), some (.inl a3), none, none, none, none, none, none, none] [] g (some (.inl r)) g' := by
  rw [Md_longest] at h
  refine ev_runs 1 (0, [some (.inr (.inr 92)), some (.inl a1), some (.inl a2), some (.inl a3), none, none, none, none, none, none, none], [], g) (1, [some (.inr (.inr 92)), some (.inl a1), some (.inl a2), some (.inl a3), none, none, none, none, none, none, none], [.inl a1], g) rfl ?_
  refine ec 87 4 [.inl a1] [] rfl (ev_Md_isHistory a1 g _ rfl) ?_
  show Ev 162 4 [some (.inr (.inr 92)), some (.inl a1), some (.inl a2), some (.inl a3), none, none, none, none, none, none, none] [.inl (Md_isHistory a1)] g _ _
  by_cases hc : (Md_isHistory a1) = 0
  · rw [if_pos hc] at h
    refine es (26, [some (.inr (.inr 92)), some (.inl a1), some (.inl a2), some (.inl a3), none, none, none, none, none, none, none], [], g) (congrArg some (if_pos hc)) ?_
    refine ev_runs 1 (26, [some (.inr (.inr 92)), some (.inl a1), some (.inl a2), some (.inl a3), none, none, none, none, none, none, none], [], g) (28, [some (.inr (.inr 92)), some (.inl a1), some (.inl a2), some (.inl a3), none, none, none, none, none, none, none], [.inl (-2)], g) rfl ?_
    cases h
    exact er rfl
  · rw [if_neg hc] at h
    refine es (7, [some (.inr (.inr 92)), some (.inl a1), some (.inl a2), some (.inl a3), none, none, none, none, none, none, none], [], g) (congrArg some (if_neg hc)) ?_
    refine ev_runs 1 (7, [some (.inr (.inr 92)), some (.inl a1), some (.inl a2), some (.inl a3), none, none, none, none, none, none, none], [], g) (8, [some (.inr (.inr 92)), some (.inl a1), some (.inl a2), some (.inl a3), none, none, none, none, none, none, none], [.inl a2], g) rfl ?_
    refine ec 98 11 [.inl a2] [] rfl (ev_Md_isOne a2 g _ rfl) ?_
    show Ev 162 11 [some (.inr (.inr 92)), some (.inl a1), some (.inl a2), some (.inl a3), none, none, none, none, none, none, none] [.inl (Md_isOne a2)] g _ _
    by_cases hc : (Md_isOne a2) = 0
    · rw [if_pos hc] at h
      refine es (26, [some (.inr (.inr 92)), some (.inl a1), some (.inl a2), some (.inl a3), none, none, none, none, none, none, none], [], g) (congrArg some (if_pos hc)) ?_
      refine ev_runs 1 (26, [some (.inr (.inr 92)), some (.inl a1), some (.inl a2), some (.inl a3), none, none, none, none, none, none, none], [], g) (28, [some (.inr (.inr 92)), some (.inl a1), some (.inl a2), some (.inl a3), none, none, none, none, none, none, none], [.inl (-2)], g) rfl ?_
      cases h
      exact er rfl
    · rw [if_neg hc] at h
      refine es (14, [some (.inr (.inr 92)), some (.inl a1), some (.inl a2), some (.inl a3), none, none, none, none, none, none, none], [], g) (congrArg some (if_neg hc)) ?_
      refine ev_runs 1 (14, [some (.inr (.inr 92)), some (.inl a1), some (.inl a2), some (.inl a3), none, none, none, none, none, none, none], [], g) (15, [some (.inr (.inr 92)), some (.inl a1), some (.inl a2), some (.inl a3), none, none, none, none, none, none, none], [.inl a3], g) rfl ?_
      refine ec 98 18 [.inl a3] [] rfl (ev_Md_isOne a3 g _ rfl) ?_
      show Ev 162 18 [some (.inr (.inr 92)), some (.inl a1), some (.inl a2), some (.inl a3), none, none, none, none, none, none, none] [.inl (Md_isOne a3)] g _ _
      by_cases hc : (Md_isOne a3) = 0
      · rw [if_pos hc] at h
        refine es (26, [some (.inr (.inr 92)), some (.inl a1), some (.inl a2), some (.inl a3), none, none, none, none, none, none, none], [], g) (congrArg some (if_pos hc)) ?_
        refine ev_runs 1 (26, [some (.inr (.inr 92)), some (.inl a1), some (.inl a2), some (.inl a3), none, none, none, none, none, none, none], [], g) (28, [some (.inr (.inr 92)), some (.inl a1), some (.inl a2), some (.inl a3), none, none, none, none, none, none, none], [.inl (-2)], g) rfl ?_
        cases h
        exact er rfl
      · rw [if_neg hc] at h
        refine es (21, [some (.inr (.inr 92)), some (.inl a1), some (.inl a2), some (.inl a3), none, none, none, none, none, none, none], [], g) (congrArg some (if_neg hc)) ?_
        refine ev_runs 2 (21, [some (.inr (.inr 92)), some (.inl a1), some (.inl a2), some (.inl a3), none, none, none, none, none, none, none], [], g) (23, [some (.inr (.inr 92)), some (.inl a1), some (.inl a2), some (.inl a3), none, none, none, none, none, none, none], [.inl a3, .inl a2], g) rfl ?_
        by_cases hc : ¬ a2 = a3
        · rw [if_pos hc] at h
          refine es (29, [some (.inr (.inr 92)), some (.inl a1), some (.inl a2), some (.inl a3), none, none, none, none, none, none, none], [], g) (congrArg some (if_pos hc)) ?_
          refine ev_runs 2 (29, [some (.inr (.inr 92)), some (.inl a1), some (.inl a2), some (.inl a3), none, none, none, none, none, none, none], [], g) (31, [some (.inr (.inr 92)), some (.inl a1), some (.inl a2), some (.inl a3), none, none, none, none, none, none, none], [.inl a1, .inr (.inr 92)], g) rfl ?_
          obtain ⟨q1, hq, h⟩ := Option.bind_eq_some_iff.mp h
          refine ec 88 34 [.inr (.inr 92), .inl a1] [] rfl (ev_Md_lacksOne a1 g q1.1 q1.2 hq) ?_
          show Ev 162 34 [some (.inr (.inr 92)), some (.inl a1), some (.inl a2), some (.inl a3), none, none, none, none, none, none, none] [.inl q1.1] q1.2 _ _
          refine ev_runs 2 (34, [some (.inr (.inr 92)), some (.inl a1), some (.inl a2), some (.inl a3), none, none, none, none, none, none, none], [.inl q1.1], q1.2) (38, [some (.inr (.inr 92)), some (.inl a1), some (.inl a2), some (.inl a3), some (.inl q1.1), none, none, none, none, none, none], [.inl q1.1], q1.2) rfl ?_
          by_cases hc : q1.1 = 0
          · rw [if_pos hc] at h
            refine es (44, [some (.inr (.inr 92)), some (.inl a1), some (.inl a2), some (.inl a3), some (.inl q1.1), none, none, none, none, none, none], [], q1.2) (congrArg some (if_pos hc)) ?_
            refine ev_runs 2 (44, [some (.inr (.inr 92)), some (.inl a1), some (.inl a2), some (.inl a3), some (.inl q1.1), none, none, none, none, none, none], [], q1.2) (46, [some (.inr (.inr 92)), some (.inl a1), some (.inl a2), some (.inl a3), some (.inl q1.1), none, none, none, none, none, none], [.inl a1, .inr (.inr 92)], q1.2) rfl ?_
            obtain ⟨g2, hq, h⟩ := Option.bind_eq_some_iff.mp h
            refine ec 161 49 [.inr (.inr 92), .inl a1] [] rfl (ev_Md_findAheads a1 q1.2 g2 hq) ?_
            show Ev 162 49 [some (.inr (.inr 92)), some (.inl a1), some (.inl a2), some (.inl a3), some (.inl q1.1), none, none, none, none, none, none] [] g2 _ _
            refine ev_runs 6 (49, [some (.inr (.inr 92)), some (.inl a1), some (.inl a2), some (.inl a3), some (.inl q1.1), none, none, none, none, none, none], [], g2) (58, [some (.inr (.inr 92)), some (.inl a1), some (.inl a2), some (.inl a3), some (.inl q1.1), some (.inl 0), some (.inl 0), some (.inl 0), none, none, none], [], g2) rfl ?_
            refine ev_le (L := [some (.inr (.inr 92)), some (.inl a1), some (.inl a2), some (.inl a3), none, some (.inl 0), some (.inl 0), some (.inl 0), none, none, none]) (by simp [Lle]) ?_
            refine ev_Md_longest_l58 a1 a2 a3 _ ?_ fu 0 0 0 g2 r g' h
            · intro x10 g11 r g' h
              refine ev_runs 1 (218, [none, none, none, none, none, some (.inl x10), none, none, none, none, none], [], g11) (220, [none, none, none, none, none, some (.inl x10), none, none, none, none, none], [.inl x10], g11) rfl ?_
              cases h
              exact er rfl
          · rw [if_neg hc] at h
            refine es (41, [some (.inr (.inr 92)), some (.inl a1), some (.inl a2), some (.inl a3), some (.inl q1.1), none, none, none, none, none, none], [], q1.2) (congrArg some (if_neg hc)) ?_
            refine ev_runs 1 (41, [some (.inr (.inr 92)), some (.inl a1), some (.inl a2), some (.inl a3), some (.inl q1.1), none, none, none, none, none, none], [], q1.2) (43, [some (.inr (.inr 92)), some (.inl a1), some (.inl a2), some (.inl a3), some (.inl q1.1), none, none, none, none, none, none], [.inl q1.1], q1.2) rfl ?_
            cases h
            exact er rfl
        · rw [if_neg hc] at h
          refine es (26, [some (.inr (.inr 92)), some (.inl a1), some (.inl a2), some (.inl a3), none, none, none, none, none, none, none], [], g) (congrArg some (if_neg hc)) ?_
          refine ev_runs 1 (26, [some (.inr (.inr 92)), some (.inl a1), some (.inl a2), some (.inl a3), none, none, none, none, none, none, none], [], g) (28, [some (.inr (.inr 92)), some (.inl a1), some (.inl a2), some (.inl a3), none, none, none, none, none, none, none], [.inl (-2)], g) rfl ?_
          cases h
          exact er rfl
set_option maxRecDepth 100000 in
set_option maxHeartbeats 4000000 in
theorem ev_Rn_chain_l22 (c1 : Int) (c2 : Int) (c3 : Int) (K22_78 : Int → Gx → Option (Int × Gx)) (hK22_78 : ∀ (x4 : Int) (g : Gx) (r : Int) (g' : Gx), K22_78 x4 g = some (r, g') → Ev 163 78 [some (.inr (.inr 60)), some (.inl c1), some (.inl c2), some (.inl c3), some (.inl x4), none] [] g (some (.inl r)) g') : ∀ (n22 : Nat) (v4 v5 : Int) (g : Gx) (r : Int) (g' : Gx), Rn_chain_l22 c1 c2 c3 K22_78 n22 v4 v5 g = some (r, g') → Ev 163 22 [some (.inr (.inr 60)), some (.inl c1), some (.inl c2), some (.inl c3), some (.inl v4), some (.inl v5)] [] g (some (.inl r)) g' := by
  intro n22
  induction n22 with
  | zero => intro v4 v5 g r g' h; cases h
  | succ n22 ih22 =>
    intro v4 v5 g r g' h
    rw [Rn_chain_l22] at h
    refine ev_runs 2 (22, [some (.inr (.inr 60)), some (.inl c1), some (.inl c2), some (.inl c3), some (.inl v4), some (.inl v5)], [], g) (25, [some (.inr (.inr 60)), some (.inl c1), some (.inl c2), some (.inl c3), some (.inl v4), some (.inl v5)], [.inl c3, .inl v5], g) rfl ?_
    by_cases hc : c3 ≤ v5
    · rw [if_pos hc] at h
      refine es (78, [some (.inr (.inr 60)), some (.inl c1), some (.inl c2), some (.inl c3), some (.inl v4), some (.inl v5)], [], g) (congrArg some (if_pos hc)) ?_
      exact ev_le (L := [some (.inr (.inr 60)), some (.inl c1), some (.inl c2), some (.inl c3), some (.inl v4), none]) (by simp [Lle]) (hK22_78 v4 g r g' h)
    · rw [if_neg hc] at h
      refine es (28, [some (.inr (.inr 60)), some (.inl c1), some (.inl c2), some (.inl c3), some (.inl v4), some (.inl v5)], [], g) (congrArg some (if_neg hc)) ?_
      refine ev_runs 4 (28, [some (.inr (.inr 60)), some (.inl c1), some (.inl c2), some (.inl c3), some (.inl v4), some (.inl v5)], [], g) (35, [some (.inr (.inr 60)), some (.inl c1), some (.inl c2), some (.inl c3), some (.inl v4), some (.inl v5)], [.inl v5, .inl c1, .inr (.inr 33)], g) rfl ?_
      refine ec 85 38 [.inr (.inr 33), .inl c1, .inl v5] [] rfl (ev_Hi_word c1 v5 g _ rfl) ?_
      show Ev 163 38 [some (.inr (.inr 60)), some (.inl c1), some (.inl c2), some (.inl c3), some (.inl v4), some (.inl v5)] [.inl (Hi_word c1 v5 g)] g _ _
      refine ec 93 41 [.inl (Hi_word c1 v5 g)] [] rfl (ev_Op_getter (Hi_word c1 v5 g) g _ rfl) ?_
      show Ev 163 41 [some (.inr (.inr 60)), some (.inl c1), some (.inl c2), some (.inl c3), some (.inl v4), some (.inl v5)] [.inl (Op_getter (Hi_word c1 v5 g))] g _ _
      refine ev_runs 4 (41, [some (.inr (.inr 60)), some (.inl c1), some (.inl c2), some (.inl c3), some (.inl v4), some (.inl v5)], [.inl (Op_getter (Hi_word c1 v5 g))], g) (47, [some (.inr (.inr 60)), some (.inl c1), some (.inl c2), some (.inl c3), some (.inl v4), some (.inl v5)], [.inl c3, .inl c1, .inr (.inr 33), .inl (Op_getter (Hi_word c1 v5 g))], g) rfl ?_
      refine ec 85 50 [.inr (.inr 33), .inl c1, .inl c3] [.inl (Op_getter (Hi_word c1 v5 g))] rfl (ev_Hi_word c1 c3 g _ rfl) ?_
      show Ev 163 50 [some (.inr (.inr 60)), some (.inl c1), some (.inl c2), some (.inl c3), some (.inl v4), some (.inl v5)] [.inl (Hi_word c1 c3 g), .inl (Op_getter (Hi_word c1 v5 g))] g _ _
      refine ec 92 53 [.inl (Hi_word c1 c3 g)] [.inl (Op_getter (Hi_word c1 v5 g))] rfl (ev_Op_sayer (Hi_word c1 c3 g) g _ rfl) ?_
      show Ev 163 53 [some (.inr (.inr 60)), some (.inl c1), some (.inl c2), some (.inl c3), some (.inl v4), some (.inl v5)] [.inl (Op_sayer (Hi_word c1 c3 g)), .inl (Op_getter (Hi_word c1 v5 g))] g _ _
      by_cases hc : ¬ (Op_getter (Hi_word c1 v5 g)) = (Op_sayer (Hi_word c1 c3 g))
      · rw [if_pos hc] at h
        refine es (72, [some (.inr (.inr 60)), some (.inl c1), some (.inl c2), some (.inl c3), some (.inl v4), some (.inl v5)], [], g) (congrArg some (if_pos hc)) ?_
        refine ev_runs 2 (72, [some (.inr (.inr 60)), some (.inl c1), some (.inl c2), some (.inl c3), some (.inl v4), some (.inl v5)], [], g) (22, [some (.inr (.inr 60)), some (.inl c1), some (.inl c2), some (.inl c3), some (.inl v4), some (.inl (wr (v5 + 1)))], [], g) rfl ?_
        exact ev_le (L := [some (.inr (.inr 60)), some (.inl c1), some (.inl c2), some (.inl c3), some (.inl v4), some (.inl (wr (v5 + 1)))]) (by simp [Lle]) (ih22 v4 (wr (v5 + 1)) g r g' h)
      · rw [if_neg hc] at h
        refine es (56, [some (.inr (.inr 60)), some (.inl c1), some (.inl c2), some (.inl c3), some (.inl v4), some (.inl v5)], [], g) (congrArg some (if_neg hc)) ?_
        refine ev_runs 4 (56, [some (.inr (.inr 60)), some (.inl c1), some (.inl c2), some (.inl c3), some (.inl v4), some (.inl v5)], [], g) (64, [some (.inr (.inr 60)), some (.inl c1), some (.inl c2), some (.inl c3), some (.inl v4), some (.inl v5)], [.inl v5, .inr (.inr 67), .inl v4], g) rfl ?_
        refine ec 13 67 [.inr (.inr 67), .inl v5] [.inl v4] rfl (ev_Row_at rfl rfl _ _) ?_
        show Ev 163 67 [some (.inr (.inr 60)), some (.inl c1), some (.inl c2), some (.inl c3), some (.inl v4), some (.inl v5)] [.inl (rat g 68 24 v5), .inl v4] g _ _
        refine ev_runs 4 (67, [some (.inr (.inr 60)), some (.inl c1), some (.inl c2), some (.inl c3), some (.inl v4), some (.inl v5)], [.inl (rat g 68 24 v5), .inl v4], g) (22, [some (.inr (.inr 60)), some (.inl c1), some (.inl c2), some (.inl c3), some (.inl (imax v4 (rat g 68 24 v5))), some (.inl (wr (v5 + 1)))], [], g) rfl ?_
        exact ev_le (L := [some (.inr (.inr 60)), some (.inl c1), some (.inl c2), some (.inl c3), some (.inl (imax v4 (rat g 68 24 v5))), some (.inl (wr (v5 + 1)))]) (by simp [Lle]) (ih22 (imax v4 (rat g 68 24 v5)) (wr (v5 + 1)) g r g' h)
set_option maxRecDepth 100000 in
set_option maxHeartbeats 4000000 in
theorem ev_Rn_chain_l4 (c1 : Int) (K4_105 : Int → Gx → Option (Int × Gx)) (hK4_105 : ∀ (x2 : Int) (g : Gx) (r : Int) (g' : Gx), K4_105 x2 g = some (r, g') → Ev 163 105 [none, none, some (.inl x2), none, none, none] [] g (some (.inl r)) g') : ∀ (n4 : Nat) (v2 v3 : Int) (g : Gx) (r : Int) (g' : Gx), Rn_chain_l4 c1 K4_105 n4 v2 v3 g = some (r, g') → Ev 163 4 [some (.inr (.inr 60)), some (.inl c1), some (.inl v2), some (.inl v3), none, none] [] g (some (.inl r)) g' := by
  intro n4
  induction n4 with
  | zero => intro v2 v3 g r g' h; cases h
  | succ n4 ih4 =>
    intro v2 v3 g r g' h
    rw [Rn_chain_l4] at h
    refine ev_runs 4 (4, [some (.inr (.inr 60)), some (.inl c1), some (.inl v2), some (.inl v3), none, none], [], g) (10, [some (.inr (.inr 60)), some (.inl c1), some (.inl v2), some (.inl v3), none, none], [.inl c1, .inr (.inr 33), .inl v3], g) rfl ?_
    refine ec 84 13 [.inr (.inr 33), .inl c1] [.inl v3] rfl (ev_Hi_length c1 g _ rfl) ?_
    show Ev 163 13 [some (.inr (.inr 60)), some (.inl c1), some (.inl v2), some (.inl v3), none, none] [.inl (Hi_length c1 g), .inl v3] g _ _
    by_cases hc : (Hi_length c1 g) ≤ v3
    · rw [if_pos hc] at h
      refine es (105, [some (.inr (.inr 60)), some (.inl c1), some (.inl v2), some (.inl v3), none, none], [], g) (congrArg some (if_pos hc)) ?_
      exact ev_le (L := [none, none, some (.inl v2), none, none, none]) (by simp [Lle]) (hK4_105 v2 g r g' h)
    · rw [if_neg hc] at h
      refine es (16, [some (.inr (.inr 60)), some (.inl c1), some (.inl v2), some (.inl v3), none, none], [], g) (congrArg some (if_neg hc)) ?_
      refine ev_runs 4 (16, [some (.inr (.inr 60)), some (.inl c1), some (.inl v2), some (.inl v3), none, none], [], g) (22, [some (.inr (.inr 60)), some (.inl c1), some (.inl v2), some (.inl v3), some (.inl 0), some (.inl 0)], [], g) rfl ?_
      refine ev_le (L := [some (.inr (.inr 60)), some (.inl c1), some (.inl v2), some (.inl v3), some (.inl 0), some (.inl 0)]) (by simp [Lle]) ?_
      refine ev_Rn_chain_l22 c1 v2 v3 _ ?_ fu 0 0 g r g' h
      · intro x1 g2 r g' h
        refine ev_runs 6 (78, [some (.inr (.inr 60)), some (.inl c1), some (.inl v2), some (.inl v3), some (.inl x1), none], [], g2) (87, [some (.inr (.inr 60)), some (.inl c1), some (.inl v2), some (.inl v3), some (.inl x1), none], [.inl (wr (x1 + 1)), .inl v3, .inr (.inr 67)], g2) rfl ?_
        refine ec 0 90 [.inr (.inr 67), .inl v3, .inl (wr (x1 + 1))] [] rfl (ev_Row_set rfl rfl _ _ _) ?_
        show Ev 163 90 [some (.inr (.inr 60)), some (.inl c1), some (.inl v2), some (.inl v3), some (.inl x1), none] [] (rset g2 68 24 v3 (wr (x1 + 1))) _ _
        refine ev_runs 8 (90, [some (.inr (.inr 60)), some (.inl c1), some (.inl v2), some (.inl v3), some (.inl x1), none], [], (rset g2 68 24 v3 (wr (x1 + 1)))) (4, [some (.inr (.inr 60)), some (.inl c1), some (.inl (imax v2 (wr (x1 + 1)))), some (.inl (wr (v3 + 1))), some (.inl x1), none], [], (rset g2 68 24 v3 (wr (x1 + 1)))) rfl ?_
        exact ev_le (L := [some (.inr (.inr 60)), some (.inl c1), some (.inl (imax v2 (wr (x1 + 1)))), some (.inl (wr (v3 + 1))), none, none]) (by simp [Lle]) (ih4 (imax v2 (wr (x1 + 1))) (wr (v3 + 1)) (rset g2 68 24 v3 (wr (x1 + 1))) r g' h)
set_option maxRecDepth 100000 in
set_option maxHeartbeats 4000000 in
theorem ev_Rn_chain (a1 : Int) (g : Gx) (r : Int) (g' : Gx) (h : Rn_chain a1 g = some (r, g')) : Ev 163 0 [some (.inr (.inr 60)), some (.inl a1), none, none, none, none] [] g (some (.inl r)) g' := by
  rw [Rn_chain] at h
  refine ev_runs 4 (0, [some (.inr (.inr 60)), some (.inl a1), none, none, none, none], [], g) (4, [some (.inr (.inr 60)), some (.inl a1), some (.inl 0), some (.inl 0), none, none], [], g) rfl ?_
  refine ev_le (L := [some (.inr (.inr 60)), some (.inl a1), some (.inl 0), some (.inl 0), none, none]) (by simp [Lle]) ?_
  refine ev_Rn_chain_l4 a1 _ ?_ fu 0 0 g r g' h
  · intro x3 g4 r g' h
    refine ev_runs 1 (105, [none, none, some (.inl x3), none, none, none], [], g4) (106, [none, none, some (.inl x3), none, none, none], [.inl x3], g4) rfl ?_
    cases h
    exact er rfl
set_option maxRecDepth 100000 in
set_option maxHeartbeats 4000000 in
theorem ev_Rn_goesWithOneAhead_l32 (c1 : Int) (c3 : Int) (c4 : Int) (K32_83 : Gx → Option (Int × Gx)) (hK32_83 : ∀ (g : Gx) (r : Int) (g' : Gx), K32_83 g = some (r, g') → Ev 164 83 [none, none, none, none, none, none, none] [] g (some (.inl r)) g') : ∀ (n32 : Nat) (v5 : Int) (g : Gx) (r : Int) (g' : Gx), Rn_goesWithOneAhead_l32 c1 c3 c4 K32_83 n32 v5 g = some (r, g') → Ev 164 32 [some (.inr (.inr 60)), some (.inl c1), none, some (.inl c3), some (.inl c4), some (.inl v5), none] [] g (some (.inl r)) g' := by
  intro n32
  induction n32 with
  | zero => intro v5 g r g' h; cases h
  | succ n32 ih32 =>
    intro v5 g r g' h
    rw [Rn_goesWithOneAhead_l32] at h
    refine ev_runs 1 (32, [some (.inr (.inr 60)), some (.inl c1), none, some (.inl c3), some (.inl c4), some (.inl v5), none], [], g) (34, [some (.inr (.inr 60)), some (.inl c1), none, some (.inl c3), some (.inl c4), some (.inl v5), none], [.inl v5], g) rfl ?_
    by_cases hc : v5 < 0
    · rw [if_pos hc] at h
      refine es (83, [some (.inr (.inr 60)), some (.inl c1), none, some (.inl c3), some (.inl c4), some (.inl v5), none], [], g) (congrArg some (if_pos hc)) ?_
      exact ev_le (L := [none, none, none, none, none, none, none]) (by simp [Lle]) (hK32_83 g r g' h)
    · rw [if_neg hc] at h
      refine es (37, [some (.inr (.inr 60)), some (.inl c1), none, some (.inl c3), some (.inl c4), some (.inl v5), none], [], g) (congrArg some (if_neg hc)) ?_
      refine ev_runs 4 (37, [some (.inr (.inr 60)), some (.inl c1), none, some (.inl c3), some (.inl c4), some (.inl v5), none], [], g) (44, [some (.inr (.inr 60)), some (.inl c1), none, some (.inl c3), some (.inl c4), some (.inl v5), none], [.inl v5, .inl c1, .inr (.inr 33)], g) rfl ?_
      refine ec 85 47 [.inr (.inr 33), .inl c1, .inl v5] [] rfl (ev_Hi_word c1 v5 g _ rfl) ?_
      show Ev 164 47 [some (.inr (.inr 60)), some (.inl c1), none, some (.inl c3), some (.inl c4), some (.inl v5), none] [.inl (Hi_word c1 v5 g)] g _ _
      refine ev_runs 3 (47, [some (.inr (.inr 60)), some (.inl c1), none, some (.inl c3), some (.inl c4), some (.inl v5), none], [.inl (Hi_word c1 v5 g)], g) (52, [some (.inr (.inr 60)), some (.inl c1), none, some (.inl c3), some (.inl c4), some (.inl v5), some (.inl (Hi_word c1 v5 g))], [.inl (Hi_word c1 v5 g), .inl c3], g) rfl ?_
      refine ec 139 55 [.inl c3, .inl (Hi_word c1 v5 g)] [] rfl (ev_Rn_takesPart c3 (Hi_word c1 v5 g) g _ rfl) ?_
      show Ev 164 55 [some (.inr (.inr 60)), some (.inl c1), none, some (.inl c3), some (.inl c4), some (.inl v5), some (.inl (Hi_word c1 v5 g))] [.inl (Rn_takesPart c3 (Hi_word c1 v5 g))] g _ _
      by_cases hc : ¬ (Rn_takesPart c3 (Hi_word c1 v5 g)) = 0
      · rw [if_pos hc] at h
        refine es (68, [some (.inr (.inr 60)), some (.inl c1), none, some (.inl c3), some (.inl c4), some (.inl v5), some (.inl (Hi_word c1 v5 g))], [], g) (congrArg some (if_pos hc)) ?_
        refine ev_runs 3 (68, [some (.inr (.inr 60)), some (.inl c1), none, some (.inl c3), some (.inl c4), some (.inl v5), some (.inl (Hi_word c1 v5 g))], [], g) (73, [some (.inr (.inr 60)), some (.inl c1), none, some (.inl c3), some (.inl c4), some (.inl v5), some (.inl (Hi_word c1 v5 g))], [.inl c4, .inl c3, .inl (Hi_word c1 v5 g)], g) rfl ?_
        refine ec 157 76 [.inl (Hi_word c1 v5 g), .inl c3, .inl c4] [] rfl (ev_Rn_goes (Hi_word c1 v5 g) c3 c4 g _ rfl) ?_
        show Ev 164 76 [some (.inr (.inr 60)), some (.inl c1), none, some (.inl c3), some (.inl c4), some (.inl v5), some (.inl (Hi_word c1 v5 g))] [.inl (Rn_goes (Hi_word c1 v5 g) c3 c4)] g _ _
        cases h
        exact er (if_pos (bo_Rn_goes (Hi_word c1 v5 g) c3 c4))
      · rw [if_neg hc] at h
        refine es (58, [some (.inr (.inr 60)), some (.inl c1), none, some (.inl c3), some (.inl c4), some (.inl v5), some (.inl (Hi_word c1 v5 g))], [], g) (congrArg some (if_neg hc)) ?_
        refine ev_runs 2 (58, [some (.inr (.inr 60)), some (.inl c1), none, some (.inl c3), some (.inl c4), some (.inl v5), some (.inl (Hi_word c1 v5 g))], [], g) (62, [some (.inr (.inr 60)), some (.inl c1), none, some (.inl c3), some (.inl c4), some (.inl v5), some (.inl (Hi_word c1 v5 g))], [.inl (Hi_word c1 v5 g), .inl c4], g) rfl ?_
        refine ec 139 65 [.inl c4, .inl (Hi_word c1 v5 g)] [] rfl (ev_Rn_takesPart c4 (Hi_word c1 v5 g) g _ rfl) ?_
        show Ev 164 65 [some (.inr (.inr 60)), some (.inl c1), none, some (.inl c3), some (.inl c4), some (.inl v5), some (.inl (Hi_word c1 v5 g))] [.inl (Rn_takesPart c4 (Hi_word c1 v5 g))] g _ _
        by_cases hc : (Rn_takesPart c4 (Hi_word c1 v5 g)) = 0
        · rw [if_pos hc] at h
          refine es (77, [some (.inr (.inr 60)), some (.inl c1), none, some (.inl c3), some (.inl c4), some (.inl v5), some (.inl (Hi_word c1 v5 g))], [], g) (congrArg some (if_pos hc)) ?_
          refine ev_runs 2 (77, [some (.inr (.inr 60)), some (.inl c1), none, some (.inl c3), some (.inl c4), some (.inl v5), some (.inl (Hi_word c1 v5 g))], [], g) (32, [some (.inr (.inr 60)), some (.inl c1), none, some (.inl c3), some (.inl c4), some (.inl (wr (v5 + (-1)))), some (.inl (Hi_word c1 v5 g))], [], g) rfl ?_
          exact ev_le (L := [some (.inr (.inr 60)), some (.inl c1), none, some (.inl c3), some (.inl c4), some (.inl (wr (v5 + (-1)))), none]) (by simp [Lle]) (ih32 (wr (v5 + (-1))) g r g' h)
        · rw [if_neg hc] at h
          refine es (68, [some (.inr (.inr 60)), some (.inl c1), none, some (.inl c3), some (.inl c4), some (.inl v5), some (.inl (Hi_word c1 v5 g))], [], g) (congrArg some (if_neg hc)) ?_
          refine ev_runs 3 (68, [some (.inr (.inr 60)), some (.inl c1), none, some (.inl c3), some (.inl c4), some (.inl v5), some (.inl (Hi_word c1 v5 g))], [], g) (73, [some (.inr (.inr 60)), some (.inl c1), none, some (.inl c3), some (.inl c4), some (.inl v5), some (.inl (Hi_word c1 v5 g))], [.inl c4, .inl c3, .inl (Hi_word c1 v5 g)], g) rfl ?_
          refine ec 157 76 [.inl (Hi_word c1 v5 g), .inl c3, .inl c4] [] rfl (ev_Rn_goes (Hi_word c1 v5 g) c3 c4 g _ rfl) ?_
          show Ev 164 76 [some (.inr (.inr 60)), some (.inl c1), none, some (.inl c3), some (.inl c4), some (.inl v5), some (.inl (Hi_word c1 v5 g))] [.inl (Rn_goes (Hi_word c1 v5 g) c3 c4)] g _ _
          cases h
          exact er (if_pos (bo_Rn_goes (Hi_word c1 v5 g) c3 c4))
set_option maxRecDepth 100000 in
set_option maxHeartbeats 4000000 in
theorem ev_Rn_goesWithOneAhead (a1 a2 : Int) (g : Gx) (r : Int) (g' : Gx) (h : Rn_goesWithOneAhead a1 a2 g = some (r, g')) : Ev 164 0 [some (.inr (.inr 60)), some (.inl a1), some (.inl a2), none, none, none, none] [] g (some (.inl r)) g' := by
  rw [Rn_goesWithOneAhead] at h
  refine ev_runs 4 (0, [some (.inr (.inr 60)), some (.inl a1), some (.inl a2), none, none, none, none], [], g) (6, [some (.inr (.inr 60)), some (.inl a1), some (.inl a2), none, none, none, none], [.inl a2, .inl a1, .inr (.inr 33)], g) rfl ?_
  refine ec 85 9 [.inr (.inr 33), .inl a1, .inl a2] [] rfl (ev_Hi_word a1 a2 g _ rfl) ?_
  show Ev 164 9 [some (.inr (.inr 60)), some (.inl a1), some (.inl a2), none, none, none, none] [.inl (Hi_word a1 a2 g)] g _ _
  refine ec 92 12 [.inl (Hi_word a1 a2 g)] [] rfl (ev_Op_sayer (Hi_word a1 a2 g) g _ rfl) ?_
  show Ev 164 12 [some (.inr (.inr 60)), some (.inl a1), some (.inl a2), none, none, none, none] [.inl (Op_sayer (Hi_word a1 a2 g))] g _ _
  refine ev_runs 5 (12, [some (.inr (.inr 60)), some (.inl a1), some (.inl a2), none, none, none, none], [.inl (Op_sayer (Hi_word a1 a2 g))], g) (19, [some (.inr (.inr 60)), some (.inl a1), some (.inl a2), some (.inl (Op_sayer (Hi_word a1 a2 g))), none, none, none], [.inl a2, .inl a1, .inr (.inr 33)], g) rfl ?_
  refine ec 85 22 [.inr (.inr 33), .inl a1, .inl a2] [] rfl (ev_Hi_word a1 a2 g _ rfl) ?_
  show Ev 164 22 [some (.inr (.inr 60)), some (.inl a1), some (.inl a2), some (.inl (Op_sayer (Hi_word a1 a2 g))), none, none, none] [.inl (Hi_word a1 a2 g)] g _ _
  refine ec 93 25 [.inl (Hi_word a1 a2 g)] [] rfl (ev_Op_getter (Hi_word a1 a2 g) g _ rfl) ?_
  show Ev 164 25 [some (.inr (.inr 60)), some (.inl a1), some (.inl a2), some (.inl (Op_sayer (Hi_word a1 a2 g))), none, none, none] [.inl (Op_getter (Hi_word a1 a2 g))] g _ _
  refine ev_runs 5 (25, [some (.inr (.inr 60)), some (.inl a1), some (.inl a2), some (.inl (Op_sayer (Hi_word a1 a2 g))), none, none, none], [.inl (Op_getter (Hi_word a1 a2 g))], g) (32, [some (.inr (.inr 60)), some (.inl a1), some (.inl a2), some (.inl (Op_sayer (Hi_word a1 a2 g))), some (.inl (Op_getter (Hi_word a1 a2 g))), some (.inl (wr (a2 - 1))), none], [], g) rfl ?_
  refine ev_le (L := [some (.inr (.inr 60)), some (.inl a1), none, some (.inl (Op_sayer (Hi_word a1 a2 g))), some (.inl (Op_getter (Hi_word a1 a2 g))), some (.inl (wr (a2 - 1))), none]) (by simp [Lle]) ?_
  refine ev_Rn_goesWithOneAhead_l32 a1 (Op_sayer (Hi_word a1 a2 g)) (Op_getter (Hi_word a1 a2 g)) _ ?_ fu (wr (a2 - 1)) g r g' h
  · intro g1 r g' h
    refine ev_runs 1 (83, [none, none, none, none, none, none, none], [], g1) (84, [none, none, none, none, none, none, none], [.inl 0], g1) rfl ?_
    cases h
    exact er rfl
set_option maxRecDepth 100000 in
set_option maxHeartbeats 4000000 in
theorem ev_Rn_packed_l4 (c1 : Int) (K4_34 : Int → Gx → Option (Int × Gx)) (hK4_34 : ∀ (x2 : Int) (g : Gx) (r : Int) (g' : Gx), K4_34 x2 g = some (r, g') → Ev 165 34 [none, none, some (.inl x2), none] [] g (some (.inl r)) g') : ∀ (n4 : Nat) (v2 v3 : Int) (g : Gx) (r : Int) (g' : Gx), Rn_packed_l4 c1 K4_34 n4 v2 v3 g = some (r, g') → Ev 165 4 [some (.inr (.inr 60)), some (.inl c1), some (.inl v2), some (.inl v3)] [] g (some (.inl r)) g' := by
  intro n4
  induction n4 with
  | zero => intro v2 v3 g r g' h; cases h
  | succ n4 ih4 =>
    intro v2 v3 g r g' h
    rw [Rn_packed_l4] at h
    refine ev_runs 4 (4, [some (.inr (.inr 60)), some (.inl c1), some (.inl v2), some (.inl v3)], [], g) (10, [some (.inr (.inr 60)), some (.inl c1), some (.inl v2), some (.inl v3)], [.inl c1, .inr (.inr 33), .inl v3], g) rfl ?_
    refine ec 84 13 [.inr (.inr 33), .inl c1] [.inl v3] rfl (ev_Hi_length c1 g _ rfl) ?_
    show Ev 165 13 [some (.inr (.inr 60)), some (.inl c1), some (.inl v2), some (.inl v3)] [.inl (Hi_length c1 g), .inl v3] g _ _
    by_cases hc : (Hi_length c1 g) ≤ v3
    · rw [if_pos hc] at h
      refine es (34, [some (.inr (.inr 60)), some (.inl c1), some (.inl v2), some (.inl v3)], [], g) (congrArg some (if_pos hc)) ?_
      exact ev_le (L := [none, none, some (.inl v2), none]) (by simp [Lle]) (hK4_34 v2 g r g' h)
    · rw [if_neg hc] at h
      refine es (16, [some (.inr (.inr 60)), some (.inl c1), some (.inl v2), some (.inl v3)], [], g) (congrArg some (if_neg hc)) ?_
      refine ev_runs 3 (16, [some (.inr (.inr 60)), some (.inl c1), some (.inl v2), some (.inl v3)], [], g) (19, [some (.inr (.inr 60)), some (.inl c1), some (.inl v2), some (.inl v3)], [.inl v3, .inl c1, .inr (.inr 60)], g) rfl ?_
      obtain ⟨q1, hq, h⟩ := Option.bind_eq_some_iff.mp h
      refine ec 164 22 [.inr (.inr 60), .inl c1, .inl v3] [] rfl (ev_Rn_goesWithOneAhead c1 v3 g q1.1 q1.2 hq) ?_
      show Ev 165 22 [some (.inr (.inr 60)), some (.inl c1), some (.inl v2), some (.inl v3)] [.inl q1.1] q1.2 _ _
      by_cases hc : ¬ q1.1 = 0
      · rw [if_pos hc] at h
        refine es (28, [some (.inr (.inr 60)), some (.inl c1), some (.inl v2), some (.inl v3)], [], q1.2) (congrArg some (if_pos hc)) ?_
        refine ev_runs 2 (28, [some (.inr (.inr 60)), some (.inl c1), some (.inl v2), some (.inl v3)], [], q1.2) (4, [some (.inr (.inr 60)), some (.inl c1), some (.inl v2), some (.inl (wr (v3 + 1)))], [], q1.2) rfl ?_
        exact ev_le (L := [some (.inr (.inr 60)), some (.inl c1), some (.inl v2), some (.inl (wr (v3 + 1)))]) (by simp [Lle]) (ih4 v2 (wr (v3 + 1)) q1.2 r g' h)
      · rw [if_neg hc] at h
        refine es (25, [some (.inr (.inr 60)), some (.inl c1), some (.inl v2), some (.inl v3)], [], q1.2) (congrArg some (if_neg hc)) ?_
        refine ev_runs 3 (25, [some (.inr (.inr 60)), some (.inl c1), some (.inl v2), some (.inl v3)], [], q1.2) (4, [some (.inr (.inr 60)), some (.inl c1), some (.inl (wr (v2 + 1))), some (.inl (wr (v3 + 1)))], [], q1.2) rfl ?_
        exact ev_le (L := [some (.inr (.inr 60)), some (.inl c1), some (.inl (wr (v2 + 1))), some (.inl (wr (v3 + 1)))]) (by simp [Lle]) (ih4 (wr (v2 + 1)) (wr (v3 + 1)) q1.2 r g' h)
set_option maxRecDepth 100000 in
set_option maxHeartbeats 4000000 in
theorem ev_Rn_packed (a1 : Int) (g : Gx) (r : Int) (g' : Gx) (h : Rn_packed a1 g = some (r, g')) : Ev 165 0 [some (.inr (.inr 60)), some (.inl a1), none, none] [] g (some (.inl r)) g' := by
  rw [Rn_packed] at h
  refine ev_runs 4 (0, [some (.inr (.inr 60)), some (.inl a1), none, none], [], g) (4, [some (.inr (.inr 60)), some (.inl a1), some (.inl 0), some (.inl 0)], [], g) rfl ?_
  refine ev_le (L := [some (.inr (.inr 60)), some (.inl a1), some (.inl 0), some (.inl 0)]) (by simp [Lle]) ?_
  refine ev_Rn_packed_l4 a1 _ ?_ fu 0 0 g r g' h
  · intro x2 g3 r g' h
    refine ev_runs 1 (34, [none, none, some (.inl x2), none], [], g3) (35, [none, none, some (.inl x2), none], [.inl x2], g3) rfl ?_
    cases h
    exact er rfl
set_option maxRecDepth 100000 in
set_option maxHeartbeats 4000000 in
theorem ev_Op_trips (a1 a2 : Int) (g : Gx) (r : Int) (g' : Gx) (h : Op_trips a1 a2 g = some (r, g')) : Ev 166 0 [some (.inr (.inr 0)), some (.inl a1), some (.inl a2), none] [] g (some (.inl r)) g' := by
  rw [Op_trips] at h
  refine ev_runs 1 (0, [some (.inr (.inr 0)), some (.inl a1), some (.inl a2), none], [], g) (1, [some (.inr (.inr 0)), some (.inl a1), some (.inl a2), none], [.inl a1], g) rfl ?_
  refine ec 83 4 [.inl a1] [] rfl (ev_Op_isHistory a1 g _ rfl) ?_
  show Ev 166 4 [some (.inr (.inr 0)), some (.inl a1), some (.inl a2), none] [.inl (Op_isHistory a1)] g _ _
  by_cases hc : (Op_isHistory a1) = 0
  · rw [if_pos hc] at h
    refine es (16, [some (.inr (.inr 0)), some (.inl a1), some (.inl a2), none], [], g) (congrArg some (if_pos hc)) ?_
    refine ev_runs 1 (16, [some (.inr (.inr 0)), some (.inl a1), some (.inl a2), none], [], g) (18, [some (.inr (.inr 0)), some (.inl a1), some (.inl a2), none], [.inl (-2)], g) rfl ?_
    cases h
    exact er rfl
  · rw [if_neg hc] at h
    refine es (7, [some (.inr (.inr 0)), some (.inl a1), some (.inl a2), none], [], g) (congrArg some (if_neg hc)) ?_
    refine ev_runs 1 (7, [some (.inr (.inr 0)), some (.inl a1), some (.inl a2), none], [], g) (8, [some (.inr (.inr 0)), some (.inl a1), some (.inl a2), none], [.inl a2], g) rfl ?_
    by_cases hc : a2 < 0
    · rw [if_pos hc] at h
      refine es (16, [some (.inr (.inr 0)), some (.inl a1), some (.inl a2), none], [], g) (congrArg some (if_pos hc)) ?_
      refine ev_runs 1 (16, [some (.inr (.inr 0)), some (.inl a1), some (.inl a2), none], [], g) (18, [some (.inr (.inr 0)), some (.inl a1), some (.inl a2), none], [.inl (-2)], g) rfl ?_
      cases h
      exact er rfl
    · rw [if_neg hc] at h
      refine es (11, [some (.inr (.inr 0)), some (.inl a1), some (.inl a2), none], [], g) (congrArg some (if_neg hc)) ?_
      refine ev_runs 2 (11, [some (.inr (.inr 0)), some (.inl a1), some (.inl a2), none], [], g) (13, [some (.inr (.inr 0)), some (.inl a1), some (.inl a2), none], [.inl 1, .inl a2], g) rfl ?_
      by_cases hc : a2 ≤ 1
      · rw [if_pos hc] at h
        refine es (19, [some (.inr (.inr 0)), some (.inl a1), some (.inl a2), none], [], g) (congrArg some (if_pos hc)) ?_
        refine ev_runs 2 (19, [some (.inr (.inr 0)), some (.inl a1), some (.inl a2), none], [], g) (21, [some (.inr (.inr 0)), some (.inl a1), some (.inl a2), none], [.inl a1, .inr (.inr 0)], g) rfl ?_
        obtain ⟨q1, hq, h⟩ := Option.bind_eq_some_iff.mp h
        refine ec 75 24 [.inr (.inr 0), .inl a1] [] rfl (ev_Op_hindrance a1 g q1.1 q1.2 hq) ?_
        show Ev 166 24 [some (.inr (.inr 0)), some (.inl a1), some (.inl a2), none] [.inl q1.1] q1.2 _ _
        refine ev_runs 2 (24, [some (.inr (.inr 0)), some (.inl a1), some (.inl a2), none], [.inl q1.1], q1.2) (26, [some (.inr (.inr 0)), some (.inl a1), some (.inl a2), some (.inl q1.1)], [.inl q1.1], q1.2) rfl ?_
        by_cases hc : q1.1 = 0
        · rw [if_pos hc] at h
          refine es (31, [some (.inr (.inr 0)), some (.inl a1), some (.inl a2), some (.inl q1.1)], [], q1.2) (congrArg some (if_pos hc)) ?_
          refine ev_runs 1 (31, [some (.inr (.inr 0)), some (.inl a1), some (.inl a2), some (.inl q1.1)], [], q1.2) (32, [some (.inr (.inr 0)), some (.inl a1), some (.inl a2), some (.inl q1.1)], [.inl a2], q1.2) rfl ?_
          by_cases hc : ¬ a2 = 0
          · rw [if_pos hc] at h
            refine es (46, [some (.inr (.inr 0)), some (.inl a1), some (.inl a2), some (.inl q1.1)], [], q1.2) (congrArg some (if_pos hc)) ?_
            refine ev_runs 3 (46, [some (.inr (.inr 0)), some (.inl a1), some (.inl a2), some (.inl q1.1)], [], q1.2) (51, [some (.inr (.inr 0)), some (.inl a1), some (.inl a2), some (.inl q1.1)], [.inl a1, .inr (.inr 60)], q1.2) rfl ?_
            obtain ⟨q2, hq, h⟩ := Option.bind_eq_some_iff.mp h
            refine ec 165 54 [.inr (.inr 60), .inl a1] [] rfl (ev_Rn_packed a1 q1.2 q2.1 q2.2 hq) ?_
            show Ev 166 54 [some (.inr (.inr 0)), some (.inl a1), some (.inl a2), some (.inl q1.1)] [.inl q2.1] q2.2 _ _
            cases h
            exact er rfl
          · rw [if_neg hc] at h
            refine es (35, [some (.inr (.inr 0)), some (.inl a1), some (.inl a2), some (.inl q1.1)], [], q1.2) (congrArg some (if_neg hc)) ?_
            refine ev_runs 3 (35, [some (.inr (.inr 0)), some (.inl a1), some (.inl a2), some (.inl q1.1)], [], q1.2) (40, [some (.inr (.inr 0)), some (.inl a1), some (.inl a2), some (.inl q1.1)], [.inl a1, .inr (.inr 60)], q1.2) rfl ?_
            obtain ⟨q3, hq, h⟩ := Option.bind_eq_some_iff.mp h
            refine ec 163 43 [.inr (.inr 60), .inl a1] [] rfl (ev_Rn_chain a1 q1.2 q3.1 q3.2 hq) ?_
            show Ev 166 43 [some (.inr (.inr 0)), some (.inl a1), some (.inl a2), some (.inl q1.1)] [.inl q3.1] q3.2 _ _
            refine ev_runs 1 (43, [some (.inr (.inr 0)), some (.inl a1), some (.inl a2), some (.inl q1.1)], [.inl q3.1], q3.2) (54, [some (.inr (.inr 0)), some (.inl a1), some (.inl a2), some (.inl q1.1)], [.inl q3.1], q3.2) rfl ?_
            cases h
            exact er rfl
        · rw [if_neg hc] at h
          refine es (29, [some (.inr (.inr 0)), some (.inl a1), some (.inl a2), some (.inl q1.1)], [], q1.2) (congrArg some (if_neg hc)) ?_
          refine ev_runs 1 (29, [some (.inr (.inr 0)), some (.inl a1), some (.inl a2), some (.inl q1.1)], [], q1.2) (30, [some (.inr (.inr 0)), some (.inl a1), some (.inl a2), some (.inl q1.1)], [.inl q1.1], q1.2) rfl ?_
          cases h
          exact er rfl
      · rw [if_neg hc] at h
        refine es (16, [some (.inr (.inr 0)), some (.inl a1), some (.inl a2), none], [], g) (congrArg some (if_neg hc)) ?_
        refine ev_runs 1 (16, [some (.inr (.inr 0)), some (.inl a1), some (.inl a2), none], [], g) (18, [some (.inr (.inr 0)), some (.inl a1), some (.inl a2), none], [.inl (-2)], g) rfl ?_
        cases h
        exact er rfl
