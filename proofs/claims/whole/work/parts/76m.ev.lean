/-! The small machine does what the functions say. Printed by wip/gen/gen_parts.py. -/
set_option maxRecDepth 100000 in
set_option maxHeartbeats 4000000 in
theorem ev_Md_digest_l6 (K6_31 : Int → Gx → Option (Int × Gx)) (hK6_31 : ∀ (x1 : Int) (g : Gx) (r : Int) (g' : Gx), K6_31 x1 g = some (r, g') → Ev 254 31 [some (.inr (.inr 92)), some (.inr (.inl x1)), none, none, none, none] [] g (some (.inr (.inl r))) g') : ∀ (n6 : Nat) (v1 v3 : Int) (g : Gx) (r : Int) (g' : Gx), Md_digest_l6 K6_31 n6 v1 v3 g = some (r, g') → Ev 254 6 [some (.inr (.inr 92)), some (.inr (.inl v1)), none, some (.inl v3), none, none] [] g (some (.inr (.inl r))) g' := by
  intro n6
  induction n6 with
  | zero => intro v1 v3 g r g' h; cases h
  | succ n6 ih6 =>
    intro v1 v3 g r g' h
    rw [Md_digest_l6] at h
    refine ev_runs 2 (6, [some (.inr (.inr 92)), some (.inr (.inl v1)), none, some (.inl v3), none, none], [], g) (9, [some (.inr (.inr 92)), some (.inr (.inl v1)), none, some (.inl v3), none, none], [.inl 6, .inl v3], g) rfl ?_
    by_cases hc : 6 ≤ v3
    · rw [if_pos hc] at h
      refine es (31, [some (.inr (.inr 92)), some (.inr (.inl v1)), none, some (.inl v3), none, none], [], g) (congrArg some (if_pos hc)) ?_
      exact ev_le (L := [some (.inr (.inr 92)), some (.inr (.inl v1)), none, none, none, none]) (by simp [Lle]) (hK6_31 v1 g r g' h)
    · rw [if_neg hc] at h
      refine es (12, [some (.inr (.inr 92)), some (.inr (.inl v1)), none, some (.inl v3), none, none], [], g) (congrArg some (if_neg hc)) ?_
      refine ev_runs 5 (12, [some (.inr (.inr 92)), some (.inr (.inl v1)), none, some (.inl v3), none, none], [], g) (19, [some (.inr (.inr 92)), some (.inr (.inl v1)), none, some (.inl v3), none, none], [.inl v3, .inr (.inr 92), .inr (.inl (wl (31 * v1)))], g) rfl ?_
      obtain ⟨q1, hq, h⟩ := Option.bind_eq_some_iff.mp h
      refine ec 251 22 [.inr (.inr 92), .inl v3] [.inr (.inl (wl (31 * v1)))] rfl (ev_Md_count v3 g q1.1 q1.2 hq) ?_
      show Ev 254 22 [some (.inr (.inr 92)), some (.inr (.inl v1)), none, some (.inl v3), none, none] [.inl q1.1, .inr (.inl (wl (31 * v1)))] q1.2 _ _
      refine ev_runs 5 (22, [some (.inr (.inr 92)), some (.inr (.inl v1)), none, some (.inl v3), none, none], [.inl q1.1, .inr (.inl (wl (31 * v1)))], q1.2) (6, [some (.inr (.inr 92)), some (.inr (.inl (wl ((wl (31 * v1)) + q1.1)))), none, some (.inl (wr (v3 + 1))), none, none], [], q1.2) rfl ?_
      exact ev_le (L := [some (.inr (.inr 92)), some (.inr (.inl (wl ((wl (31 * v1)) + q1.1)))), none, some (.inl (wr (v3 + 1))), none, none]) (by simp [Lle]) (ih6 (wl ((wl (31 * v1)) + q1.1)) (wr (v3 + 1)) q1.2 r g' h)
set_option maxRecDepth 100000 in
set_option maxHeartbeats 4000000 in
theorem ev_Md_digest_l94 (c3 : Int) (c4 : Int) (K94_128 : Int → Gx → Option (Int × Gx)) (hK94_128 : ∀ (x1 : Int) (g : Gx) (r : Int) (g' : Gx), K94_128 x1 g = some (r, g') → Ev 254 128 [some (.inr (.inr 92)), some (.inr (.inl x1)), none, some (.inl c3), some (.inl c4), none] [] g (some (.inr (.inl r))) g') : ∀ (n94 : Nat) (v1 v5 : Int) (g : Gx) (r : Int) (g' : Gx), Md_digest_l94 c3 c4 K94_128 n94 v1 v5 g = some (r, g') → Ev 254 94 [some (.inr (.inr 92)), some (.inr (.inl v1)), none, some (.inl c3), some (.inl c4), some (.inl v5)] [] g (some (.inr (.inl r))) g' := by
  intro n94
  induction n94 with
  | zero => intro v1 v5 g r g' h; cases h
  | succ n94 ih94 =>
    intro v1 v5 g r g' h
    rw [Md_digest_l94] at h
    refine ev_runs 4 (94, [some (.inr (.inr 92)), some (.inr (.inl v1)), none, some (.inl c3), some (.inl c4), some (.inl v5)], [], g) (102, [some (.inr (.inr 92)), some (.inr (.inl v1)), none, some (.inl c3), some (.inl c4), some (.inl v5)], [.inl c4, .inr (.inr 110), .inl v5], g) rfl ?_
    by_cases hc : 0 ≤ c4 ∧ c4 < 30
    · rw [if_pos hc] at h
      refine es (103, [some (.inr (.inr 92)), some (.inr (.inl v1)), none, some (.inl c3), some (.inl c4), some (.inl v5)], [.inl (g 110 c4.toNat), .inl v5], g) (if_pos hc) ?_
      by_cases hc : (g 110 c4.toNat) ≤ v5
      · rw [if_pos hc] at h
        refine es (128, [some (.inr (.inr 92)), some (.inr (.inl v1)), none, some (.inl c3), some (.inl c4), some (.inl v5)], [], g) (congrArg some (if_pos hc)) ?_
        exact ev_le (L := [some (.inr (.inr 92)), some (.inr (.inl v1)), none, some (.inl c3), some (.inl c4), none]) (by simp [Lle]) (hK94_128 v1 g r g' h)
      · rw [if_neg hc] at h
        refine es (106, [some (.inr (.inr 92)), some (.inr (.inl v1)), none, some (.inl c3), some (.inl c4), some (.inl v5)], [], g) (congrArg some (if_neg hc)) ?_
        refine ev_runs 6 (106, [some (.inr (.inr 92)), some (.inr (.inl v1)), none, some (.inl c3), some (.inl c4), some (.inl v5)], [], g) (116, [some (.inr (.inr 92)), some (.inr (.inl v1)), none, some (.inl c3), some (.inl c4), some (.inl v5)], [.inl v5, .inl c4, .inr (.inr 92), .inr (.inl (wl (31 * v1)))], g) rfl ?_
        obtain ⟨q7, hq, h⟩ := Option.bind_eq_some_iff.mp h
        refine ec 89 119 [.inr (.inr 92), .inl c4, .inl v5] [.inr (.inl (wl (31 * v1)))] rfl (ev_Md_code c4 v5 g q7.1 q7.2 hq) ?_
        show Ev 254 119 [some (.inr (.inr 92)), some (.inr (.inl v1)), none, some (.inl c3), some (.inl c4), some (.inl v5)] [.inl q7.1, .inr (.inl (wl (31 * v1)))] q7.2 _ _
        refine ev_runs 5 (119, [some (.inr (.inr 92)), some (.inr (.inl v1)), none, some (.inl c3), some (.inl c4), some (.inl v5)], [.inl q7.1, .inr (.inl (wl (31 * v1)))], q7.2) (94, [some (.inr (.inr 92)), some (.inr (.inl (wl ((wl (31 * v1)) + q7.1)))), none, some (.inl c3), some (.inl c4), some (.inl (wr (v5 + 1)))], [], q7.2) rfl ?_
        exact ev_le (L := [some (.inr (.inr 92)), some (.inr (.inl (wl ((wl (31 * v1)) + q7.1)))), none, some (.inl c3), some (.inl c4), some (.inl (wr (v5 + 1)))]) (by simp [Lle]) (ih94 (wl ((wl (31 * v1)) + q7.1)) (wr (v5 + 1)) q7.2 r g' h)
    · rw [if_neg hc] at h; cases h
set_option maxRecDepth 100000 in
set_option maxHeartbeats 4000000 in
theorem ev_Md_digest_l63 (c3 : Int) (K63_148 : Int → Gx → Option (Int × Gx)) (hK63_148 : ∀ (x1 : Int) (g : Gx) (r : Int) (g' : Gx), K63_148 x1 g = some (r, g') → Ev 254 148 [some (.inr (.inr 92)), some (.inr (.inl x1)), none, none, none, none] [] g (some (.inr (.inl r))) g') : ∀ (n63 : Nat) (v1 v4 : Int) (g : Gx) (r : Int) (g' : Gx), Md_digest_l63 c3 K63_148 n63 v1 v4 g = some (r, g') → Ev 254 63 [some (.inr (.inr 92)), some (.inr (.inl v1)), none, some (.inl c3), some (.inl v4), none] [] g (some (.inr (.inl r))) g' := by
  intro n63
  induction n63 with
  | zero => intro v1 v4 g r g' h; cases h
  | succ n63 ih63 =>
    intro v1 v4 g r g' h
    rw [Md_digest_l63] at h
    refine ev_runs 3 (63, [some (.inr (.inr 92)), some (.inr (.inl v1)), none, some (.inl c3), some (.inl v4), none], [], g) (69, [some (.inr (.inr 92)), some (.inr (.inl v1)), none, some (.inl c3), some (.inl v4), none], [.inl (g 92 26), .inl v4], g) rfl ?_
    by_cases hc : (g 92 26) ≤ v4
    · rw [if_pos hc] at h
      refine es (148, [some (.inr (.inr 92)), some (.inr (.inl v1)), none, some (.inl c3), some (.inl v4), none], [], g) (congrArg some (if_pos hc)) ?_
      exact ev_le (L := [some (.inr (.inr 92)), some (.inr (.inl v1)), none, none, none, none]) (by simp [Lle]) (hK63_148 v1 g r g' h)
    · rw [if_neg hc] at h
      refine es (72, [some (.inr (.inr 92)), some (.inr (.inl v1)), none, some (.inl c3), some (.inl v4), none], [], g) (congrArg some (if_neg hc)) ?_
      refine ev_runs 1 (72, [some (.inr (.inr 92)), some (.inr (.inl v1)), none, some (.inl c3), some (.inl v4), none], [], g) (73, [some (.inr (.inr 92)), some (.inr (.inl v1)), none, some (.inl c3), some (.inl v4), none], [.inl c3], g) rfl ?_
      by_cases hc : ¬ c3 = 0
      · rw [if_pos hc] at h
        refine es (148, [some (.inr (.inr 92)), some (.inr (.inl v1)), none, some (.inl c3), some (.inl v4), none], [], g) (congrArg some (if_pos hc)) ?_
        exact ev_le (L := [some (.inr (.inr 92)), some (.inr (.inl v1)), none, none, none, none]) (by simp [Lle]) (hK63_148 v1 g r g' h)
      · rw [if_neg hc] at h
        refine es (76, [some (.inr (.inr 92)), some (.inr (.inl v1)), none, some (.inl c3), some (.inl v4), none], [], g) (congrArg some (if_neg hc)) ?_
        refine ev_runs 6 (76, [some (.inr (.inr 92)), some (.inr (.inl v1)), none, some (.inl c3), some (.inl v4), none], [], g) (87, [some (.inr (.inr 92)), some (.inr (.inl v1)), none, some (.inl c3), some (.inl v4), none], [.inl v4, .inr (.inr 110), .inr (.inl (wl (31 * v1)))], g) rfl ?_
        by_cases hc : 0 ≤ v4 ∧ v4 < 30
        · rw [if_pos hc] at h
          refine es (88, [some (.inr (.inr 92)), some (.inr (.inl v1)), none, some (.inl c3), some (.inl v4), none], [.inl (g 110 v4.toNat), .inr (.inl (wl (31 * v1)))], g) (if_pos hc) ?_
          refine ev_runs 5 (88, [some (.inr (.inr 92)), some (.inr (.inl v1)), none, some (.inl c3), some (.inl v4), none], [.inl (g 110 v4.toNat), .inr (.inl (wl (31 * v1)))], g) (94, [some (.inr (.inr 92)), some (.inr (.inl (wl ((wl (31 * v1)) + (g 110 v4.toNat))))), none, some (.inl c3), some (.inl v4), some (.inl 0)], [], g) rfl ?_
          refine ev_le (L := [some (.inr (.inr 92)), some (.inr (.inl (wl ((wl (31 * v1)) + (g 110 v4.toNat))))), none, some (.inl c3), some (.inl v4), some (.inl 0)]) (by simp [Lle]) ?_
          refine ev_Md_digest_l94 c3 v4 _ ?_ fu (wl ((wl (31 * v1)) + (g 110 v4.toNat))) 0 g r g' h
          · intro x8 g9 r g' h
            refine ev_runs 5 (128, [some (.inr (.inr 92)), some (.inr (.inl x8)), none, some (.inl c3), some (.inl v4), none], [], g9) (136, [some (.inr (.inr 92)), some (.inr (.inl x8)), none, some (.inl c3), some (.inl v4), none], [.inl v4, .inr (.inr 92), .inr (.inl (wl (31 * x8)))], g9) rfl ?_
            obtain ⟨q10, hq, h⟩ := Option.bind_eq_some_iff.mp h
            refine ec 167 139 [.inr (.inr 92), .inl v4] [.inr (.inl (wl (31 * x8)))] rfl (ev_Md_chainOf v4 g9 q10.1 q10.2 hq) ?_
            show Ev 254 139 [some (.inr (.inr 92)), some (.inr (.inl x8)), none, some (.inl c3), some (.inl v4), none] [.inl q10.1, .inr (.inl (wl (31 * x8)))] q10.2 _ _
            refine ev_runs 5 (139, [some (.inr (.inr 92)), some (.inr (.inl x8)), none, some (.inl c3), some (.inl v4), none], [.inl q10.1, .inr (.inl (wl (31 * x8)))], q10.2) (63, [some (.inr (.inr 92)), some (.inr (.inl (wl ((wl (31 * x8)) + q10.1)))), none, some (.inl c3), some (.inl (wr (v4 + 1))), none], [], q10.2) rfl ?_
            exact ev_le (L := [some (.inr (.inr 92)), some (.inr (.inl (wl ((wl (31 * x8)) + q10.1)))), none, some (.inl c3), some (.inl (wr (v4 + 1))), none]) (by simp [Lle]) (ih63 (wl ((wl (31 * x8)) + q10.1)) (wr (v4 + 1)) q10.2 r g' h)
        · rw [if_neg hc] at h; cases h
set_option maxRecDepth 100000 in
set_option maxHeartbeats 4000000 in
theorem ev_Md_digest_l151 (K151_177 : Int → Gx → Option (Int × Gx)) (hK151_177 : ∀ (x1 : Int) (g : Gx) (r : Int) (g' : Gx), K151_177 x1 g = some (r, g') → Ev 254 177 [some (.inr (.inr 92)), some (.inr (.inl x1)), none, none, none, none] [] g (some (.inr (.inl r))) g') : ∀ (n151 : Nat) (v1 v4 : Int) (g : Gx) (r : Int) (g' : Gx), Md_digest_l151 K151_177 n151 v1 v4 g = some (r, g') → Ev 254 151 [some (.inr (.inr 92)), some (.inr (.inl v1)), none, none, some (.inl v4), none] [] g (some (.inr (.inl r))) g' := by
  intro n151
  induction n151 with
  | zero => intro v1 v4 g r g' h; cases h
  | succ n151 ih151 =>
    intro v1 v4 g r g' h
    rw [Md_digest_l151] at h
    refine ev_runs 2 (151, [some (.inr (.inr 92)), some (.inr (.inl v1)), none, none, some (.inl v4), none], [], g) (154, [some (.inr (.inr 92)), some (.inr (.inl v1)), none, none, some (.inl v4), none], [.inl 4, .inl v4], g) rfl ?_
    by_cases hc : 4 ≤ v4
    · rw [if_pos hc] at h
      refine es (177, [some (.inr (.inr 92)), some (.inr (.inl v1)), none, none, some (.inl v4), none], [], g) (congrArg some (if_pos hc)) ?_
      exact ev_le (L := [some (.inr (.inr 92)), some (.inr (.inl v1)), none, none, none, none]) (by simp [Lle]) (hK151_177 v1 g r g' h)
    · rw [if_neg hc] at h
      refine es (157, [some (.inr (.inr 92)), some (.inr (.inl v1)), none, none, some (.inl v4), none], [], g) (congrArg some (if_neg hc)) ?_
      refine ev_runs 5 (157, [some (.inr (.inr 92)), some (.inr (.inl v1)), none, none, some (.inl v4), none], [], g) (165, [some (.inr (.inr 92)), some (.inr (.inl v1)), none, none, some (.inl v4), none], [.inl v4, .inr (.inr 92), .inr (.inl (wl (31 * v1)))], g) rfl ?_
      obtain ⟨q13, hq, h⟩ := Option.bind_eq_some_iff.mp h
      refine ec 130 168 [.inr (.inr 92), .inl v4] [.inr (.inl (wl (31 * v1)))] rfl (ev_Md_momentOf v4 g q13.1 q13.2 hq) ?_
      show Ev 254 168 [some (.inr (.inr 92)), some (.inr (.inl v1)), none, none, some (.inl v4), none] [.inl q13.1, .inr (.inl (wl (31 * v1)))] q13.2 _ _
      refine ev_runs 5 (168, [some (.inr (.inr 92)), some (.inr (.inl v1)), none, none, some (.inl v4), none], [.inl q13.1, .inr (.inl (wl (31 * v1)))], q13.2) (151, [some (.inr (.inr 92)), some (.inr (.inl (wl ((wl (31 * v1)) + q13.1)))), none, none, some (.inl (wr (v4 + 1))), none], [], q13.2) rfl ?_
      exact ev_le (L := [some (.inr (.inr 92)), some (.inr (.inl (wl ((wl (31 * v1)) + q13.1)))), none, none, some (.inl (wr (v4 + 1))), none]) (by simp [Lle]) (ih151 (wl ((wl (31 * v1)) + q13.1)) (wr (v4 + 1)) q13.2 r g' h)
set_option maxRecDepth 100000 in
set_option maxHeartbeats 4000000 in
theorem ev_Md_digest (g : Gx) (r : Int) (g' : Gx) (h : Md_digest g = some (r, g')) : Ev 254 0 [some (.inr (.inr 92)), none, none, none, none, none] [] g (some (.inr (.inl r))) g' := by
  rw [Md_digest] at h
  refine ev_runs 4 (0, [some (.inr (.inr 92)), none, none, none, none, none], [], g) (6, [some (.inr (.inr 92)), some (.inr (.inl 17)), none, some (.inl 0), none, none], [], g) rfl ?_
  refine ev_le (L := [some (.inr (.inr 92)), some (.inr (.inl 17)), none, some (.inl 0), none, none]) (by simp [Lle]) ?_
  refine ev_Md_digest_l6 _ ?_ fu 17 0 g r g' h
  · intro x2 g3 r g' h
    refine ev_runs 4 (31, [some (.inr (.inr 92)), some (.inr (.inl x2)), none, none, none, none], [], g3) (37, [some (.inr (.inr 92)), some (.inr (.inl x2)), none, none, none, none], [.inr (.inr 92), .inr (.inl (wl (31 * x2)))], g3) rfl ?_
    obtain ⟨q4, hq, h⟩ := Option.bind_eq_some_iff.mp h
    refine ec 43 40 [.inr (.inr 92)] [.inr (.inl (wl (31 * x2)))] rfl (ev_Md_reads g3 q4.1 q4.2 hq) ?_
    show Ev 254 40 [some (.inr (.inr 92)), some (.inr (.inl x2)), none, none, none, none] [.inl q4.1, .inr (.inl (wl (31 * x2)))] q4.2 _ _
    refine ev_runs 7 (40, [some (.inr (.inr 92)), some (.inr (.inl x2)), none, none, none, none], [.inl q4.1, .inr (.inl (wl (31 * x2)))], q4.2) (49, [some (.inr (.inr 92)), some (.inr (.inl (wl ((wl (31 * x2)) + q4.1)))), none, none, none, none], [.inr (.inr 92), .inr (.inl (wl (31 * (wl ((wl (31 * x2)) + q4.1)))))], q4.2) rfl ?_
    obtain ⟨q5, hq, h⟩ := Option.bind_eq_some_iff.mp h
    refine ec 44 52 [.inr (.inr 92)] [.inr (.inl (wl (31 * (wl ((wl (31 * x2)) + q4.1)))))] rfl (ev_Md_readsProgram q4.2 q5.1 q5.2 hq) ?_
    show Ev 254 52 [some (.inr (.inr 92)), some (.inr (.inl (wl ((wl (31 * x2)) + q4.1)))), none, none, none, none] [.inl q5.1, .inr (.inl (wl (31 * (wl ((wl (31 * x2)) + q4.1)))))] q5.2 _ _
    refine ev_runs 4 (52, [some (.inr (.inr 92)), some (.inr (.inl (wl ((wl (31 * x2)) + q4.1)))), none, none, none, none], [.inl q5.1, .inr (.inl (wl (31 * (wl ((wl (31 * x2)) + q4.1)))))], q5.2) (56, [some (.inr (.inr 92)), some (.inr (.inl (wl ((wl (31 * (wl ((wl (31 * x2)) + q4.1)))) + q5.1)))), none, none, none, none], [.inr (.inr 92)], q5.2) rfl ?_
    obtain ⟨q6, hq, h⟩ := Option.bind_eq_some_iff.mp h
    refine ec 81 59 [.inr (.inr 92)] [] rfl (ev_Md_without q5.2 q6.1 q6.2 hq) ?_
    show Ev 254 59 [some (.inr (.inr 92)), some (.inr (.inl (wl ((wl (31 * (wl ((wl (31 * x2)) + q4.1)))) + q5.1)))), none, none, none, none] [.inl q6.1] q6.2 _ _
    refine ev_runs 3 (59, [some (.inr (.inr 92)), some (.inr (.inl (wl ((wl (31 * (wl ((wl (31 * x2)) + q4.1)))) + q5.1)))), none, none, none, none], [.inl q6.1], q6.2) (63, [some (.inr (.inr 92)), some (.inr (.inl (wl ((wl (31 * (wl ((wl (31 * x2)) + q4.1)))) + q5.1)))), none, some (.inl q6.1), some (.inl 0), none], [], q6.2) rfl ?_
    refine ev_le (L := [some (.inr (.inr 92)), some (.inr (.inl (wl ((wl (31 * (wl ((wl (31 * x2)) + q4.1)))) + q5.1)))), none, some (.inl q6.1), some (.inl 0), none]) (by simp [Lle]) ?_
    refine ev_Md_digest_l63 q6.1 _ ?_ fu (wl ((wl (31 * (wl ((wl (31 * x2)) + q4.1)))) + q5.1)) 0 q6.2 r g' h
    · intro x11 g12 r g' h
      refine ev_runs 2 (148, [some (.inr (.inr 92)), some (.inr (.inl x11)), none, none, none, none], [], g12) (151, [some (.inr (.inr 92)), some (.inr (.inl x11)), none, none, some (.inl 0), none], [], g12) rfl ?_
      refine ev_le (L := [some (.inr (.inr 92)), some (.inr (.inl x11)), none, none, some (.inl 0), none]) (by simp [Lle]) ?_
      refine ev_Md_digest_l151 _ ?_ fu x11 0 g12 r g' h
      · intro x14 g15 r g' h
        refine ev_runs 5 (177, [some (.inr (.inr 92)), some (.inr (.inl x14)), none, none, none, none], [], g15) (184, [some (.inr (.inr 92)), some (.inr (.inl x14)), none, none, none, none], [.inl 0, .inr (.inr 92), .inr (.inl (wl (31 * x14)))], g15) rfl ?_
        obtain ⟨q16, hq, h⟩ := Option.bind_eq_some_iff.mp h
        refine ec 223 187 [.inr (.inr 92), .inl 0] [.inr (.inl (wl (31 * x14)))] rfl (ev_Md_out 0 g15 q16.1 q16.2 hq) ?_
        show Ev 254 187 [some (.inr (.inr 92)), some (.inr (.inl x14)), none, none, none, none] [.inl q16.1, .inr (.inl (wl (31 * x14)))] q16.2 _ _
        refine ev_runs 2 (187, [some (.inr (.inr 92)), some (.inr (.inl x14)), none, none, none, none], [.inl q16.1, .inr (.inl (wl (31 * x14)))], q16.2) (189, [some (.inr (.inr 92)), some (.inr (.inl x14)), none, none, none, none], [.inr (.inl (wl ((wl (31 * x14)) + q16.1)))], q16.2) rfl ?_
        cases h
        exact er rfl
