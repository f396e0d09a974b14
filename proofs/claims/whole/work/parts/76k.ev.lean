/-! The small machine does what the functions say. Printed by wip/gen/gen_parts.py. -/
set_option maxRecDepth 100000 in
set_option maxHeartbeats 4000000 in
theorem ev_Md_isLeft_l5 (c1 : Int) (c2 : Int) (c3 : Int) (K5_26 : Gx → Option (Int × Gx)) (hK5_26 : ∀ (g : Gx) (r : Int) (g' : Gx), K5_26 g = some (r, g') → Ev 215 26 [some (.inr (.inr 92)), some (.inl c1), some (.inl c2), some (.inl c3), none, none, none, none] [] g (some (.inl r)) g') : ∀ (n5 : Nat) (v4 : Int) (g : Gx) (r : Int) (g' : Gx), Md_isLeft_l5 c1 c2 c3 K5_26 n5 v4 g = some (r, g') → Ev 215 5 [some (.inr (.inr 92)), some (.inl c1), some (.inl c2), some (.inl c3), some (.inl v4), none, none, none] [] g (some (.inl r)) g' := by
  intro n5
  induction n5 with
  | zero => intro v4 g r g' h; cases h
  | succ n5 ih5 =>
    intro v4 g r g' h
    rw [Md_isLeft_l5] at h
    refine ev_runs 2 (5, [some (.inr (.inr 92)), some (.inl c1), some (.inl c2), some (.inl c3), some (.inl v4), none, none, none], [], g) (9, [some (.inr (.inr 92)), some (.inl c1), some (.inl c2), some (.inl c3), some (.inl v4), none, none, none], [.inl 36, .inl v4], g) rfl ?_
    by_cases hc : 36 ≤ v4
    · rw [if_pos hc] at h
      refine es (26, [some (.inr (.inr 92)), some (.inl c1), some (.inl c2), some (.inl c3), some (.inl v4), none, none, none], [], g) (congrArg some (if_pos hc)) ?_
      exact ev_le (L := [some (.inr (.inr 92)), some (.inl c1), some (.inl c2), some (.inl c3), none, none, none, none]) (by simp [Lle]) (hK5_26 g r g' h)
    · rw [if_neg hc] at h
      refine es (12, [some (.inr (.inr 92)), some (.inl c1), some (.inl c2), some (.inl c3), some (.inl v4), none, none, none], [], g) (congrArg some (if_neg hc)) ?_
      refine ev_runs 4 (12, [some (.inr (.inr 92)), some (.inl c1), some (.inl c2), some (.inl c3), some (.inl v4), none, none, none], [], g) (19, [some (.inr (.inr 92)), some (.inl c1), some (.inl c2), some (.inl c3), some (.inl v4), none, none, none], [.inl 0, .inl v4, .inr (.inr 122)], g) rfl ?_
      by_cases hc : 0 ≤ v4 ∧ v4 < 36
      · rw [if_pos hc] at h
        refine es (20, [some (.inr (.inr 92)), some (.inl c1), some (.inl c2), some (.inl c3), some (.inl v4), none, none, none], [], (gset g 122 v4.toNat 0)) (if_pos hc) ?_
        refine ev_runs 2 (20, [some (.inr (.inr 92)), some (.inl c1), some (.inl c2), some (.inl c3), some (.inl v4), none, none, none], [], (gset g 122 v4.toNat 0)) (5, [some (.inr (.inr 92)), some (.inl c1), some (.inl c2), some (.inl c3), some (.inl (wr (v4 + 1))), none, none, none], [], (gset g 122 v4.toNat 0)) rfl ?_
        exact ev_le (L := [some (.inr (.inr 92)), some (.inl c1), some (.inl c2), some (.inl c3), some (.inl (wr (v4 + 1))), none, none, none]) (by simp [Lle]) (ih5 (wr (v4 + 1)) (gset g 122 v4.toNat 0) r g' h)
      · rw [if_neg hc] at h; cases h
set_option maxRecDepth 100000 in
set_option maxHeartbeats 4000000 in
theorem ev_Md_isLeft_l63 (c1 : Int) (c2 : Int) (c4 : Int) (c5 : Int) (K63_125 : Int → Gx → Option (Int × Gx)) (hK63_125 : ∀ (x7 : Int) (g : Gx) (r : Int) (g' : Gx), K63_125 x7 g = some (r, g') → Ev 215 125 [some (.inr (.inr 92)), some (.inl c1), some (.inl c2), none, some (.inl c4), some (.inl c5), none, some (.inl x7)] [] g (some (.inl r)) g') : ∀ (n63 : Nat) (v6 v7 : Int) (g : Gx) (r : Int) (g' : Gx), Md_isLeft_l63 c1 c2 c4 c5 K63_125 n63 v6 v7 g = some (r, g') → Ev 215 63 [some (.inr (.inr 92)), some (.inl c1), some (.inl c2), none, some (.inl c4), some (.inl c5), some (.inl v6), some (.inl v7)] [] g (some (.inl r)) g' := by
  intro n63
  induction n63 with
  | zero => intro v6 v7 g r g' h; cases h
  | succ n63 ih63 =>
    intro v6 v7 g r g' h
    rw [Md_isLeft_l63] at h
    refine ev_runs 4 (63, [some (.inr (.inr 92)), some (.inl c1), some (.inl c2), none, some (.inl c4), some (.inl c5), some (.inl v6), some (.inl v7)], [], g) (70, [some (.inr (.inr 92)), some (.inl c1), some (.inl c2), none, some (.inl c4), some (.inl c5), some (.inl v6), some (.inl v7)], [.inl c1, .inr (.inr 110), .inl v7], g) rfl ?_
    by_cases hc : 0 ≤ c1 ∧ c1 < 30
    · rw [if_pos hc] at h
      refine es (71, [some (.inr (.inr 92)), some (.inl c1), some (.inl c2), none, some (.inl c4), some (.inl c5), some (.inl v6), some (.inl v7)], [.inl (g 110 c1.toNat), .inl v7], g) (if_pos hc) ?_
      by_cases hc : (g 110 c1.toNat) ≤ v7
      · rw [if_pos hc] at h
        refine es (125, [some (.inr (.inr 92)), some (.inl c1), some (.inl c2), none, some (.inl c4), some (.inl c5), some (.inl v6), some (.inl v7)], [], g) (congrArg some (if_pos hc)) ?_
        exact ev_le (L := [some (.inr (.inr 92)), some (.inl c1), some (.inl c2), none, some (.inl c4), some (.inl c5), none, some (.inl v7)]) (by simp [Lle]) (hK63_125 v7 g r g' h)
      · rw [if_neg hc] at h
        refine es (74, [some (.inr (.inr 92)), some (.inl c1), some (.inl c2), none, some (.inl c4), some (.inl c5), some (.inl v6), some (.inl v7)], [], g) (congrArg some (if_neg hc)) ?_
        refine ev_runs 3 (74, [some (.inr (.inr 92)), some (.inl c1), some (.inl c2), none, some (.inl c4), some (.inl c5), some (.inl v6), some (.inl v7)], [], g) (78, [some (.inr (.inr 92)), some (.inl c1), some (.inl c2), none, some (.inl c4), some (.inl c5), some (.inl v6), some (.inl v7)], [.inl v7, .inl c1, .inr (.inr 92)], g) rfl ?_
        obtain ⟨q2, hq, h⟩ := Option.bind_eq_some_iff.mp h
        refine ec 89 81 [.inr (.inr 92), .inl c1, .inl v7] [] rfl (ev_Md_code c1 v7 g q2.1 q2.2 hq) ?_
        show Ev 215 81 [some (.inr (.inr 92)), some (.inl c1), some (.inl c2), none, some (.inl c4), some (.inl c5), some (.inl v6), some (.inl v7)] [.inl q2.1] q2.2 _ _
        refine ec 149 84 [.inl q2.1] [] rfl (ev_Md_queueOf q2.1 q2.2 _ rfl) ?_
        show Ev 215 84 [some (.inr (.inr 92)), some (.inl c1), some (.inl c2), none, some (.inl c4), some (.inl c5), some (.inl v6), some (.inl v7)] [.inl (Md_queueOf q2.1)] q2.2 _ _
        refine ev_runs 1 (84, [some (.inr (.inr 92)), some (.inl c1), some (.inl c2), none, some (.inl c4), some (.inl c5), some (.inl v6), some (.inl v7)], [.inl (Md_queueOf q2.1)], q2.2) (86, [some (.inr (.inr 92)), some (.inl c1), some (.inl c2), none, some (.inl c4), some (.inl c5), some (.inl v6), some (.inl v7)], [.inl c5, .inl (Md_queueOf q2.1)], q2.2) rfl ?_
        by_cases hc : ¬ (Md_queueOf q2.1) = c5
        · rw [if_pos hc] at h
          refine es (94, [some (.inr (.inr 92)), some (.inl c1), some (.inl c2), none, some (.inl c4), some (.inl c5), some (.inl v6), some (.inl v7)], [], q2.2) (congrArg some (if_pos hc)) ?_
          refine ev_runs 4 (94, [some (.inr (.inr 92)), some (.inl c1), some (.inl c2), none, some (.inl c4), some (.inl c5), some (.inl v6), some (.inl v7)], [], q2.2) (100, [some (.inr (.inr 92)), some (.inl c1), some (.inl c2), none, some (.inl c4), some (.inl c5), some (.inl v6), some (.inl v7)], [.inl v7, .inl c1, .inr (.inr 92), .inl v6], q2.2) rfl ?_
          obtain ⟨q3, hq, h⟩ := Option.bind_eq_some_iff.mp h
          refine ec 89 103 [.inr (.inr 92), .inl c1, .inl v7] [.inl v6] rfl (ev_Md_code c1 v7 q2.2 q3.1 q3.2 hq) ?_
          show Ev 215 103 [some (.inr (.inr 92)), some (.inl c1), some (.inl c2), none, some (.inl c4), some (.inl c5), some (.inl v6), some (.inl v7)] [.inl q3.1, .inl v6] q3.2 _ _
          refine ec 149 106 [.inl q3.1] [.inl v6] rfl (ev_Md_queueOf q3.1 q3.2 _ rfl) ?_
          show Ev 215 106 [some (.inr (.inr 92)), some (.inl c1), some (.inl c2), none, some (.inl c4), some (.inl c5), some (.inl v6), some (.inl v7)] [.inl (Md_queueOf q3.1), .inl v6] q3.2 _ _
          refine ev_runs 1 (106, [some (.inr (.inr 92)), some (.inl c1), some (.inl c2), none, some (.inl c4), some (.inl c5), some (.inl v6), some (.inl v7)], [.inl (Md_queueOf q3.1), .inl v6], q3.2) (108, [some (.inr (.inr 92)), some (.inl c1), some (.inl c2), none, some (.inl c4), some (.inl c5), some (.inl v6), some (.inl v7)], [.inl c5, .inl (Md_queueOf q3.1), .inl v6], q3.2) rfl ?_
          by_cases hc : ¬ (Md_queueOf q3.1) = c5
          · rw [if_pos hc] at h
            refine es (115, [some (.inr (.inr 92)), some (.inl c1), some (.inl c2), none, some (.inl c4), some (.inl c5), some (.inl v6), some (.inl v7)], [.inl v6], q3.2) (congrArg some (if_pos hc)) ?_
            refine ev_runs 5 (115, [some (.inr (.inr 92)), some (.inl c1), some (.inl c2), none, some (.inl c4), some (.inl c5), some (.inl v6), some (.inl v7)], [.inl v6], q3.2) (63, [some (.inr (.inr 92)), some (.inl c1), some (.inl c2), none, some (.inl c4), some (.inl c5), some (.inl (wr (v6 - 0))), some (.inl (wr (v7 + 1)))], [], q3.2) rfl ?_
            exact ev_le (L := [some (.inr (.inr 92)), some (.inl c1), some (.inl c2), none, some (.inl c4), some (.inl c5), some (.inl (wr (v6 - 0))), some (.inl (wr (v7 + 1)))]) (by simp [Lle]) (ih63 (wr (v6 - 0)) (wr (v7 + 1)) q3.2 r g' h)
          · rw [if_neg hc] at h
            refine es (111, [some (.inr (.inr 92)), some (.inl c1), some (.inl c2), none, some (.inl c4), some (.inl c5), some (.inl v6), some (.inl v7)], [.inl v6], q3.2) (congrArg some (if_neg hc)) ?_
            refine ev_runs 6 (111, [some (.inr (.inr 92)), some (.inl c1), some (.inl c2), none, some (.inl c4), some (.inl c5), some (.inl v6), some (.inl v7)], [.inl v6], q3.2) (63, [some (.inr (.inr 92)), some (.inl c1), some (.inl c2), none, some (.inl c4), some (.inl c5), some (.inl (wr (v6 - 1))), some (.inl (wr (v7 + 1)))], [], q3.2) rfl ?_
            exact ev_le (L := [some (.inr (.inr 92)), some (.inl c1), some (.inl c2), none, some (.inl c4), some (.inl c5), some (.inl (wr (v6 - 1))), some (.inl (wr (v7 + 1)))]) (by simp [Lle]) (ih63 (wr (v6 - 1)) (wr (v7 + 1)) q3.2 r g' h)
        · rw [if_neg hc] at h
          refine es (89, [some (.inr (.inr 92)), some (.inl c1), some (.inl c2), none, some (.inl c4), some (.inl c5), some (.inl v6), some (.inl v7)], [], q2.2) (congrArg some (if_neg hc)) ?_
          refine ev_runs 1 (89, [some (.inr (.inr 92)), some (.inl c1), some (.inl c2), none, some (.inl c4), some (.inl c5), some (.inl v6), some (.inl v7)], [], q2.2) (91, [some (.inr (.inr 92)), some (.inl c1), some (.inl c2), none, some (.inl c4), some (.inl c5), some (.inl v6), some (.inl v7)], [.inl v6], q2.2) rfl ?_
          by_cases hc : v6 ≤ 0
          · rw [if_pos hc] at h
            refine es (125, [some (.inr (.inr 92)), some (.inl c1), some (.inl c2), none, some (.inl c4), some (.inl c5), some (.inl v6), some (.inl v7)], [], q2.2) (congrArg some (if_pos hc)) ?_
            exact ev_le (L := [some (.inr (.inr 92)), some (.inl c1), some (.inl c2), none, some (.inl c4), some (.inl c5), none, some (.inl v7)]) (by simp [Lle]) (hK63_125 v7 q2.2 r g' h)
          · rw [if_neg hc] at h
            refine es (94, [some (.inr (.inr 92)), some (.inl c1), some (.inl c2), none, some (.inl c4), some (.inl c5), some (.inl v6), some (.inl v7)], [], q2.2) (congrArg some (if_neg hc)) ?_
            refine ev_runs 4 (94, [some (.inr (.inr 92)), some (.inl c1), some (.inl c2), none, some (.inl c4), some (.inl c5), some (.inl v6), some (.inl v7)], [], q2.2) (100, [some (.inr (.inr 92)), some (.inl c1), some (.inl c2), none, some (.inl c4), some (.inl c5), some (.inl v6), some (.inl v7)], [.inl v7, .inl c1, .inr (.inr 92), .inl v6], q2.2) rfl ?_
            obtain ⟨q4, hq, h⟩ := Option.bind_eq_some_iff.mp h
            refine ec 89 103 [.inr (.inr 92), .inl c1, .inl v7] [.inl v6] rfl (ev_Md_code c1 v7 q2.2 q4.1 q4.2 hq) ?_
            show Ev 215 103 [some (.inr (.inr 92)), some (.inl c1), some (.inl c2), none, some (.inl c4), some (.inl c5), some (.inl v6), some (.inl v7)] [.inl q4.1, .inl v6] q4.2 _ _
            refine ec 149 106 [.inl q4.1] [.inl v6] rfl (ev_Md_queueOf q4.1 q4.2 _ rfl) ?_
            show Ev 215 106 [some (.inr (.inr 92)), some (.inl c1), some (.inl c2), none, some (.inl c4), some (.inl c5), some (.inl v6), some (.inl v7)] [.inl (Md_queueOf q4.1), .inl v6] q4.2 _ _
            refine ev_runs 1 (106, [some (.inr (.inr 92)), some (.inl c1), some (.inl c2), none, some (.inl c4), some (.inl c5), some (.inl v6), some (.inl v7)], [.inl (Md_queueOf q4.1), .inl v6], q4.2) (108, [some (.inr (.inr 92)), some (.inl c1), some (.inl c2), none, some (.inl c4), some (.inl c5), some (.inl v6), some (.inl v7)], [.inl c5, .inl (Md_queueOf q4.1), .inl v6], q4.2) rfl ?_
            by_cases hc : ¬ (Md_queueOf q4.1) = c5
            · rw [if_pos hc] at h
              refine es (115, [some (.inr (.inr 92)), some (.inl c1), some (.inl c2), none, some (.inl c4), some (.inl c5), some (.inl v6), some (.inl v7)], [.inl v6], q4.2) (congrArg some (if_pos hc)) ?_
              refine ev_runs 5 (115, [some (.inr (.inr 92)), some (.inl c1), some (.inl c2), none, some (.inl c4), some (.inl c5), some (.inl v6), some (.inl v7)], [.inl v6], q4.2) (63, [some (.inr (.inr 92)), some (.inl c1), some (.inl c2), none, some (.inl c4), some (.inl c5), some (.inl (wr (v6 - 0))), some (.inl (wr (v7 + 1)))], [], q4.2) rfl ?_
              exact ev_le (L := [some (.inr (.inr 92)), some (.inl c1), some (.inl c2), none, some (.inl c4), some (.inl c5), some (.inl (wr (v6 - 0))), some (.inl (wr (v7 + 1)))]) (by simp [Lle]) (ih63 (wr (v6 - 0)) (wr (v7 + 1)) q4.2 r g' h)
            · rw [if_neg hc] at h
              refine es (111, [some (.inr (.inr 92)), some (.inl c1), some (.inl c2), none, some (.inl c4), some (.inl c5), some (.inl v6), some (.inl v7)], [.inl v6], q4.2) (congrArg some (if_neg hc)) ?_
              refine ev_runs 6 (111, [some (.inr (.inr 92)), some (.inl c1), some (.inl c2), none, some (.inl c4), some (.inl c5), some (.inl v6), some (.inl v7)], [.inl v6], q4.2) (63, [some (.inr (.inr 92)), some (.inl c1), some (.inl c2), none, some (.inl c4), some (.inl c5), some (.inl (wr (v6 - 1))), some (.inl (wr (v7 + 1)))], [], q4.2) rfl ?_
              exact ev_le (L := [some (.inr (.inr 92)), some (.inl c1), some (.inl c2), none, some (.inl c4), some (.inl c5), some (.inl (wr (v6 - 1))), some (.inl (wr (v7 + 1)))]) (by simp [Lle]) (ih63 (wr (v6 - 1)) (wr (v7 + 1)) q4.2 r g' h)
    · rw [if_neg hc] at h; cases h
set_option maxRecDepth 100000 in
set_option maxHeartbeats 4000000 in
theorem ev_Md_isLeft_l29 (c1 : Int) (c2 : Int) (K29_176 : Int → Gx → Option (Int × Gx)) (hK29_176 : ∀ (x3 : Int) (g : Gx) (r : Int) (g' : Gx), K29_176 x3 g = some (r, g') → Ev 215 176 [none, none, none, some (.inl x3), none, none, none, none] [] g (some (.inl r)) g') : ∀ (n29 : Nat) (v3 v4 : Int) (g : Gx) (r : Int) (g' : Gx), Md_isLeft_l29 c1 c2 K29_176 n29 v3 v4 g = some (r, g') → Ev 215 29 [some (.inr (.inr 92)), some (.inl c1), some (.inl c2), some (.inl v3), some (.inl v4), none, none, none] [] g (some (.inl r)) g' := by
  intro n29
  induction n29 with
  | zero => intro v3 v4 g r g' h; cases h
  | succ n29 ih29 =>
    intro v3 v4 g r g' h
    rw [Md_isLeft_l29] at h
    refine ev_runs 2 (29, [some (.inr (.inr 92)), some (.inl c1), some (.inl c2), some (.inl v3), some (.inl v4), none, none, none], [], g) (32, [some (.inr (.inr 92)), some (.inl c1), some (.inl c2), some (.inl v3), some (.inl v4), none, none, none], [.inl c2, .inl v4], g) rfl ?_
    by_cases hc : c2 ≤ v4
    · rw [if_pos hc] at h
      refine es (176, [some (.inr (.inr 92)), some (.inl c1), some (.inl c2), some (.inl v3), some (.inl v4), none, none, none], [], g) (congrArg some (if_pos hc)) ?_
      exact ev_le (L := [none, none, none, some (.inl v3), none, none, none, none]) (by simp [Lle]) (hK29_176 v3 g r g' h)
    · rw [if_neg hc] at h
      refine es (35, [some (.inr (.inr 92)), some (.inl c1), some (.inl c2), some (.inl v3), some (.inl v4), none, none, none], [], g) (congrArg some (if_neg hc)) ?_
      refine ev_runs 1 (35, [some (.inr (.inr 92)), some (.inl c1), some (.inl c2), some (.inl v3), some (.inl v4), none, none, none], [], g) (36, [some (.inr (.inr 92)), some (.inl c1), some (.inl c2), some (.inl v3), some (.inl v4), none, none, none], [.inl v3], g) rfl ?_
      by_cases hc : v3 = 0
      · rw [if_pos hc] at h
        refine es (176, [some (.inr (.inr 92)), some (.inl c1), some (.inl c2), some (.inl v3), some (.inl v4), none, none, none], [], g) (congrArg some (if_pos hc)) ?_
        exact ev_le (L := [none, none, none, some (.inl v3), none, none, none, none]) (by simp [Lle]) (hK29_176 v3 g r g' h)
      · rw [if_neg hc] at h
        refine es (39, [some (.inr (.inr 92)), some (.inl c1), some (.inl c2), some (.inl v3), some (.inl v4), none, none, none], [], g) (congrArg some (if_neg hc)) ?_
        refine ev_runs 3 (39, [some (.inr (.inr 92)), some (.inl c1), some (.inl c2), some (.inl v3), some (.inl v4), none, none, none], [], g) (45, [some (.inr (.inr 92)), some (.inl c1), some (.inl c2), some (.inl v3), some (.inl v4), none, none, none], [.inl v4, .inr (.inr 127)], g) rfl ?_
        by_cases hc : 0 ≤ v4 ∧ v4 < 40
        · rw [if_pos hc] at h
          refine es (46, [some (.inr (.inr 92)), some (.inl c1), some (.inl c2), some (.inl v3), some (.inl v4), none, none, none], [.inl (g 127 v4.toNat)], g) (if_pos hc) ?_
          refine ec 149 49 [.inl (g 127 v4.toNat)] [] rfl (ev_Md_queueOf (g 127 v4.toNat) g _ rfl) ?_
          show Ev 215 49 [some (.inr (.inr 92)), some (.inl c1), some (.inl c2), some (.inl v3), some (.inl v4), none, none, none] [.inl (Md_queueOf (g 127 v4.toNat))] g _ _
          refine ev_runs 4 (49, [some (.inr (.inr 92)), some (.inl c1), some (.inl c2), some (.inl v3), some (.inl v4), none, none, none], [.inl (Md_queueOf (g 127 v4.toNat))], g) (57, [some (.inr (.inr 92)), some (.inl c1), some (.inl c2), some (.inl v3), some (.inl v4), some (.inl (Md_queueOf (g 127 v4.toNat))), none, none], [.inl (Md_queueOf (g 127 v4.toNat)), .inr (.inr 122)], g) rfl ?_
          by_cases hc : 0 ≤ (Md_queueOf (g 127 v4.toNat)) ∧ (Md_queueOf (g 127 v4.toNat)) < 36
          · rw [if_pos hc] at h
            refine es (58, [some (.inr (.inr 92)), some (.inl c1), some (.inl c2), some (.inl v3), some (.inl v4), some (.inl (Md_queueOf (g 127 v4.toNat))), none, none], [.inl (g 122 (Md_queueOf (g 127 v4.toNat)).toNat)], g) (if_pos hc) ?_
            refine ev_runs 3 (58, [some (.inr (.inr 92)), some (.inl c1), some (.inl c2), some (.inl v3), some (.inl v4), some (.inl (Md_queueOf (g 127 v4.toNat))), none, none], [.inl (g 122 (Md_queueOf (g 127 v4.toNat)).toNat)], g) (63, [some (.inr (.inr 92)), some (.inl c1), some (.inl c2), some (.inl v3), some (.inl v4), some (.inl (Md_queueOf (g 127 v4.toNat))), some (.inl (g 122 (Md_queueOf (g 127 v4.toNat)).toNat)), some (.inl 0)], [], g) rfl ?_
            refine ev_le (L := [some (.inr (.inr 92)), some (.inl c1), some (.inl c2), none, some (.inl v4), some (.inl (Md_queueOf (g 127 v4.toNat))), some (.inl (g 122 (Md_queueOf (g 127 v4.toNat)).toNat)), some (.inl 0)]) (by simp [Lle]) ?_
            refine ev_Md_isLeft_l63 c1 c2 v4 (Md_queueOf (g 127 v4.toNat)) _ ?_ fu (g 122 (Md_queueOf (g 127 v4.toNat)).toNat) 0 g r g' h
            · intro x5 g6 r g' h
              refine ev_runs 4 (125, [some (.inr (.inr 92)), some (.inl c1), some (.inl c2), none, some (.inl v4), some (.inl (Md_queueOf (g 127 v4.toNat))), none, some (.inl x5)], [], g6) (132, [some (.inr (.inr 92)), some (.inl c1), some (.inl c2), none, some (.inl v4), some (.inl (Md_queueOf (g 127 v4.toNat))), none, some (.inl x5)], [.inl c1, .inr (.inr 110), .inl x5], g6) rfl ?_
              by_cases hc : 0 ≤ c1 ∧ c1 < 30
              · rw [if_pos hc] at h
                refine es (133, [some (.inr (.inr 92)), some (.inl c1), some (.inl c2), none, some (.inl v4), some (.inl (Md_queueOf (g 127 v4.toNat))), none, some (.inl x5)], [.inl (g6 110 c1.toNat), .inl x5], g6) (if_pos hc) ?_
                by_cases hc : (g6 110 c1.toNat) ≤ x5
                · rw [if_pos hc] at h
                  refine es (157, [some (.inr (.inr 92)), some (.inl c1), some (.inl c2), none, some (.inl v4), some (.inl (Md_queueOf (g 127 v4.toNat))), none, some (.inl x5)], [], g6) (congrArg some (if_pos hc)) ?_
                  refine ev_runs 6 (157, [some (.inr (.inr 92)), some (.inl c1), some (.inl c2), none, some (.inl v4), some (.inl (Md_queueOf (g 127 v4.toNat))), none, some (.inl x5)], [], g6) (166, [some (.inr (.inr 92)), some (.inl c1), some (.inl c2), some (.inl 0), some (.inl v4), some (.inl (Md_queueOf (g 127 v4.toNat))), none, some (.inl x5)], [.inl (Md_queueOf (g 127 v4.toNat)), .inr (.inr 122), .inl (Md_queueOf (g 127 v4.toNat)), .inr (.inr 122)], g6) rfl ?_
                  by_cases hc : 0 ≤ (Md_queueOf (g 127 v4.toNat)) ∧ (Md_queueOf (g 127 v4.toNat)) < 36
                  · rw [if_pos hc] at h
                    refine es (167, [some (.inr (.inr 92)), some (.inl c1), some (.inl c2), some (.inl 0), some (.inl v4), some (.inl (Md_queueOf (g 127 v4.toNat))), none, some (.inl x5)], [.inl (g6 122 (Md_queueOf (g 127 v4.toNat)).toNat), .inl (Md_queueOf (g 127 v4.toNat)), .inr (.inr 122)], g6) (if_pos hc) ?_
                    refine ev_runs 2 (167, [some (.inr (.inr 92)), some (.inl c1), some (.inl c2), some (.inl 0), some (.inl v4), some (.inl (Md_queueOf (g 127 v4.toNat))), none, some (.inl x5)], [.inl (g6 122 (Md_queueOf (g 127 v4.toNat)).toNat), .inl (Md_queueOf (g 127 v4.toNat)), .inr (.inr 122)], g6) (169, [some (.inr (.inr 92)), some (.inl c1), some (.inl c2), some (.inl 0), some (.inl v4), some (.inl (Md_queueOf (g 127 v4.toNat))), none, some (.inl x5)], [.inl (wr ((g6 122 (Md_queueOf (g 127 v4.toNat)).toNat) + 1)), .inl (Md_queueOf (g 127 v4.toNat)), .inr (.inr 122)], g6) rfl ?_
                    by_cases hc : 0 ≤ (Md_queueOf (g 127 v4.toNat)) ∧ (Md_queueOf (g 127 v4.toNat)) < 36
                    · rw [if_pos hc] at h
                      refine es (170, [some (.inr (.inr 92)), some (.inl c1), some (.inl c2), some (.inl 0), some (.inl v4), some (.inl (Md_queueOf (g 127 v4.toNat))), none, some (.inl x5)], [], (gset g6 122 ((Md_queueOf (g 127 v4.toNat)).toNat) (wr ((g6 122 (Md_queueOf (g 127 v4.toNat)).toNat) + 1)))) (if_pos hc) ?_
                      refine ev_runs 2 (170, [some (.inr (.inr 92)), some (.inl c1), some (.inl c2), some (.inl 0), some (.inl v4), some (.inl (Md_queueOf (g 127 v4.toNat))), none, some (.inl x5)], [], (gset g6 122 ((Md_queueOf (g 127 v4.toNat)).toNat) (wr ((g6 122 (Md_queueOf (g 127 v4.toNat)).toNat) + 1)))) (29, [some (.inr (.inr 92)), some (.inl c1), some (.inl c2), some (.inl 0), some (.inl (wr (v4 + 1))), some (.inl (Md_queueOf (g 127 v4.toNat))), none, some (.inl x5)], [], (gset g6 122 ((Md_queueOf (g 127 v4.toNat)).toNat) (wr ((g6 122 (Md_queueOf (g 127 v4.toNat)).toNat) + 1)))) rfl ?_
                      exact ev_le (L := [some (.inr (.inr 92)), some (.inl c1), some (.inl c2), some (.inl 0), some (.inl (wr (v4 + 1))), none, none, none]) (by simp [Lle]) (ih29 0 (wr (v4 + 1)) (gset g6 122 ((Md_queueOf (g 127 v4.toNat)).toNat) (wr ((g6 122 (Md_queueOf (g 127 v4.toNat)).toNat) + 1))) r g' h)
                    · rw [if_neg hc] at h; cases h
                  · rw [if_neg hc] at h; cases h
                · rw [if_neg hc] at h
                  refine es (136, [some (.inr (.inr 92)), some (.inl c1), some (.inl c2), none, some (.inl v4), some (.inl (Md_queueOf (g 127 v4.toNat))), none, some (.inl x5)], [], g6) (congrArg some (if_neg hc)) ?_
                  refine ev_runs 3 (136, [some (.inr (.inr 92)), some (.inl c1), some (.inl c2), none, some (.inl v4), some (.inl (Md_queueOf (g 127 v4.toNat))), none, some (.inl x5)], [], g6) (140, [some (.inr (.inr 92)), some (.inl c1), some (.inl c2), none, some (.inl v4), some (.inl (Md_queueOf (g 127 v4.toNat))), none, some (.inl x5)], [.inl x5, .inl c1, .inr (.inr 92)], g6) rfl ?_
                  obtain ⟨q7, hq, h⟩ := Option.bind_eq_some_iff.mp h
                  refine ec 89 143 [.inr (.inr 92), .inl c1, .inl x5] [] rfl (ev_Md_code c1 x5 g6 q7.1 q7.2 hq) ?_
                  show Ev 215 143 [some (.inr (.inr 92)), some (.inl c1), some (.inl c2), none, some (.inl v4), some (.inl (Md_queueOf (g 127 v4.toNat))), none, some (.inl x5)] [.inl q7.1] q7.2 _ _
                  refine ev_runs 3 (143, [some (.inr (.inr 92)), some (.inl c1), some (.inl c2), none, some (.inl v4), some (.inl (Md_queueOf (g 127 v4.toNat))), none, some (.inl x5)], [.inl q7.1], q7.2) (149, [some (.inr (.inr 92)), some (.inl c1), some (.inl c2), none, some (.inl v4), some (.inl (Md_queueOf (g 127 v4.toNat))), none, some (.inl x5)], [.inl v4, .inr (.inr 127), .inl q7.1], q7.2) rfl ?_
                  by_cases hc : 0 ≤ v4 ∧ v4 < 40
                  · rw [if_pos hc] at h
                    refine es (150, [some (.inr (.inr 92)), some (.inl c1), some (.inl c2), none, some (.inl v4), some (.inl (Md_queueOf (g 127 v4.toNat))), none, some (.inl x5)], [.inl (q7.2 127 v4.toNat), .inl q7.1], q7.2) (if_pos hc) ?_
                    obtain ⟨y8, hy8, h⟩ := lett_inv h
                    have hjy8 : Ev 215 158 [some (.inr (.inr 92)), some (.inl c1), some (.inl c2), none, some (.inl v4), some (.inl (Md_queueOf (g 127 v4.toNat))), none, none] [.inl y8] q7.2 (some (.inl r)) g' := by
                      refine ev_runs 5 (158, [some (.inr (.inr 92)), some (.inl c1), some (.inl c2), none, some (.inl v4), some (.inl (Md_queueOf (g 127 v4.toNat))), none, none], [.inl y8], q7.2) (166, [some (.inr (.inr 92)), some (.inl c1), some (.inl c2), some (.inl y8), some (.inl v4), some (.inl (Md_queueOf (g 127 v4.toNat))), none, none], [.inl (Md_queueOf (g 127 v4.toNat)), .inr (.inr 122), .inl (Md_queueOf (g 127 v4.toNat)), .inr (.inr 122)], q7.2) rfl ?_
                      by_cases hc : 0 ≤ (Md_queueOf (g 127 v4.toNat)) ∧ (Md_queueOf (g 127 v4.toNat)) < 36
                      · rw [if_pos hc] at h
                        refine es (167, [some (.inr (.inr 92)), some (.inl c1), some (.inl c2), some (.inl y8), some (.inl v4), some (.inl (Md_queueOf (g 127 v4.toNat))), none, none], [.inl (q7.2 122 (Md_queueOf (g 127 v4.toNat)).toNat), .inl (Md_queueOf (g 127 v4.toNat)), .inr (.inr 122)], q7.2) (if_pos hc) ?_
                        refine ev_runs 2 (167, [some (.inr (.inr 92)), some (.inl c1), some (.inl c2), some (.inl y8), some (.inl v4), some (.inl (Md_queueOf (g 127 v4.toNat))), none, none], [.inl (q7.2 122 (Md_queueOf (g 127 v4.toNat)).toNat), .inl (Md_queueOf (g 127 v4.toNat)), .inr (.inr 122)], q7.2) (169, [some (.inr (.inr 92)), some (.inl c1), some (.inl c2), some (.inl y8), some (.inl v4), some (.inl (Md_queueOf (g 127 v4.toNat))), none, none], [.inl (wr ((q7.2 122 (Md_queueOf (g 127 v4.toNat)).toNat) + 1)), .inl (Md_queueOf (g 127 v4.toNat)), .inr (.inr 122)], q7.2) rfl ?_
                        by_cases hc : 0 ≤ (Md_queueOf (g 127 v4.toNat)) ∧ (Md_queueOf (g 127 v4.toNat)) < 36
                        · rw [if_pos hc] at h
                          refine es (170, [some (.inr (.inr 92)), some (.inl c1), some (.inl c2), some (.inl y8), some (.inl v4), some (.inl (Md_queueOf (g 127 v4.toNat))), none, none], [], (gset q7.2 122 ((Md_queueOf (g 127 v4.toNat)).toNat) (wr ((q7.2 122 (Md_queueOf (g 127 v4.toNat)).toNat) + 1)))) (if_pos hc) ?_
                          refine ev_runs 2 (170, [some (.inr (.inr 92)), some (.inl c1), some (.inl c2), some (.inl y8), some (.inl v4), some (.inl (Md_queueOf (g 127 v4.toNat))), none, none], [], (gset q7.2 122 ((Md_queueOf (g 127 v4.toNat)).toNat) (wr ((q7.2 122 (Md_queueOf (g 127 v4.toNat)).toNat) + 1)))) (29, [some (.inr (.inr 92)), some (.inl c1), some (.inl c2), some (.inl y8), some (.inl (wr (v4 + 1))), some (.inl (Md_queueOf (g 127 v4.toNat))), none, none], [], (gset q7.2 122 ((Md_queueOf (g 127 v4.toNat)).toNat) (wr ((q7.2 122 (Md_queueOf (g 127 v4.toNat)).toNat) + 1)))) rfl ?_
                          exact ev_le (L := [some (.inr (.inr 92)), some (.inl c1), some (.inl c2), some (.inl y8), some (.inl (wr (v4 + 1))), none, none, none]) (by simp [Lle]) (ih29 y8 (wr (v4 + 1)) (gset q7.2 122 ((Md_queueOf (g 127 v4.toNat)).toNat) (wr ((q7.2 122 (Md_queueOf (g 127 v4.toNat)).toNat) + 1))) r g' h)
                        · rw [if_neg hc] at h; cases h
                      · rw [if_neg hc] at h; cases h
                    by_cases hc : ¬ q7.1 = (q7.2 127 v4.toNat)
                    · rw [if_pos hc] at hy8
                      refine es (157, [some (.inr (.inr 92)), some (.inl c1), some (.inl c2), none, some (.inl v4), some (.inl (Md_queueOf (g 127 v4.toNat))), none, some (.inl x5)], [], q7.2) (congrArg some (if_pos hc)) ?_
                      refine ev_runs 1 (157, [some (.inr (.inr 92)), some (.inl c1), some (.inl c2), none, some (.inl v4), some (.inl (Md_queueOf (g 127 v4.toNat))), none, some (.inl x5)], [], q7.2) (158, [some (.inr (.inr 92)), some (.inl c1), some (.inl c2), none, some (.inl v4), some (.inl (Md_queueOf (g 127 v4.toNat))), none, some (.inl x5)], [.inl 0], q7.2) rfl ?_
                      rw [hy8] at hjy8
                      exact ev_le (L := [some (.inr (.inr 92)), some (.inl c1), some (.inl c2), none, some (.inl v4), some (.inl (Md_queueOf (g 127 v4.toNat))), none, none]) (by simp [Lle]) hjy8
                    · rw [if_neg hc] at hy8
                      refine es (153, [some (.inr (.inr 92)), some (.inl c1), some (.inl c2), none, some (.inl v4), some (.inl (Md_queueOf (g 127 v4.toNat))), none, some (.inl x5)], [], q7.2) (congrArg some (if_neg hc)) ?_
                      refine ev_runs 2 (153, [some (.inr (.inr 92)), some (.inl c1), some (.inl c2), none, some (.inl v4), some (.inl (Md_queueOf (g 127 v4.toNat))), none, some (.inl x5)], [], q7.2) (158, [some (.inr (.inr 92)), some (.inl c1), some (.inl c2), none, some (.inl v4), some (.inl (Md_queueOf (g 127 v4.toNat))), none, some (.inl x5)], [.inl 1], q7.2) rfl ?_
                      rw [hy8] at hjy8
                      exact ev_le (L := [some (.inr (.inr 92)), some (.inl c1), some (.inl c2), none, some (.inl v4), some (.inl (Md_queueOf (g 127 v4.toNat))), none, none]) (by simp [Lle]) hjy8
                  · rw [if_neg hc] at h; cases h
              · rw [if_neg hc] at h; cases h
          · rw [if_neg hc] at h; cases h
        · rw [if_neg hc] at h; cases h
set_option maxRecDepth 100000 in
set_option maxHeartbeats 4000000 in
theorem ev_Md_isLeft (a1 a2 : Int) (g : Gx) (r : Int) (g' : Gx) (h : Md_isLeft a1 a2 g = some (r, g')) : Ev 215 0 [some (.inr (.inr 92)), some (.inl a1), some (.inl a2), none, none, none, none, none] [] g (some (.inl r)) g' := by
  rw [Md_isLeft] at h
  refine ev_runs 4 (0, [some (.inr (.inr 92)), some (.inl a1), some (.inl a2), none, none, none, none, none], [], g) (5, [some (.inr (.inr 92)), some (.inl a1), some (.inl a2), some (.inl 1), some (.inl 0), none, none, none], [], g) rfl ?_
  refine ev_le (L := [some (.inr (.inr 92)), some (.inl a1), some (.inl a2), some (.inl 1), some (.inl 0), none, none, none]) (by simp [Lle]) ?_
  refine ev_Md_isLeft_l5 a1 a2 1 _ ?_ fu 0 g r g' h
  · intro g1 r g' h
    refine ev_runs 2 (26, [some (.inr (.inr 92)), some (.inl a1), some (.inl a2), some (.inl 1), none, none, none, none], [], g1) (29, [some (.inr (.inr 92)), some (.inl a1), some (.inl a2), some (.inl 1), some (.inl 0), none, none, none], [], g1) rfl ?_
    refine ev_le (L := [some (.inr (.inr 92)), some (.inl a1), some (.inl a2), some (.inl 1), some (.inl 0), none, none, none]) (by simp [Lle]) ?_
    refine ev_Md_isLeft_l29 a1 a2 _ ?_ fu 1 0 g1 r g' h
    · intro x9 g10 r g' h
      refine ev_runs 1 (176, [none, none, none, some (.inl x9), none, none, none, none], [], g10) (177, [none, none, none, some (.inl x9), none, none, none, none], [.inl x9], g10) rfl ?_
      by_cases hc : x9 = 0 ∨ x9 = 1
      · rw [if_pos hc] at h
        cases h
        exact er (if_pos hc)
      · rw [if_neg hc] at h; cases h
set_option maxRecDepth 100000 in
set_option maxHeartbeats 4000000 in
theorem ev_Md_leftBy_l4 (c1 : Int) (K4_37 : Int → Gx → Option (Int × Gx)) (hK4_37 : ∀ (x2 : Int) (g : Gx) (r : Int) (g' : Gx), K4_37 x2 g = some (r, g') → Ev 216 37 [none, none, some (.inl x2), none] [] g (some (.inl r)) g') : ∀ (n4 : Nat) (v2 v3 : Int) (g : Gx) (r : Int) (g' : Gx), Md_leftBy_l4 c1 K4_37 n4 v2 v3 g = some (r, g') → Ev 216 4 [some (.inr (.inr 92)), some (.inl c1), some (.inl v2), some (.inl v3)] [] g (some (.inl r)) g' := by
  intro n4
  induction n4 with
  | zero => intro v2 v3 g r g' h; cases h
  | succ n4 ih4 =>
    intro v2 v3 g r g' h
    rw [Md_leftBy_l4] at h
    refine ev_runs 3 (4, [some (.inr (.inr 92)), some (.inl c1), some (.inl v2), some (.inl v3)], [], g) (9, [some (.inr (.inr 92)), some (.inl c1), some (.inl v2), some (.inl v3)], [.inl (g 92 26), .inl v3], g) rfl ?_
    by_cases hc : (g 92 26) ≤ v3
    · rw [if_pos hc] at h
      refine es (37, [some (.inr (.inr 92)), some (.inl c1), some (.inl v2), some (.inl v3)], [], g) (congrArg some (if_pos hc)) ?_
      exact ev_le (L := [none, none, some (.inl v2), none]) (by simp [Lle]) (hK4_37 v2 g r g' h)
    · rw [if_neg hc] at h
      refine es (12, [some (.inr (.inr 92)), some (.inl c1), some (.inl v2), some (.inl v3)], [], g) (congrArg some (if_neg hc)) ?_
      refine ev_runs 4 (12, [some (.inr (.inr 92)), some (.inl c1), some (.inl v2), some (.inl v3)], [], g) (16, [some (.inr (.inr 92)), some (.inl c1), some (.inl v2), some (.inl v3)], [.inl c1, .inl v3, .inr (.inr 92), .inl v2], g) rfl ?_
      obtain ⟨q1, hq, h⟩ := Option.bind_eq_some_iff.mp h
      refine ec 215 19 [.inr (.inr 92), .inl v3, .inl c1] [.inl v2] rfl (ev_Md_isLeft v3 c1 g q1.1 q1.2 hq) ?_
      show Ev 216 19 [some (.inr (.inr 92)), some (.inl c1), some (.inl v2), some (.inl v3)] [.inl q1.1, .inl v2] q1.2 _ _
      by_cases hc : q1.1 = 0
      · rw [if_pos hc] at h
        refine es (28, [some (.inr (.inr 92)), some (.inl c1), some (.inl v2), some (.inl v3)], [.inl v2], q1.2) (congrArg some (if_pos hc)) ?_
        refine ev_runs 5 (28, [some (.inr (.inr 92)), some (.inl c1), some (.inl v2), some (.inl v3)], [.inl v2], q1.2) (4, [some (.inr (.inr 92)), some (.inl c1), some (.inl (jor v2 0)), some (.inl (wr (v3 + 1)))], [], q1.2) rfl ?_
        exact ev_le (L := [some (.inr (.inr 92)), some (.inl c1), some (.inl (jor v2 0)), some (.inl (wr (v3 + 1)))]) (by simp [Lle]) (ih4 (jor v2 0) (wr (v3 + 1)) q1.2 r g' h)
      · rw [if_neg hc] at h
        refine es (22, [some (.inr (.inr 92)), some (.inl c1), some (.inl v2), some (.inl v3)], [.inl v2], q1.2) (congrArg some (if_neg hc)) ?_
        refine ev_runs 8 (22, [some (.inr (.inr 92)), some (.inl c1), some (.inl v2), some (.inl v3)], [.inl v2], q1.2) (4, [some (.inr (.inr 92)), some (.inl c1), some (.inl (jor v2 (jshl 1 v3))), some (.inl (wr (v3 + 1)))], [], q1.2) rfl ?_
        exact ev_le (L := [some (.inr (.inr 92)), some (.inl c1), some (.inl (jor v2 (jshl 1 v3))), some (.inl (wr (v3 + 1)))]) (by simp [Lle]) (ih4 (jor v2 (jshl 1 v3)) (wr (v3 + 1)) q1.2 r g' h)
set_option maxRecDepth 100000 in
set_option maxHeartbeats 4000000 in
theorem ev_Md_leftBy (a1 : Int) (g : Gx) (r : Int) (g' : Gx) (h : Md_leftBy a1 g = some (r, g')) : Ev 216 0 [some (.inr (.inr 92)), some (.inl a1), none, none] [] g (some (.inl r)) g' := by
  rw [Md_leftBy] at h
  refine ev_runs 4 (0, [some (.inr (.inr 92)), some (.inl a1), none, none], [], g) (4, [some (.inr (.inr 92)), some (.inl a1), some (.inl 0), some (.inl 0)], [], g) rfl ?_
  refine ev_le (L := [some (.inr (.inr 92)), some (.inl a1), some (.inl 0), some (.inl 0)]) (by simp [Lle]) ?_
  refine ev_Md_leftBy_l4 a1 _ ?_ fu 0 0 g r g' h
  · intro x2 g3 r g' h
    refine ev_runs 1 (37, [none, none, some (.inl x2), none], [], g3) (38, [none, none, some (.inl x2), none], [.inl x2], g3) rfl ?_
    cases h
    exact er rfl
set_option maxRecDepth 100000 in
set_option maxHeartbeats 4000000 in
theorem ev_Md_left (a1 : Int) (g : Gx) (r : Int) (g' : Gx) (h : Md_left a1 g = some (r, g')) : Ev 217 0 [some (.inr (.inr 92)), some (.inl a1), none] [] g (some (.inl r)) g' := by
  rw [Md_left] at h
  refine ev_runs 6 (0, [some (.inr (.inr 92)), some (.inl a1), none], [], g) (8, [some (.inr (.inr 92)), some (.inl a1), none], [.inr (.inl (g 92 48)), .inr (.inl 0), .inr (.inl a1)], g) rfl ?_
  refine ec 4 11 [.inr (.inl a1), .inr (.inl 0), .inr (.inl (g 92 48))] [] rfl (ev_Md_in a1 0 (g 92 48) g _ rfl) ?_
  show Ev 217 11 [some (.inr (.inr 92)), some (.inl a1), none] [.inl (Md_in a1 0 (g 92 48))] g _ _
  by_cases hc : ¬ (Md_in a1 0 (g 92 48)) = 0
  · rw [if_pos hc] at h
    refine es (17, [some (.inr (.inr 92)), some (.inl a1), none], [], g) (congrArg some (if_pos hc)) ?_
    refine ev_runs 1 (17, [some (.inr (.inr 92)), some (.inl a1), none], [], g) (18, [some (.inr (.inr 92)), some (.inl a1), none], [.inr (.inr 92)], g) rfl ?_
    obtain ⟨q1, hq, h⟩ := Option.bind_eq_some_iff.mp h
    refine ec 81 21 [.inr (.inr 92)] [] rfl (ev_Md_without g q1.1 q1.2 hq) ?_
    show Ev 217 21 [some (.inr (.inr 92)), some (.inl a1), none] [.inl q1.1] q1.2 _ _
    refine ev_runs 2 (21, [some (.inr (.inr 92)), some (.inl a1), none], [.inl q1.1], q1.2) (23, [some (.inr (.inr 92)), some (.inl a1), some (.inl q1.1)], [.inl q1.1], q1.2) rfl ?_
    by_cases hc : q1.1 = 0
    · rw [if_pos hc] at h
      refine es (30, [some (.inr (.inr 92)), some (.inl a1), some (.inl q1.1)], [], q1.2) (congrArg some (if_pos hc)) ?_
      refine ev_runs 2 (30, [some (.inr (.inr 92)), some (.inl a1), some (.inl q1.1)], [], q1.2) (32, [some (.inr (.inr 92)), some (.inl a1), some (.inl q1.1)], [.inl a1, .inr (.inr 92)], q1.2) rfl ?_
      obtain ⟨q2, hq, h⟩ := Option.bind_eq_some_iff.mp h
      refine ec 216 35 [.inr (.inr 92), .inl a1] [] rfl (ev_Md_leftBy a1 q1.2 q2.1 q2.2 hq) ?_
      show Ev 217 35 [some (.inr (.inr 92)), some (.inl a1), some (.inl q1.1)] [.inl q2.1] q2.2 _ _
      cases h
      exact er rfl
    · rw [if_neg hc] at h
      refine es (26, [some (.inr (.inr 92)), some (.inl a1), some (.inl q1.1)], [], q1.2) (congrArg some (if_neg hc)) ?_
      refine ev_runs 2 (26, [some (.inr (.inr 92)), some (.inl a1), some (.inl q1.1)], [], q1.2) (35, [some (.inr (.inr 92)), some (.inl a1), some (.inl q1.1)], [.inl q1.1], q1.2) rfl ?_
      cases h
      exact er rfl
  · rw [if_neg hc] at h
    refine es (14, [some (.inr (.inr 92)), some (.inl a1), none], [], g) (congrArg some (if_neg hc)) ?_
    refine ev_runs 1 (14, [some (.inr (.inr 92)), some (.inl a1), none], [], g) (16, [some (.inr (.inr 92)), some (.inl a1), none], [.inl (-2)], g) rfl ?_
    cases h
    exact er rfl
set_option maxRecDepth 100000 in
set_option maxHeartbeats 4000000 in
theorem ev_Bd_mostBorne_l4 (K4_34 : Int → Gx → Option (Int × Gx)) (hK4_34 : ∀ (x1 : Int) (g : Gx) (r : Int) (g' : Gx), K4_34 x1 g = some (r, g') → Ev 218 34 [none, some (.inl x1), none] [] g (some (.inl r)) g') : ∀ (n4 : Nat) (v1 v2 : Int) (g : Gx) (r : Int) (g' : Gx), Bd_mostBorne_l4 K4_34 n4 v1 v2 g = some (r, g') → Ev 218 4 [some (.inr (.inr 78)), some (.inl v1), some (.inl v2)] [] g (some (.inl r)) g' := by
  intro n4
  induction n4 with
  | zero => intro v1 v2 g r g' h; cases h
  | succ n4 ih4 =>
    intro v1 v2 g r g' h
    rw [Bd_mostBorne_l4] at h
    refine ev_runs 3 (4, [some (.inr (.inr 78)), some (.inl v1), some (.inl v2)], [], g) (9, [some (.inr (.inr 78)), some (.inl v1), some (.inl v2)], [.inr (.inr 33), .inl v2], g) rfl ?_
    refine ec 74 12 [.inr (.inr 33)] [.inl v2] rfl (ev_Hi_size g _ rfl) ?_
    show Ev 218 12 [some (.inr (.inr 78)), some (.inl v1), some (.inl v2)] [.inl (Hi_size g), .inl v2] g _ _
    by_cases hc : (Hi_size g) ≤ v2
    · rw [if_pos hc] at h
      refine es (34, [some (.inr (.inr 78)), some (.inl v1), some (.inl v2)], [], g) (congrArg some (if_pos hc)) ?_
      exact ev_le (L := [none, some (.inl v1), none]) (by simp [Lle]) (hK4_34 v1 g r g' h)
    · rw [if_neg hc] at h
      refine es (15, [some (.inr (.inr 78)), some (.inl v1), some (.inl v2)], [], g) (congrArg some (if_neg hc)) ?_
      refine ev_runs 4 (15, [some (.inr (.inr 78)), some (.inl v1), some (.inl v2)], [], g) (21, [some (.inr (.inr 78)), some (.inl v1), some (.inl v2)], [.inl v2, .inr (.inr 81), .inl v1], g) rfl ?_
      refine ec 13 24 [.inr (.inr 81), .inl v2] [.inl v1] rfl (ev_Row_at rfl rfl _ _) ?_
      show Ev 218 24 [some (.inr (.inr 78)), some (.inl v1), some (.inl v2)] [.inl (rat g 82 30 v2), .inl v1] g _ _
      refine ev_runs 4 (24, [some (.inr (.inr 78)), some (.inl v1), some (.inl v2)], [.inl (rat g 82 30 v2), .inl v1], g) (4, [some (.inr (.inr 78)), some (.inl (imax v1 (rat g 82 30 v2))), some (.inl (wr (v2 + 1)))], [], g) rfl ?_
      exact ev_le (L := [some (.inr (.inr 78)), some (.inl (imax v1 (rat g 82 30 v2))), some (.inl (wr (v2 + 1)))]) (by simp [Lle]) (ih4 (imax v1 (rat g 82 30 v2)) (wr (v2 + 1)) g r g' h)
set_option maxRecDepth 100000 in
set_option maxHeartbeats 4000000 in
theorem ev_Bd_mostBorne (g : Gx) (r : Int) (g' : Gx) (h : Bd_mostBorne g = some (r, g')) : Ev 218 0 [some (.inr (.inr 78)), none, none] [] g (some (.inl r)) g' := by
  rw [Bd_mostBorne] at h
  refine ev_runs 4 (0, [some (.inr (.inr 78)), none, none], [], g) (4, [some (.inr (.inr 78)), some (.inl 0), some (.inl 0)], [], g) rfl ?_
  refine ev_le (L := [some (.inr (.inr 78)), some (.inl 0), some (.inl 0)]) (by simp [Lle]) ?_
  refine ev_Bd_mostBorne_l4 _ ?_ fu 0 0 g r g' h
  · intro x1 g2 r g' h
    refine ev_runs 1 (34, [none, some (.inl x1), none], [], g2) (35, [none, some (.inl x1), none], [.inl x1], g2) rfl ?_
    cases h
    exact er rfl
set_option maxRecDepth 100000 in
set_option maxHeartbeats 4000000 in
theorem ev_Bd_firstOut (g : Gx) (r : Int) (g' : Gx) (h : Bd_firstOut g = some (r, g')) : Ev 219 0 [some (.inr (.inr 78)), none] [] g (some (.inl r)) g' := by
  rw [Bd_firstOut] at h
  refine ev_runs 1 (0, [some (.inr (.inr 78)), none], [], g) (1, [some (.inr (.inr 78)), none], [.inr (.inr 78)], g) rfl ?_
  obtain ⟨q1, hq, h⟩ := Option.bind_eq_some_iff.mp h
  refine ec 218 4 [.inr (.inr 78)] [] rfl (ev_Bd_mostBorne g q1.1 q1.2 hq) ?_
  show Ev 219 4 [some (.inr (.inr 78)), none] [.inl q1.1] q1.2 _ _
  refine ev_runs 4 (4, [some (.inr (.inr 78)), none], [.inl q1.1], q1.2) (10, [some (.inr (.inr 78)), some (.inl q1.1)], [.inl (q1.2 78 4), .inl q1.1], q1.2) rfl ?_
  by_cases hc : (q1.2 78 4) ≤ q1.1
  · rw [if_pos hc] at h
    refine es (17, [some (.inr (.inr 78)), some (.inl q1.1)], [], q1.2) (congrArg some (if_pos hc)) ?_
    refine ev_runs 1 (17, [some (.inr (.inr 78)), some (.inl q1.1)], [], q1.2) (18, [some (.inr (.inr 78)), some (.inl q1.1)], [.inl (-1)], q1.2) rfl ?_
    cases h
    exact er rfl
  · rw [if_neg hc] at h
    refine es (13, [some (.inr (.inr 78)), some (.inl q1.1)], [], q1.2) (congrArg some (if_neg hc)) ?_
    refine ev_runs 2 (13, [some (.inr (.inr 78)), some (.inl q1.1)], [], q1.2) (18, [some (.inr (.inr 78)), some (.inl q1.1)], [.inl q1.1], q1.2) rfl ?_
    cases h
    exact er rfl
set_option maxRecDepth 100000 in
set_option maxHeartbeats 4000000 in
theorem ev_Bd_blamed (g : Gx) (r : Int) (g' : Gx) (h : Bd_blamed g = some (r, g')) : Ev 220 0 [some (.inr (.inr 78)), none] [] g (some (.inl r)) g' := by
  rw [Bd_blamed] at h
  refine ev_runs 1 (0, [some (.inr (.inr 78)), none], [], g) (1, [some (.inr (.inr 78)), none], [.inr (.inr 78)], g) rfl ?_
  obtain ⟨q1, hq, h⟩ := Option.bind_eq_some_iff.mp h
  refine ec 218 4 [.inr (.inr 78)] [] rfl (ev_Bd_mostBorne g q1.1 q1.2 hq) ?_
  show Ev 220 4 [some (.inr (.inr 78)), none] [.inl q1.1] q1.2 _ _
  refine ev_runs 4 (4, [some (.inr (.inr 78)), none], [.inl q1.1], q1.2) (10, [some (.inr (.inr 78)), some (.inl q1.1)], [.inl (q1.2 78 4), .inl q1.1], q1.2) rfl ?_
  by_cases hc : (q1.2 78 4) ≤ q1.1
  · rw [if_pos hc] at h
    refine es (27, [some (.inr (.inr 78)), some (.inl q1.1)], [], q1.2) (congrArg some (if_pos hc)) ?_
    refine ev_runs 1 (27, [some (.inr (.inr 78)), some (.inl q1.1)], [], q1.2) (28, [some (.inr (.inr 78)), some (.inl q1.1)], [.inl (-1)], q1.2) rfl ?_
    cases h
    exact er rfl
  · rw [if_neg hc] at h
    refine es (13, [some (.inr (.inr 78)), some (.inl q1.1)], [], q1.2) (congrArg some (if_neg hc)) ?_
    refine ev_runs 3 (13, [some (.inr (.inr 78)), some (.inl q1.1)], [], q1.2) (18, [some (.inr (.inr 78)), some (.inl q1.1)], [.inl q1.1, .inr (.inr 79)], q1.2) rfl ?_
    refine ec 13 21 [.inr (.inr 79), .inl q1.1] [] rfl (ev_Row_at rfl rfl _ _) ?_
    show Ev 220 21 [some (.inr (.inr 78)), some (.inl q1.1)] [.inl (rat q1.2 80 40 q1.1)] q1.2 _ _
    refine ec 92 24 [.inl (rat q1.2 80 40 q1.1)] [] rfl (ev_Op_sayer (rat q1.2 80 40 q1.1) q1.2 _ rfl) ?_
    show Ev 220 24 [some (.inr (.inr 78)), some (.inl q1.1)] [.inl (Op_sayer (rat q1.2 80 40 q1.1))] q1.2 _ _
    refine ev_runs 1 (24, [some (.inr (.inr 78)), some (.inl q1.1)], [.inl (Op_sayer (rat q1.2 80 40 q1.1))], q1.2) (28, [some (.inr (.inr 78)), some (.inl q1.1)], [.inl (Op_sayer (rat q1.2 80 40 q1.1))], q1.2) rfl ?_
    cases h
    exact er rfl
set_option maxRecDepth 100000 in
set_option maxHeartbeats 4000000 in
theorem ev_Op_out (a1 : Int) (g : Gx) (r : Int) (g' : Gx) (h : Op_out a1 g = some (r, g')) : Ev 221 0 [some (.inr (.inr 0)), some (.inl a1), none] [] g (some (.inl r)) g' := by
  rw [Op_out] at h
  refine ev_runs 1 (0, [some (.inr (.inr 0)), some (.inl a1), none], [], g) (1, [some (.inr (.inr 0)), some (.inl a1), none], [.inl a1], g) rfl ?_
  by_cases hc : a1 < 0
  · rw [if_pos hc] at h
    refine es (9, [some (.inr (.inr 0)), some (.inl a1), none], [], g) (congrArg some (if_pos hc)) ?_
    refine ev_runs 1 (9, [some (.inr (.inr 0)), some (.inl a1), none], [], g) (11, [some (.inr (.inr 0)), some (.inl a1), none], [.inl (-2)], g) rfl ?_
    cases h
    exact er rfl
  · rw [if_neg hc] at h
    refine es (4, [some (.inr (.inr 0)), some (.inl a1), none], [], g) (congrArg some (if_neg hc)) ?_
    refine ev_runs 2 (4, [some (.inr (.inr 0)), some (.inl a1), none], [], g) (6, [some (.inr (.inr 0)), some (.inl a1), none], [.inl 1, .inl a1], g) rfl ?_
    by_cases hc : a1 ≤ 1
    · rw [if_pos hc] at h
      refine es (12, [some (.inr (.inr 0)), some (.inl a1), none], [], g) (congrArg some (if_pos hc)) ?_
      refine ev_runs 2 (12, [some (.inr (.inr 0)), some (.inl a1), none], [], g) (14, [some (.inr (.inr 0)), some (.inl a1), none], [.inl 0, .inr (.inr 0)], g) rfl ?_
      obtain ⟨q1, hq, h⟩ := Option.bind_eq_some_iff.mp h
      refine ec 75 17 [.inr (.inr 0), .inl 0] [] rfl (ev_Op_hindrance 0 g q1.1 q1.2 hq) ?_
      show Ev 221 17 [some (.inr (.inr 0)), some (.inl a1), none] [.inl q1.1] q1.2 _ _
      refine ev_runs 2 (17, [some (.inr (.inr 0)), some (.inl a1), none], [.inl q1.1], q1.2) (19, [some (.inr (.inr 0)), some (.inl a1), some (.inl q1.1)], [.inl q1.1], q1.2) rfl ?_
      by_cases hc : q1.1 = 0
      · rw [if_pos hc] at h
        refine es (24, [some (.inr (.inr 0)), some (.inl a1), some (.inl q1.1)], [], q1.2) (congrArg some (if_pos hc)) ?_
        refine ev_runs 2 (24, [some (.inr (.inr 0)), some (.inl a1), some (.inl q1.1)], [], q1.2) (28, [some (.inr (.inr 0)), some (.inl a1), some (.inl q1.1)], [.inr (.inr 78)], q1.2) rfl ?_
        obtain ⟨g2, hq, h⟩ := Option.bind_eq_some_iff.mp h
        refine ec 212 31 [.inr (.inr 78)] [] rfl (ev_Bd_compare q1.2 g2 hq) ?_
        show Ev 221 31 [some (.inr (.inr 0)), some (.inl a1), some (.inl q1.1)] [] g2 _ _
        refine ev_runs 1 (31, [some (.inr (.inr 0)), some (.inl a1), some (.inl q1.1)], [], g2) (32, [some (.inr (.inr 0)), some (.inl a1), some (.inl q1.1)], [.inl a1], g2) rfl ?_
        by_cases hc : ¬ a1 = 0
        · rw [if_pos hc] at h
          refine es (45, [some (.inr (.inr 0)), some (.inl a1), some (.inl q1.1)], [], g2) (congrArg some (if_pos hc)) ?_
          refine ev_runs 2 (45, [some (.inr (.inr 0)), some (.inl a1), some (.inl q1.1)], [], g2) (49, [some (.inr (.inr 0)), some (.inl a1), some (.inl q1.1)], [.inr (.inr 78)], g2) rfl ?_
          obtain ⟨q3, hq, h⟩ := Option.bind_eq_some_iff.mp h
          refine ec 220 52 [.inr (.inr 78)] [] rfl (ev_Bd_blamed g2 q3.1 q3.2 hq) ?_
          show Ev 221 52 [some (.inr (.inr 0)), some (.inl a1), some (.inl q1.1)] [.inl q3.1] q3.2 _ _
          cases h
          exact er rfl
        · rw [if_neg hc] at h
          refine es (35, [some (.inr (.inr 0)), some (.inl a1), some (.inl q1.1)], [], g2) (congrArg some (if_neg hc)) ?_
          refine ev_runs 2 (35, [some (.inr (.inr 0)), some (.inl a1), some (.inl q1.1)], [], g2) (39, [some (.inr (.inr 0)), some (.inl a1), some (.inl q1.1)], [.inr (.inr 78)], g2) rfl ?_
          obtain ⟨q4, hq, h⟩ := Option.bind_eq_some_iff.mp h
          refine ec 219 42 [.inr (.inr 78)] [] rfl (ev_Bd_firstOut g2 q4.1 q4.2 hq) ?_
          show Ev 221 42 [some (.inr (.inr 0)), some (.inl a1), some (.inl q1.1)] [.inl q4.1] q4.2 _ _
          refine ev_runs 1 (42, [some (.inr (.inr 0)), some (.inl a1), some (.inl q1.1)], [.inl q4.1], q4.2) (52, [some (.inr (.inr 0)), some (.inl a1), some (.inl q1.1)], [.inl q4.1], q4.2) rfl ?_
          cases h
          exact er rfl
      · rw [if_neg hc] at h
        refine es (22, [some (.inr (.inr 0)), some (.inl a1), some (.inl q1.1)], [], q1.2) (congrArg some (if_neg hc)) ?_
        refine ev_runs 1 (22, [some (.inr (.inr 0)), some (.inl a1), some (.inl q1.1)], [], q1.2) (23, [some (.inr (.inr 0)), some (.inl a1), some (.inl q1.1)], [.inl q1.1], q1.2) rfl ?_
        cases h
        exact er rfl
    · rw [if_neg hc] at h
      refine es (9, [some (.inr (.inr 0)), some (.inl a1), none], [], g) (congrArg some (if_neg hc)) ?_
      refine ev_runs 1 (9, [some (.inr (.inr 0)), some (.inl a1), none], [], g) (11, [some (.inr (.inr 0)), some (.inl a1), none], [.inl (-2)], g) rfl ?_
      cases h
      exact er rfl
set_option maxRecDepth 100000 in
set_option maxHeartbeats 4000000 in
theorem ev_Md_outOf_l2 (K2_28 : Gx → Option (Int × Gx)) (hK2_28 : ∀ (g : Gx) (r : Int) (g' : Gx), K2_28 g = some (r, g') → Ev 222 28 [none, none] [] g (some (.inl r)) g') : ∀ (n2 : Nat) (v1 : Int) (g : Gx) (r : Int) (g' : Gx), Md_outOf_l2 K2_28 n2 v1 g = some (r, g') → Ev 222 2 [some (.inr (.inr 92)), some (.inl v1)] [] g (some (.inl r)) g' := by
  intro n2
  induction n2 with
  | zero => intro v1 g r g' h; cases h
  | succ n2 ih2 =>
    intro v1 g r g' h
    rw [Md_outOf_l2] at h
    refine ev_runs 3 (2, [some (.inr (.inr 92)), some (.inl v1)], [], g) (7, [some (.inr (.inr 92)), some (.inl v1)], [.inl (g 92 48), .inl v1], g) rfl ?_
    by_cases hc : (g 92 48) ≤ v1
    · rw [if_pos hc] at h
      refine es (28, [some (.inr (.inr 92)), some (.inl v1)], [], g) (congrArg some (if_pos hc)) ?_
      exact ev_le (L := [none, none]) (by simp [Lle]) (hK2_28 g r g' h)
    · rw [if_neg hc] at h
      refine es (10, [some (.inr (.inr 92)), some (.inl v1)], [], g) (congrArg some (if_neg hc)) ?_
      refine ev_runs 4 (10, [some (.inr (.inr 92)), some (.inl v1)], [], g) (14, [some (.inr (.inr 92)), some (.inl v1)], [.inl (wr (v1 + 1)), .inr (.inr 92)], g) rfl ?_
      obtain ⟨q1, hq, h⟩ := Option.bind_eq_some_iff.mp h
      refine ec 216 17 [.inr (.inr 92), .inl (wr (v1 + 1))] [] rfl (ev_Md_leftBy (wr (v1 + 1)) g q1.1 q1.2 hq) ?_
      show Ev 222 17 [some (.inr (.inr 92)), some (.inl v1)] [.inl q1.1] q1.2 _ _
      by_cases hc : ¬ q1.1 = 0
      · rw [if_pos hc] at h
        refine es (22, [some (.inr (.inr 92)), some (.inl v1)], [], q1.2) (congrArg some (if_pos hc)) ?_
        refine ev_runs 2 (22, [some (.inr (.inr 92)), some (.inl v1)], [], q1.2) (2, [some (.inr (.inr 92)), some (.inl (wr (v1 + 1)))], [], q1.2) rfl ?_
        exact ev_le (L := [some (.inr (.inr 92)), some (.inl (wr (v1 + 1)))]) (by simp [Lle]) (ih2 (wr (v1 + 1)) q1.2 r g' h)
      · rw [if_neg hc] at h
        refine es (20, [some (.inr (.inr 92)), some (.inl v1)], [], q1.2) (congrArg some (if_neg hc)) ?_
        refine ev_runs 1 (20, [some (.inr (.inr 92)), some (.inl v1)], [], q1.2) (21, [some (.inr (.inr 92)), some (.inl v1)], [.inl v1], q1.2) rfl ?_
        cases h
        exact er rfl
set_option maxRecDepth 100000 in
set_option maxHeartbeats 4000000 in
theorem ev_Md_outOf (g : Gx) (r : Int) (g' : Gx) (h : Md_outOf g = some (r, g')) : Ev 222 0 [some (.inr (.inr 92)), none] [] g (some (.inl r)) g' := by
  rw [Md_outOf] at h
  refine ev_runs 2 (0, [some (.inr (.inr 92)), none], [], g) (2, [some (.inr (.inr 92)), some (.inl 0)], [], g) rfl ?_
  refine ev_le (L := [some (.inr (.inr 92)), some (.inl 0)]) (by simp [Lle]) ?_
  refine ev_Md_outOf_l2 _ ?_ fu 0 g r g' h
  · intro g2 r g' h
    refine ev_runs 1 (28, [none, none], [], g2) (29, [none, none], [.inl (-1)], g2) rfl ?_
    cases h
    exact er rfl
set_option maxRecDepth 100000 in
set_option maxHeartbeats 4000000 in
theorem ev_Md_out (a1 : Int) (g : Gx) (r : Int) (g' : Gx) (h : Md_out a1 g = some (r, g')) : Ev 223 0 [some (.inr (.inr 92)), some (.inl a1), none, none] [] g (some (.inl r)) g' := by
  rw [Md_out] at h
  refine ev_runs 4 (0, [some (.inr (.inr 92)), some (.inl a1), none, none], [], g) (4, [some (.inr (.inr 92)), some (.inl a1), none, none], [.inr (.inl 1), .inr (.inl 0), .inr (.inl a1)], g) rfl ?_
  refine ec 4 7 [.inr (.inl a1), .inr (.inl 0), .inr (.inl 1)] [] rfl (ev_Md_in a1 0 1 g _ rfl) ?_
  show Ev 223 7 [some (.inr (.inr 92)), some (.inl a1), none, none] [.inl (Md_in a1 0 1)] g _ _
  by_cases hc : ¬ (Md_in a1 0 1) = 0
  · rw [if_pos hc] at h
    refine es (13, [some (.inr (.inr 92)), some (.inl a1), none, none], [], g) (congrArg some (if_pos hc)) ?_
    refine ev_runs 1 (13, [some (.inr (.inr 92)), some (.inl a1), none, none], [], g) (14, [some (.inr (.inr 92)), some (.inl a1), none, none], [.inr (.inr 92)], g) rfl ?_
    obtain ⟨q1, hq, h⟩ := Option.bind_eq_some_iff.mp h
    refine ec 81 17 [.inr (.inr 92)] [] rfl (ev_Md_without g q1.1 q1.2 hq) ?_
    show Ev 223 17 [some (.inr (.inr 92)), some (.inl a1), none, none] [.inl q1.1] q1.2 _ _
    refine ev_runs 2 (17, [some (.inr (.inr 92)), some (.inl a1), none, none], [.inl q1.1], q1.2) (19, [some (.inr (.inr 92)), some (.inl a1), some (.inl q1.1), none], [.inl q1.1], q1.2) rfl ?_
    by_cases hc : q1.1 = 0
    · rw [if_pos hc] at h
      refine es (24, [some (.inr (.inr 92)), some (.inl a1), some (.inl q1.1), none], [], q1.2) (congrArg some (if_pos hc)) ?_
      refine ev_runs 1 (24, [some (.inr (.inr 92)), some (.inl a1), some (.inl q1.1), none], [], q1.2) (25, [some (.inr (.inr 92)), some (.inl a1), some (.inl q1.1), none], [.inr (.inr 92)], q1.2) rfl ?_
      obtain ⟨q2, hq, h⟩ := Option.bind_eq_some_iff.mp h
      refine ec 222 28 [.inr (.inr 92)] [] rfl (ev_Md_outOf q1.2 q2.1 q2.2 hq) ?_
      show Ev 223 28 [some (.inr (.inr 92)), some (.inl a1), some (.inl q1.1), none] [.inl q2.1] q2.2 _ _
      refine ev_runs 3 (28, [some (.inr (.inr 92)), some (.inl a1), some (.inl q1.1), none], [.inl q2.1], q2.2) (31, [some (.inr (.inr 92)), some (.inl a1), some (.inl q1.1), some (.inl q2.1)], [.inl (-1), .inl q2.1], q2.2) rfl ?_
      by_cases hc : q2.1 = (-1)
      · rw [if_pos hc] at h
        refine es (38, [some (.inr (.inr 92)), some (.inl a1), some (.inl q1.1), some (.inl q2.1)], [], q2.2) (congrArg some (if_pos hc)) ?_
        refine ev_runs 2 (38, [some (.inr (.inr 92)), some (.inl a1), some (.inl q1.1), some (.inl q2.1)], [], q2.2) (51, [some (.inr (.inr 92)), some (.inl a1), some (.inl q1.1), some (.inl q2.1)], [.inl q2.1], q2.2) rfl ?_
        cases h
        exact er rfl
      · rw [if_neg hc] at h
        refine es (34, [some (.inr (.inr 92)), some (.inl a1), some (.inl q1.1), some (.inl q2.1)], [], q2.2) (congrArg some (if_neg hc)) ?_
        refine ev_runs 1 (34, [some (.inr (.inr 92)), some (.inl a1), some (.inl q1.1), some (.inl q2.1)], [], q2.2) (35, [some (.inr (.inr 92)), some (.inl a1), some (.inl q1.1), some (.inl q2.1)], [.inl a1], q2.2) rfl ?_
        by_cases hc : ¬ a1 = 0
        · rw [if_pos hc] at h
          refine es (42, [some (.inr (.inr 92)), some (.inl a1), some (.inl q1.1), some (.inl q2.1)], [], q2.2) (congrArg some (if_pos hc)) ?_
          refine ev_runs 3 (42, [some (.inr (.inr 92)), some (.inl a1), some (.inl q1.1), some (.inl q2.1)], [], q2.2) (47, [some (.inr (.inr 92)), some (.inl a1), some (.inl q1.1), some (.inl q2.1)], [.inl q2.1, .inr (.inr 127)], q2.2) rfl ?_
          by_cases hc : 0 ≤ q2.1 ∧ q2.1 < 40
          · rw [if_pos hc] at h
            refine es (48, [some (.inr (.inr 92)), some (.inl a1), some (.inl q1.1), some (.inl q2.1)], [.inl (q2.2 127 q2.1.toNat)], q2.2) (if_pos hc) ?_
            refine ec 99 51 [.inl (q2.2 127 q2.1.toNat)] [] rfl (ev_Md_from (q2.2 127 q2.1.toNat) q2.2 _ rfl) ?_
            show Ev 223 51 [some (.inr (.inr 92)), some (.inl a1), some (.inl q1.1), some (.inl q2.1)] [.inl (Md_from (q2.2 127 q2.1.toNat))] q2.2 _ _
            cases h
            exact er rfl
          · rw [if_neg hc] at h; cases h
        · rw [if_neg hc] at h
          refine es (38, [some (.inr (.inr 92)), some (.inl a1), some (.inl q1.1), some (.inl q2.1)], [], q2.2) (congrArg some (if_neg hc)) ?_
          refine ev_runs 2 (38, [some (.inr (.inr 92)), some (.inl a1), some (.inl q1.1), some (.inl q2.1)], [], q2.2) (51, [some (.inr (.inr 92)), some (.inl a1), some (.inl q1.1), some (.inl q2.1)], [.inl q2.1], q2.2) rfl ?_
          cases h
          exact er rfl
    · rw [if_neg hc] at h
      refine es (22, [some (.inr (.inr 92)), some (.inl a1), some (.inl q1.1), none], [], q1.2) (congrArg some (if_neg hc)) ?_
      refine ev_runs 1 (22, [some (.inr (.inr 92)), some (.inl a1), some (.inl q1.1), none], [], q1.2) (23, [some (.inr (.inr 92)), some (.inl a1), some (.inl q1.1), none], [.inl q1.1], q1.2) rfl ?_
      cases h
      exact er rfl
  · rw [if_neg hc] at h
    refine es (10, [some (.inr (.inr 92)), some (.inl a1), none, none], [], g) (congrArg some (if_neg hc)) ?_
    refine ev_runs 1 (10, [some (.inr (.inr 92)), some (.inl a1), none, none], [], g) (12, [some (.inr (.inr 92)), some (.inl a1), none, none], [.inl (-2)], g) rfl ?_
    cases h
    exact er rfl
set_option maxRecDepth 100000 in
set_option maxHeartbeats 4000000 in
theorem ev_Bd_leftAtLast (g : Gx) (r : Int) (g' : Gx) (h : Bd_leftAtLast g = some (r, g')) : Ev 224 0 [some (.inr (.inr 78))] [] g (some (.inl r)) g' := by
  rw [Bd_leftAtLast] at h
  refine ev_runs 2 (0, [some (.inr (.inr 78))], [], g) (2, [some (.inr (.inr 78))], [.inr (.inr 78), .inr (.inr 78)], g) rfl ?_
  obtain ⟨q1, hq, h⟩ := Option.bind_eq_some_iff.mp h
  refine ec 218 5 [.inr (.inr 78)] [.inr (.inr 78)] rfl (ev_Bd_mostBorne g q1.1 q1.2 hq) ?_
  show Ev 224 5 [some (.inr (.inr 78))] [.inl q1.1, .inr (.inr 78)] q1.2 _ _
  obtain ⟨q2, hq, h⟩ := Option.bind_eq_some_iff.mp h
  refine ec 213 8 [.inr (.inr 78), .inl q1.1] [] rfl (ev_Bd_leftBy q1.1 q1.2 q2.1 q2.2 hq) ?_
  show Ev 224 8 [some (.inr (.inr 78))] [.inl q2.1] q2.2 _ _
  cases h
  exact er rfl
set_option maxRecDepth 100000 in
set_option maxHeartbeats 4000000 in
theorem ev_Lk_mostTelling_l7 (c1 : Int) (K7_45 : Int → Gx → Option (Int × Gx)) (hK7_45 : ∀ (x2 : Int) (g : Gx) (r : Int) (g' : Gx), K7_45 x2 g = some (r, g') → Ev 225 45 [none, none, some (.inl x2), none, none, none] [] g (some (.inl r)) g') : ∀ (n7 : Nat) (v2 v3 v4 : Int) (g : Gx) (r : Int) (g' : Gx), Lk_mostTelling_l7 c1 K7_45 n7 v2 v3 v4 g = some (r, g') → Ev 225 7 [some (.inr (.inr 50)), some (.inl c1), some (.inl v2), some (.inl v3), some (.inl v4), none] [] g (some (.inl r)) g' := by
  intro n7
  induction n7 with
  | zero => intro v2 v3 v4 g r g' h; cases h
  | succ n7 ih7 =>
    intro v2 v3 v4 g r g' h
    rw [Lk_mostTelling_l7] at h
    refine ev_runs 2 (7, [some (.inr (.inr 50)), some (.inl c1), some (.inl v2), some (.inl v3), some (.inl v4), none], [], g) (11, [some (.inr (.inr 50)), some (.inl c1), some (.inl v2), some (.inl v3), some (.inl v4), none], [.inl 6, .inl v4], g) rfl ?_
    by_cases hc : 6 ≤ v4
    · rw [if_pos hc] at h
      refine es (45, [some (.inr (.inr 50)), some (.inl c1), some (.inl v2), some (.inl v3), some (.inl v4), none], [], g) (congrArg some (if_pos hc)) ?_
      exact ev_le (L := [none, none, some (.inl v2), none, none, none]) (by simp [Lle]) (hK7_45 v2 g r g' h)
    · rw [if_neg hc] at h
      refine es (14, [some (.inr (.inr 50)), some (.inl c1), some (.inl v2), some (.inl v3), some (.inl v4), none], [], g) (congrArg some (if_neg hc)) ?_
      refine ev_runs 2 (14, [some (.inr (.inr 50)), some (.inl c1), some (.inl v2), some (.inl v3), some (.inl v4), none], [], g) (17, [some (.inr (.inr 50)), some (.inl c1), some (.inl v2), some (.inl v3), some (.inl v4), none], [.inl v4, .inr (.inr 50)], g) rfl ?_
      obtain ⟨g1, hq, h⟩ := Option.bind_eq_some_iff.mp h
      refine ec 94 20 [.inr (.inr 50), .inl v4] [] rfl (ev_Lk_load v4 g g1 hq) ?_
      show Ev 225 20 [some (.inr (.inr 50)), some (.inl c1), some (.inl v2), some (.inl v3), some (.inl v4), none] [] g1 _ _
      refine ev_runs 2 (20, [some (.inr (.inr 50)), some (.inl c1), some (.inl v2), some (.inl v3), some (.inl v4), none], [], g1) (22, [some (.inr (.inr 50)), some (.inl c1), some (.inl v2), some (.inl v3), some (.inl v4), none], [.inl c1, .inr (.inr 50)], g1) rfl ?_
      obtain ⟨q2, hq, h⟩ := Option.bind_eq_some_iff.mp h
      refine ec 108 25 [.inr (.inr 50), .inl c1] [] rfl (ev_Lk_unlike c1 g1 q2.1 q2.2 hq) ?_
      show Ev 225 25 [some (.inr (.inr 50)), some (.inl c1), some (.inl v2), some (.inl v3), some (.inl v4), none] [.inl q2.1] q2.2 _ _
      refine ev_runs 3 (25, [some (.inr (.inr 50)), some (.inl c1), some (.inl v2), some (.inl v3), some (.inl v4), none], [.inl q2.1], q2.2) (30, [some (.inr (.inr 50)), some (.inl c1), some (.inl v2), some (.inl v3), some (.inl v4), some (.inl q2.1)], [.inl v3, .inl q2.1], q2.2) rfl ?_
      by_cases hc : q2.1 ≤ v3
      · rw [if_pos hc] at h
        refine es (39, [some (.inr (.inr 50)), some (.inl c1), some (.inl v2), some (.inl v3), some (.inl v4), some (.inl q2.1)], [], q2.2) (congrArg some (if_pos hc)) ?_
        refine ev_runs 2 (39, [some (.inr (.inr 50)), some (.inl c1), some (.inl v2), some (.inl v3), some (.inl v4), some (.inl q2.1)], [], q2.2) (7, [some (.inr (.inr 50)), some (.inl c1), some (.inl v2), some (.inl v3), some (.inl (wr (v4 + 1))), some (.inl q2.1)], [], q2.2) rfl ?_
        exact ev_le (L := [some (.inr (.inr 50)), some (.inl c1), some (.inl v2), some (.inl v3), some (.inl (wr (v4 + 1))), none]) (by simp [Lle]) (ih7 v2 v3 (wr (v4 + 1)) q2.2 r g' h)
      · rw [if_neg hc] at h
        refine es (33, [some (.inr (.inr 50)), some (.inl c1), some (.inl v2), some (.inl v3), some (.inl v4), some (.inl q2.1)], [], q2.2) (congrArg some (if_neg hc)) ?_
        refine ev_runs 6 (33, [some (.inr (.inr 50)), some (.inl c1), some (.inl v2), some (.inl v3), some (.inl v4), some (.inl q2.1)], [], q2.2) (7, [some (.inr (.inr 50)), some (.inl c1), some (.inl v4), some (.inl q2.1), some (.inl (wr (v4 + 1))), some (.inl q2.1)], [], q2.2) rfl ?_
        exact ev_le (L := [some (.inr (.inr 50)), some (.inl c1), some (.inl v4), some (.inl q2.1), some (.inl (wr (v4 + 1))), none]) (by simp [Lle]) (ih7 v4 q2.1 (wr (v4 + 1)) q2.2 r g' h)
set_option maxRecDepth 100000 in
set_option maxHeartbeats 4000000 in
theorem ev_Lk_mostTelling (a1 : Int) (g : Gx) (r : Int) (g' : Gx) (h : Lk_mostTelling a1 g = some (r, g')) : Ev 225 0 [some (.inr (.inr 50)), some (.inl a1), none, none, none, none] [] g (some (.inl r)) g' := by
  rw [Lk_mostTelling] at h
  refine ev_runs 6 (0, [some (.inr (.inr 50)), some (.inl a1), none, none, none, none], [], g) (7, [some (.inr (.inr 50)), some (.inl a1), some (.inl 0), some (.inl 0), some (.inl 0), none], [], g) rfl ?_
  refine ev_le (L := [some (.inr (.inr 50)), some (.inl a1), some (.inl 0), some (.inl 0), some (.inl 0), none]) (by simp [Lle]) ?_
  refine ev_Lk_mostTelling_l7 a1 _ ?_ fu 0 0 0 g r g' h
  · intro x3 g4 r g' h
    refine ev_runs 1 (45, [none, none, some (.inl x3), none, none, none], [], g4) (46, [none, none, some (.inl x3), none, none, none], [.inl x3], g4) rfl ?_
    cases h
    exact er rfl
set_option maxRecDepth 100000 in
set_option maxHeartbeats 4000000 in
theorem ev_Op_ask (g : Gx) (r : Int) (g' : Gx) (h : Op_ask g = some (r, g')) : Ev 226 0 [some (.inr (.inr 0)), none, none] [] g (some (.inl r)) g' := by
  rw [Op_ask] at h
  refine ev_runs 2 (0, [some (.inr (.inr 0)), none, none], [], g) (2, [some (.inr (.inr 0)), none, none], [.inl 0, .inr (.inr 0)], g) rfl ?_
  obtain ⟨q1, hq, h⟩ := Option.bind_eq_some_iff.mp h
  refine ec 75 5 [.inr (.inr 0), .inl 0] [] rfl (ev_Op_hindrance 0 g q1.1 q1.2 hq) ?_
  show Ev 226 5 [some (.inr (.inr 0)), none, none] [.inl q1.1] q1.2 _ _
  refine ev_runs 2 (5, [some (.inr (.inr 0)), none, none], [.inl q1.1], q1.2) (7, [some (.inr (.inr 0)), some (.inl q1.1), none], [.inl q1.1], q1.2) rfl ?_
  by_cases hc : q1.1 = 0
  · rw [if_pos hc] at h
    refine es (22, [some (.inr (.inr 0)), some (.inl q1.1), none], [], q1.2) (congrArg some (if_pos hc)) ?_
    refine ev_runs 2 (22, [some (.inr (.inr 0)), some (.inl q1.1), none], [], q1.2) (26, [some (.inr (.inr 0)), some (.inl q1.1), none], [.inr (.inr 78)], q1.2) rfl ?_
    obtain ⟨g2, hq, h⟩ := Option.bind_eq_some_iff.mp h
    refine ec 212 29 [.inr (.inr 78)] [] rfl (ev_Bd_compare q1.2 g2 hq) ?_
    show Ev 226 29 [some (.inr (.inr 0)), some (.inl q1.1), none] [] g2 _ _
    refine ev_runs 2 (29, [some (.inr (.inr 0)), some (.inl q1.1), none], [], g2) (33, [some (.inr (.inr 0)), some (.inl q1.1), none], [.inr (.inr 78)], g2) rfl ?_
    obtain ⟨q3, hq, h⟩ := Option.bind_eq_some_iff.mp h
    refine ec 224 36 [.inr (.inr 78)] [] rfl (ev_Bd_leftAtLast g2 q3.1 q3.2 hq) ?_
    show Ev 226 36 [some (.inr (.inr 0)), some (.inl q1.1), none] [.inl q3.1] q3.2 _ _
    refine ev_runs 2 (36, [some (.inr (.inr 0)), some (.inl q1.1), none], [.inl q3.1], q3.2) (38, [some (.inr (.inr 0)), some (.inl q1.1), some (.inl q3.1)], [.inl q3.1], q3.2) rfl ?_
    refine ec 58 41 [.inl q3.1] [] rfl (ev_Ji_bitCount q3.1 q3.2 _ rfl) ?_
    show Ev 226 41 [some (.inr (.inr 0)), some (.inl q1.1), some (.inl q3.1)] [.inl (Ji_bitCount q3.1)] q3.2 _ _
    refine ev_runs 1 (41, [some (.inr (.inr 0)), some (.inl q1.1), some (.inl q3.1)], [.inl (Ji_bitCount q3.1)], q3.2) (42, [some (.inr (.inr 0)), some (.inl q1.1), some (.inl q3.1)], [.inl 1, .inl (Ji_bitCount q3.1)], q3.2) rfl ?_
    by_cases hc : ¬ (Ji_bitCount q3.1) = 1
    · rw [if_pos hc] at h
      refine es (49, [some (.inr (.inr 0)), some (.inl q1.1), some (.inl q3.1)], [], q3.2) (congrArg some (if_pos hc)) ?_
      refine ev_runs 3 (49, [some (.inr (.inr 0)), some (.inl q1.1), some (.inl q3.1)], [], q3.2) (54, [some (.inr (.inr 0)), some (.inl q1.1), some (.inl q3.1)], [.inl q3.1, .inr (.inr 50)], q3.2) rfl ?_
      obtain ⟨q4, hq, h⟩ := Option.bind_eq_some_iff.mp h
      refine ec 225 57 [.inr (.inr 50), .inl q3.1] [] rfl (ev_Lk_mostTelling q3.1 q3.2 q4.1 q4.2 hq) ?_
      show Ev 226 57 [some (.inr (.inr 0)), some (.inl q1.1), some (.inl q3.1)] [.inl q4.1] q4.2 _ _
      cases h
      exact er rfl
    · rw [if_neg hc] at h
      refine es (45, [some (.inr (.inr 0)), some (.inl q1.1), some (.inl q3.1)], [], q3.2) (congrArg some (if_neg hc)) ?_
      refine ev_runs 2 (45, [some (.inr (.inr 0)), some (.inl q1.1), some (.inl q3.1)], [], q3.2) (57, [some (.inr (.inr 0)), some (.inl q1.1), some (.inl q3.1)], [.inl (-1)], q3.2) rfl ?_
      cases h
      exact er rfl
  · rw [if_neg hc] at h
    refine es (10, [some (.inr (.inr 0)), some (.inl q1.1), none], [], q1.2) (congrArg some (if_neg hc)) ?_
    refine ev_runs 2 (10, [some (.inr (.inr 0)), some (.inl q1.1), none], [], q1.2) (13, [some (.inr (.inr 0)), some (.inl q1.1), none], [.inl (-4), .inl q1.1], q1.2) rfl ?_
    by_cases hc : ¬ q1.1 = (-4)
    · rw [if_pos hc] at h
      refine es (20, [some (.inr (.inr 0)), some (.inl q1.1), none], [], q1.2) (congrArg some (if_pos hc)) ?_
      refine ev_runs 1 (20, [some (.inr (.inr 0)), some (.inl q1.1), none], [], q1.2) (21, [some (.inr (.inr 0)), some (.inl q1.1), none], [.inl q1.1], q1.2) rfl ?_
      cases h
      exact er rfl
    · rw [if_neg hc] at h
      refine es (16, [some (.inr (.inr 0)), some (.inl q1.1), none], [], q1.2) (congrArg some (if_neg hc)) ?_
      refine ev_runs 2 (16, [some (.inr (.inr 0)), some (.inl q1.1), none], [], q1.2) (21, [some (.inr (.inr 0)), some (.inl q1.1), none], [.inl (-1)], q1.2) rfl ?_
      cases h
      exact er rfl
set_option maxRecDepth 100000 in
set_option maxHeartbeats 4000000 in
theorem ev_Md_ask_l64 (c3 : Int) (K64_103 : Int → Gx → Option (Int × Gx)) (hK64_103 : ∀ (x4 : Int) (g : Gx) (r : Int) (g' : Gx), K64_103 x4 g = some (r, g') → Ev 227 103 [none, none, none, none, some (.inl x4), none] [] g (some (.inl r)) g') : ∀ (n64 : Nat) (v4 v5 : Int) (g : Gx) (r : Int) (g' : Gx), Md_ask_l64 c3 K64_103 n64 v4 v5 g = some (r, g') → Ev 227 64 [some (.inr (.inr 92)), none, none, some (.inl c3), some (.inl v4), some (.inl v5)] [] g (some (.inl r)) g' := by
  intro n64
  induction n64 with
  | zero => intro v4 v5 g r g' h; cases h
  | succ n64 ih64 =>
    intro v4 v5 g r g' h
    rw [Md_ask_l64] at h
    refine ev_runs 2 (64, [some (.inr (.inr 92)), none, none, some (.inl c3), some (.inl v4), some (.inl v5)], [], g) (68, [some (.inr (.inr 92)), none, none, some (.inl c3), some (.inl v4), some (.inl v5)], [.inl 6, .inl v5], g) rfl ?_
    by_cases hc : 6 ≤ v5
    · rw [if_pos hc] at h
      refine es (103, [some (.inr (.inr 92)), none, none, some (.inl c3), some (.inl v4), some (.inl v5)], [], g) (congrArg some (if_pos hc)) ?_
      exact ev_le (L := [none, none, none, none, some (.inl v4), none]) (by simp [Lle]) (hK64_103 v4 g r g' h)
    · rw [if_neg hc] at h
      refine es (71, [some (.inr (.inr 92)), none, none, some (.inl c3), some (.inl v4), some (.inl v5)], [], g) (congrArg some (if_neg hc)) ?_
      refine ev_runs 3 (71, [some (.inr (.inr 92)), none, none, some (.inl c3), some (.inl v4), some (.inl v5)], [], g) (75, [some (.inr (.inr 92)), none, none, some (.inl c3), some (.inl v4), some (.inl v5)], [.inl c3, .inl v5, .inr (.inr 92)], g) rfl ?_
      obtain ⟨q7, hq, h⟩ := Option.bind_eq_some_iff.mp h
      refine ec 112 78 [.inr (.inr 92), .inl v5, .inl c3] [] rfl (ev_Md_looksOf v5 c3 g q7.1 q7.2 hq) ?_
      show Ev 227 78 [some (.inr (.inr 92)), none, none, some (.inl c3), some (.inl v4), some (.inl v5)] [.inl q7.1] q7.2 _ _
      refine ev_runs 3 (78, [some (.inr (.inr 92)), none, none, some (.inl c3), some (.inl v4), some (.inl v5)], [.inl q7.1], q7.2) (82, [some (.inr (.inr 92)), none, none, some (.inl c3), some (.inl v4), some (.inl v5)], [.inl c3, .inl v4, .inr (.inr 92), .inl q7.1], q7.2) rfl ?_
      obtain ⟨q8, hq, h⟩ := Option.bind_eq_some_iff.mp h
      refine ec 112 85 [.inr (.inr 92), .inl v4, .inl c3] [.inl q7.1] rfl (ev_Md_looksOf v4 c3 q7.2 q8.1 q8.2 hq) ?_
      show Ev 227 85 [some (.inr (.inr 92)), none, none, some (.inl c3), some (.inl v4), some (.inl v5)] [.inl q8.1, .inl q7.1] q8.2 _ _
      by_cases hc : q7.1 ≤ q8.1
      · rw [if_pos hc] at h
        refine es (93, [some (.inr (.inr 92)), none, none, some (.inl c3), some (.inl v4), some (.inl v5)], [], q8.2) (congrArg some (if_pos hc)) ?_
        refine ev_runs 4 (93, [some (.inr (.inr 92)), none, none, some (.inl c3), some (.inl v4), some (.inl v5)], [], q8.2) (64, [some (.inr (.inr 92)), none, none, some (.inl c3), some (.inl v4), some (.inl (wr (v5 + 1)))], [], q8.2) rfl ?_
        exact ev_le (L := [some (.inr (.inr 92)), none, none, some (.inl c3), some (.inl v4), some (.inl (wr (v5 + 1)))]) (by simp [Lle]) (ih64 v4 (wr (v5 + 1)) q8.2 r g' h)
      · rw [if_neg hc] at h
        refine es (88, [some (.inr (.inr 92)), none, none, some (.inl c3), some (.inl v4), some (.inl v5)], [], q8.2) (congrArg some (if_neg hc)) ?_
        refine ev_runs 5 (88, [some (.inr (.inr 92)), none, none, some (.inl c3), some (.inl v4), some (.inl v5)], [], q8.2) (64, [some (.inr (.inr 92)), none, none, some (.inl c3), some (.inl v5), some (.inl (wr (v5 + 1)))], [], q8.2) rfl ?_
        exact ev_le (L := [some (.inr (.inr 92)), none, none, some (.inl c3), some (.inl v5), some (.inl (wr (v5 + 1)))]) (by simp [Lle]) (ih64 v5 (wr (v5 + 1)) q8.2 r g' h)
set_option maxRecDepth 100000 in
set_option maxHeartbeats 4000000 in
theorem ev_Md_ask (g : Gx) (r : Int) (g' : Gx) (h : Md_ask g = some (r, g')) : Ev 227 0 [some (.inr (.inr 92)), none, none, none, none, none] [] g (some (.inl r)) g' := by
  rw [Md_ask] at h
  refine ev_runs 1 (0, [some (.inr (.inr 92)), none, none, none, none, none], [], g) (1, [some (.inr (.inr 92)), none, none, none, none, none], [.inr (.inr 92)], g) rfl ?_
  obtain ⟨q1, hq, h⟩ := Option.bind_eq_some_iff.mp h
  refine ec 81 4 [.inr (.inr 92)] [] rfl (ev_Md_without g q1.1 q1.2 hq) ?_
  show Ev 227 4 [some (.inr (.inr 92)), none, none, none, none, none] [.inl q1.1] q1.2 _ _
  refine ev_runs 2 (4, [some (.inr (.inr 92)), none, none, none, none, none], [.inl q1.1], q1.2) (6, [some (.inr (.inr 92)), some (.inl q1.1), none, none, none, none], [.inl q1.1], q1.2) rfl ?_
  by_cases hc : q1.1 = 0
  · rw [if_pos hc] at h
    refine es (21, [some (.inr (.inr 92)), some (.inl q1.1), none, none, none, none], [], q1.2) (congrArg some (if_pos hc)) ?_
    refine ev_runs 1 (21, [some (.inr (.inr 92)), some (.inl q1.1), none, none, none, none], [], q1.2) (22, [some (.inr (.inr 92)), some (.inl q1.1), none, none, none, none], [.inr (.inr 92)], q1.2) rfl ?_
    obtain ⟨q2, hq, h⟩ := Option.bind_eq_some_iff.mp h
    refine ec 222 25 [.inr (.inr 92)] [] rfl (ev_Md_outOf q1.2 q2.1 q2.2 hq) ?_
    show Ev 227 25 [some (.inr (.inr 92)), some (.inl q1.1), none, none, none, none] [.inl q2.1] q2.2 _ _
    refine ev_runs 4 (25, [some (.inr (.inr 92)), some (.inl q1.1), none, none, none, none], [.inl q2.1], q2.2) (29, [some (.inr (.inr 92)), some (.inl q1.1), some (.inl q2.1), none, none, none], [.inl (-1), .inl q2.1, .inr (.inr 92)], q2.2) rfl ?_
    obtain ⟨y3, hy3, h⟩ := lett_inv h
    have hjy3 : Ev 227 40 [some (.inr (.inr 92)), none, none, none, none, none] [.inl y3, .inr (.inr 92)] q2.2 (some (.inl r)) g' := by
      obtain ⟨q4, hq, h⟩ := Option.bind_eq_some_iff.mp h
      refine ec 216 43 [.inr (.inr 92), .inl y3] [] rfl (ev_Md_leftBy y3 q2.2 q4.1 q4.2 hq) ?_
      show Ev 227 43 [some (.inr (.inr 92)), none, none, none, none, none] [.inl q4.1] q4.2 _ _
      refine ev_runs 2 (43, [some (.inr (.inr 92)), none, none, none, none, none], [.inl q4.1], q4.2) (45, [some (.inr (.inr 92)), none, none, some (.inl q4.1), none, none], [.inl q4.1], q4.2) rfl ?_
      obtain ⟨q5, hq, h⟩ := Option.bind_eq_some_iff.mp h
      refine ec 137 48 [.inl q4.1] [] rfl (ev_Md_ones q4.1 q4.2 q5.1 q5.2 hq) ?_
      show Ev 227 48 [some (.inr (.inr 92)), none, none, some (.inl q4.1), none, none] [.inl q5.1] q5.2 _ _
      refine ev_runs 1 (48, [some (.inr (.inr 92)), none, none, some (.inl q4.1), none, none], [.inl q5.1], q5.2) (49, [some (.inr (.inr 92)), none, none, some (.inl q4.1), none, none], [.inl 1, .inl q5.1], q5.2) rfl ?_
      by_cases hc : ¬ q5.1 = 1
      · rw [if_pos hc] at h
        refine es (54, [some (.inr (.inr 92)), none, none, some (.inl q4.1), none, none], [], q5.2) (congrArg some (if_pos hc)) ?_
        refine ev_runs 1 (54, [some (.inr (.inr 92)), none, none, some (.inl q4.1), none, none], [], q5.2) (55, [some (.inr (.inr 92)), none, none, some (.inl q4.1), none, none], [.inr (.inr 92)], q5.2) rfl ?_
        obtain ⟨g6, hq, h⟩ := Option.bind_eq_some_iff.mp h
        refine ec 101 58 [.inr (.inr 92)] [] rfl (ev_Md_findLooks q5.2 g6 hq) ?_
        show Ev 227 58 [some (.inr (.inr 92)), none, none, some (.inl q4.1), none, none] [] g6 _ _
        refine ev_runs 4 (58, [some (.inr (.inr 92)), none, none, some (.inl q4.1), none, none], [], g6) (64, [some (.inr (.inr 92)), none, none, some (.inl q4.1), some (.inl 0), some (.inl 1)], [], g6) rfl ?_
        refine ev_le (L := [some (.inr (.inr 92)), none, none, some (.inl q4.1), some (.inl 0), some (.inl 1)]) (by simp [Lle]) ?_
        refine ev_Md_ask_l64 q4.1 _ ?_ fu 0 1 g6 r g' h
        · intro x9 g10 r g' h
          refine ev_runs 1 (103, [none, none, none, none, some (.inl x9), none], [], g10) (105, [none, none, none, none, some (.inl x9), none], [.inl x9], g10) rfl ?_
          cases h
          exact er rfl
      · rw [if_neg hc] at h
        refine es (52, [some (.inr (.inr 92)), none, none, some (.inl q4.1), none, none], [], q5.2) (congrArg some (if_neg hc)) ?_
        refine ev_runs 1 (52, [some (.inr (.inr 92)), none, none, some (.inl q4.1), none, none], [], q5.2) (53, [some (.inr (.inr 92)), none, none, some (.inl q4.1), none, none], [.inl (-1)], q5.2) rfl ?_
        cases h
        exact er rfl
    by_cases hc : ¬ q2.1 = (-1)
    · rw [if_pos hc] at hy3
      refine es (39, [some (.inr (.inr 92)), some (.inl q1.1), some (.inl q2.1), none, none, none], [.inr (.inr 92)], q2.2) (congrArg some (if_pos hc)) ?_
      refine ev_runs 1 (39, [some (.inr (.inr 92)), some (.inl q1.1), some (.inl q2.1), none, none, none], [.inr (.inr 92)], q2.2) (40, [some (.inr (.inr 92)), some (.inl q1.1), some (.inl q2.1), none, none, none], [.inl q2.1, .inr (.inr 92)], q2.2) rfl ?_
      rw [hy3] at hjy3
      exact ev_le (L := [some (.inr (.inr 92)), none, none, none, none, none]) (by simp [Lle]) hjy3
    · rw [if_neg hc] at hy3
      refine es (32, [some (.inr (.inr 92)), some (.inl q1.1), some (.inl q2.1), none, none, none], [.inr (.inr 92)], q2.2) (congrArg some (if_neg hc)) ?_
      refine ev_runs 3 (32, [some (.inr (.inr 92)), some (.inl q1.1), some (.inl q2.1), none, none, none], [.inr (.inr 92)], q2.2) (40, [some (.inr (.inr 92)), some (.inl q1.1), some (.inl q2.1), none, none, none], [.inl (q2.2 92 48), .inr (.inr 92)], q2.2) rfl ?_
      rw [hy3] at hjy3
      exact ev_le (L := [some (.inr (.inr 92)), none, none, none, none, none]) (by simp [Lle]) hjy3
  · rw [if_neg hc] at h
    refine es (9, [some (.inr (.inr 92)), some (.inl q1.1), none, none, none, none], [], q1.2) (congrArg some (if_neg hc)) ?_
    refine ev_runs 2 (9, [some (.inr (.inr 92)), some (.inl q1.1), none, none, none, none], [], q1.2) (12, [some (.inr (.inr 92)), some (.inl q1.1), none, none, none, none], [.inl (-4), .inl q1.1], q1.2) rfl ?_
    by_cases hc : ¬ q1.1 = (-4)
    · rw [if_pos hc] at h
      refine es (19, [some (.inr (.inr 92)), some (.inl q1.1), none, none, none, none], [], q1.2) (congrArg some (if_pos hc)) ?_
      refine ev_runs 1 (19, [some (.inr (.inr 92)), some (.inl q1.1), none, none, none, none], [], q1.2) (20, [some (.inr (.inr 92)), some (.inl q1.1), none, none, none, none], [.inl q1.1], q1.2) rfl ?_
      cases h
      exact er rfl
    · rw [if_neg hc] at h
      refine es (15, [some (.inr (.inr 92)), some (.inl q1.1), none, none, none, none], [], q1.2) (congrArg some (if_neg hc)) ?_
      refine ev_runs 2 (15, [some (.inr (.inr 92)), some (.inl q1.1), none, none, none, none], [], q1.2) (20, [some (.inr (.inr 92)), some (.inl q1.1), none, none, none, none], [.inl (-1)], q1.2) rfl ?_
      cases h
      exact er rfl
set_option maxRecDepth 100000 in
set_option maxHeartbeats 4000000 in
theorem ev_Op_isForm (a0 : Int) (g : Gx) (r : Int) (h : Op_isForm a0 = r) : Ev 228 0 [some (.inl a0)] [] g (some (.inl r)) g := by
  rw [Op_isForm] at h
  refine ev_runs 1 (0, [some (.inl a0)], [], g) (1, [some (.inl a0)], [.inl a0], g) rfl ?_
  by_cases hc : a0 < 0
  · rw [if_pos hc] at h
    refine es (13, [some (.inl a0)], [], g) (congrArg some (if_pos hc)) ?_
    refine ev_runs 1 (13, [some (.inl a0)], [], g) (14, [some (.inl a0)], [.inl 0], g) rfl ?_
    subst h
    exact er rfl
  · rw [if_neg hc] at h
    refine es (4, [some (.inl a0)], [], g) (congrArg some (if_neg hc)) ?_
    refine ev_runs 2 (4, [some (.inl a0)], [], g) (6, [some (.inl a0)], [.inl 3, .inl a0], g) rfl ?_
    by_cases hc : 3 ≤ a0
    · rw [if_pos hc] at h
      refine es (13, [some (.inl a0)], [], g) (congrArg some (if_pos hc)) ?_
      refine ev_runs 1 (13, [some (.inl a0)], [], g) (14, [some (.inl a0)], [.inl 0], g) rfl ?_
      subst h
      exact er rfl
    · rw [if_neg hc] at h
      refine es (9, [some (.inl a0)], [], g) (congrArg some (if_neg hc)) ?_
      refine ev_runs 2 (9, [some (.inl a0)], [], g) (14, [some (.inl a0)], [.inl 1], g) rfl ?_
      subst h
      exact er rfl
set_option maxRecDepth 100000 in
set_option maxHeartbeats 4000000 in
theorem ev_Sh_renew_l21 (c1 : Int) (c3 : Int) (K21_48 : Gx → Option Gx) (hK21_48 : ∀ (g : Gx) (g' : Gx), K21_48 g = some g' → Ev 229 48 [none, none, none, none, none] [] g none g') : ∀ (n21 : Nat) (v4 : Int) (g : Gx) (g' : Gx), Sh_renew_l21 c1 c3 K21_48 n21 v4 g = some g' → Ev 229 21 [some (.inr (.inr 85)), some (.inl c1), none, some (.inl c3), some (.inl v4)] [] g none g' := by
  intro n21
  induction n21 with
  | zero => intro v4 g g' h; cases h
  | succ n21 ih21 =>
    intro v4 g g' h
    rw [Sh_renew_l21] at h
    refine ev_runs 2 (21, [some (.inr (.inr 85)), some (.inl c1), none, some (.inl c3), some (.inl v4)], [], g) (24, [some (.inr (.inr 85)), some (.inl c1), none, some (.inl c3), some (.inl v4)], [.inl c3, .inl v4], g) rfl ?_
    by_cases hc : c3 ≤ v4
    · rw [if_pos hc] at h
      refine es (48, [some (.inr (.inr 85)), some (.inl c1), none, some (.inl c3), some (.inl v4)], [], g) (congrArg some (if_pos hc)) ?_
      exact ev_le (L := [none, none, none, none, none]) (by simp [Lle]) (hK21_48 g g' h)
    · rw [if_neg hc] at h
      refine es (27, [some (.inr (.inr 85)), some (.inl c1), none, some (.inl c3), some (.inl v4)], [], g) (congrArg some (if_neg hc)) ?_
      refine ev_runs 8 (27, [some (.inr (.inr 85)), some (.inl c1), none, some (.inl c3), some (.inl v4)], [], g) (39, [some (.inr (.inr 85)), some (.inl c1), none, some (.inl c3), some (.inl v4)], [.inl 0, .inl (wr ((wr (c1 * 60)) + v4)), .inr (.inr 86)], g) rfl ?_
      refine ec 0 42 [.inr (.inr 86), .inl (wr ((wr (c1 * 60)) + v4)), .inl 0] [] rfl (ev_Row_set rfl rfl _ _ _) ?_
      show Ev 229 42 [some (.inr (.inr 85)), some (.inl c1), none, some (.inl c3), some (.inl v4)] [] (rset g 87 240 (wr ((wr (c1 * 60)) + v4)) 0) _ _
      refine ev_runs 2 (42, [some (.inr (.inr 85)), some (.inl c1), none, some (.inl c3), some (.inl v4)], [], (rset g 87 240 (wr ((wr (c1 * 60)) + v4)) 0)) (21, [some (.inr (.inr 85)), some (.inl c1), none, some (.inl c3), some (.inl (wr (v4 + 1)))], [], (rset g 87 240 (wr ((wr (c1 * 60)) + v4)) 0)) rfl ?_
      exact ev_le (L := [some (.inr (.inr 85)), some (.inl c1), none, some (.inl c3), some (.inl (wr (v4 + 1)))]) (by simp [Lle]) (ih21 (wr (v4 + 1)) (rset g 87 240 (wr ((wr (c1 * 60)) + v4)) 0) g' h)
set_option maxRecDepth 100000 in
set_option maxHeartbeats 4000000 in
theorem ev_Sh_renew (a1 a2 a3 : Int) (g : Gx) (g' : Gx) (h : Sh_renew a1 a2 a3 g = some g') : Ev 229 0 [some (.inr (.inr 85)), some (.inl a1), some (.inl a2), some (.inl a3), none] [] g none g' := by
  rw [Sh_renew] at h
  refine ev_runs 4 (0, [some (.inr (.inr 85)), some (.inl a1), some (.inl a2), some (.inl a3), none], [], g) (6, [some (.inr (.inr 85)), some (.inl a1), some (.inl a2), some (.inl a3), none], [.inl a2, .inl a1, .inr (.inr 88)], g) rfl ?_
  refine ec 0 9 [.inr (.inr 88), .inl a1, .inl a2] [] rfl (ev_Row_set rfl rfl _ _ _) ?_
  show Ev 229 9 [some (.inr (.inr 85)), some (.inl a1), some (.inl a2), some (.inl a3), none] [] (rset g 89 4 a1 a2) _ _
  refine ev_runs 4 (9, [some (.inr (.inr 85)), some (.inl a1), some (.inl a2), some (.inl a3), none], [], (rset g 89 4 a1 a2)) (15, [some (.inr (.inr 85)), some (.inl a1), some (.inl a2), some (.inl a3), none], [.inl a3, .inl a1, .inr (.inr 90)], (rset g 89 4 a1 a2)) rfl ?_
  refine ec 0 18 [.inr (.inr 90), .inl a1, .inl a3] [] rfl (ev_Row_set rfl rfl _ _ _) ?_
  show Ev 229 18 [some (.inr (.inr 85)), some (.inl a1), some (.inl a2), some (.inl a3), none] [] (rset (rset g 89 4 a1 a2) 91 4 a1 a3) _ _
  refine ev_runs 2 (18, [some (.inr (.inr 85)), some (.inl a1), some (.inl a2), some (.inl a3), none], [], (rset (rset g 89 4 a1 a2) 91 4 a1 a3)) (21, [some (.inr (.inr 85)), some (.inl a1), some (.inl a2), some (.inl a3), some (.inl 0)], [], (rset (rset g 89 4 a1 a2) 91 4 a1 a3)) rfl ?_
  refine ev_le (L := [some (.inr (.inr 85)), some (.inl a1), none, some (.inl a3), some (.inl 0)]) (by simp [Lle]) ?_
  refine ev_Sh_renew_l21 a1 a3 _ ?_ fu 0 (rset (rset g 89 4 a1 a2) 91 4 a1 a3) g' h
  · intro g1 g' h
    cases h
    exact er rfl
set_option maxRecDepth 100000 in
set_option maxHeartbeats 4000000 in
theorem ev_Op_sheet (a1 a2 a3 : Int) (g : Gx) (r : Int) (g' : Gx) (h : Op_sheet a1 a2 a3 g = some (r, g')) : Ev 230 0 [some (.inr (.inr 0)), some (.inl a1), some (.inl a2), some (.inl a3)] [] g (some (.inl r)) g' := by
  rw [Op_sheet] at h
  refine ev_runs 1 (0, [some (.inr (.inr 0)), some (.inl a1), some (.inl a2), some (.inl a3)], [], g) (1, [some (.inr (.inr 0)), some (.inl a1), some (.inl a2), some (.inl a3)], [.inl a1], g) rfl ?_
  refine ec 196 4 [.inl a1] [] rfl (ev_Op_isSheet a1 g _ rfl) ?_
  show Ev 230 4 [some (.inr (.inr 0)), some (.inl a1), some (.inl a2), some (.inl a3)] [.inl (Op_isSheet a1)] g _ _
  by_cases hc : (Op_isSheet a1) = 0
  · rw [if_pos hc] at h
    refine es (20, [some (.inr (.inr 0)), some (.inl a1), some (.inl a2), some (.inl a3)], [], g) (congrArg some (if_pos hc)) ?_
    refine ev_runs 1 (20, [some (.inr (.inr 0)), some (.inl a1), some (.inl a2), some (.inl a3)], [], g) (22, [some (.inr (.inr 0)), some (.inl a1), some (.inl a2), some (.inl a3)], [.inl (-2)], g) rfl ?_
    cases h
    exact er rfl
  · rw [if_neg hc] at h
    refine es (7, [some (.inr (.inr 0)), some (.inl a1), some (.inl a2), some (.inl a3)], [], g) (congrArg some (if_neg hc)) ?_
    refine ev_runs 1 (7, [some (.inr (.inr 0)), some (.inl a1), some (.inl a2), some (.inl a3)], [], g) (8, [some (.inr (.inr 0)), some (.inl a1), some (.inl a2), some (.inl a3)], [.inl a2], g) rfl ?_
    refine ec 228 11 [.inl a2] [] rfl (ev_Op_isForm a2 g _ rfl) ?_
    show Ev 230 11 [some (.inr (.inr 0)), some (.inl a1), some (.inl a2), some (.inl a3)] [.inl (Op_isForm a2)] g _ _
    by_cases hc : (Op_isForm a2) = 0
    · rw [if_pos hc] at h
      refine es (20, [some (.inr (.inr 0)), some (.inl a1), some (.inl a2), some (.inl a3)], [], g) (congrArg some (if_pos hc)) ?_
      refine ev_runs 1 (20, [some (.inr (.inr 0)), some (.inl a1), some (.inl a2), some (.inl a3)], [], g) (22, [some (.inr (.inr 0)), some (.inl a1), some (.inl a2), some (.inl a3)], [.inl (-2)], g) rfl ?_
      cases h
      exact er rfl
    · rw [if_neg hc] at h
      refine es (14, [some (.inr (.inr 0)), some (.inl a1), some (.inl a2), some (.inl a3)], [], g) (congrArg some (if_neg hc)) ?_
      refine ev_runs 2 (14, [some (.inr (.inr 0)), some (.inl a1), some (.inl a2), some (.inl a3)], [], g) (17, [some (.inr (.inr 0)), some (.inl a1), some (.inl a2), some (.inl a3)], [.inl 60, .inl a3], g) rfl ?_
      by_cases hc : a3 ≤ 60
      · rw [if_pos hc] at h
        refine es (23, [some (.inr (.inr 0)), some (.inl a1), some (.inl a2), some (.inl a3)], [], g) (congrArg some (if_pos hc)) ?_
        refine ev_runs 1 (23, [some (.inr (.inr 0)), some (.inl a1), some (.inl a2), some (.inl a3)], [], g) (24, [some (.inr (.inr 0)), some (.inl a1), some (.inl a2), some (.inl a3)], [.inl a3], g) rfl ?_
        by_cases hc : 0 ≤ a3
        · rw [if_pos hc] at h
          refine es (33, [some (.inr (.inr 0)), some (.inl a1), some (.inl a2), some (.inl a3)], [], g) (congrArg some (if_pos hc)) ?_
          refine ev_runs 5 (33, [some (.inr (.inr 0)), some (.inl a1), some (.inl a2), some (.inl a3)], [], g) (40, [some (.inr (.inr 0)), some (.inl a1), some (.inl a2), some (.inl a3)], [.inl a3, .inl a2, .inl a1, .inr (.inr 85)], g) rfl ?_
          obtain ⟨g1, hq, h⟩ := Option.bind_eq_some_iff.mp h
          refine ec 229 43 [.inr (.inr 85), .inl a1, .inl a2, .inl a3] [] rfl (ev_Sh_renew a1 a2 a3 g g1 hq) ?_
          show Ev 230 43 [some (.inr (.inr 0)), some (.inl a1), some (.inl a2), some (.inl a3)] [] g1 _ _
          refine ev_runs 1 (43, [some (.inr (.inr 0)), some (.inl a1), some (.inl a2), some (.inl a3)], [], g1) (44, [some (.inr (.inr 0)), some (.inl a1), some (.inl a2), some (.inl a3)], [.inl a3], g1) rfl ?_
          cases h
          exact er rfl
        · rw [if_neg hc] at h
          refine es (27, [some (.inr (.inr 0)), some (.inl a1), some (.inl a2), some (.inl a3)], [], g) (congrArg some (if_neg hc)) ?_
          refine ev_runs 2 (27, [some (.inr (.inr 0)), some (.inl a1), some (.inl a2), some (.inl a3)], [], g) (29, [some (.inr (.inr 0)), some (.inl a1), some (.inl a2), some (.inl a3)], [.inl 5, .inr (.inr 0)], g) rfl ?_
          obtain ⟨q2, hq, h⟩ := lett_inv h
          refine ec 198 32 [.inr (.inr 0), .inl 5] [] rfl (ev_Op_found 5 g q2.1 q2.2 hq.symm) ?_
          show Ev 230 32 [some (.inr (.inr 0)), some (.inl a1), some (.inl a2), some (.inl a3)] [.inl q2.1] q2.2 _ _
          cases h
          exact er rfl
      · rw [if_neg hc] at h
        refine es (20, [some (.inr (.inr 0)), some (.inl a1), some (.inl a2), some (.inl a3)], [], g) (congrArg some (if_neg hc)) ?_
        refine ev_runs 1 (20, [some (.inr (.inr 0)), some (.inl a1), some (.inl a2), some (.inl a3)], [], g) (22, [some (.inr (.inr 0)), some (.inl a1), some (.inl a2), some (.inl a3)], [.inl (-2)], g) rfl ?_
        cases h
        exact er rfl
set_option maxRecDepth 100000 in
set_option maxHeartbeats 4000000 in
theorem ev_Md_sheet_l55 (c1 : Int) (c3 : Int) (K55_80 : Gx → Option (Int × Gx)) (hK55_80 : ∀ (g : Gx) (r : Int) (g' : Gx), K55_80 g = some (r, g') → Ev 231 80 [none, none, none, some (.inl c3), none] [] g (some (.inl r)) g') : ∀ (n55 : Nat) (v4 : Int) (g : Gx) (r : Int) (g' : Gx), Md_sheet_l55 c1 c3 K55_80 n55 v4 g = some (r, g') → Ev 231 55 [some (.inr (.inr 92)), some (.inl c1), none, some (.inl c3), some (.inl v4)] [] g (some (.inl r)) g' := by
  intro n55
  induction n55 with
  | zero => intro v4 g r g' h; cases h
  | succ n55 ih55 =>
    intro v4 g r g' h
    rw [Md_sheet_l55] at h
    refine ev_runs 2 (55, [some (.inr (.inr 92)), some (.inl c1), none, some (.inl c3), some (.inl v4)], [], g) (58, [some (.inr (.inr 92)), some (.inl c1), none, some (.inl c3), some (.inl v4)], [.inl c3, .inl v4], g) rfl ?_
    by_cases hc : c3 ≤ v4
    · rw [if_pos hc] at h
      refine es (80, [some (.inr (.inr 92)), some (.inl c1), none, some (.inl c3), some (.inl v4)], [], g) (congrArg some (if_pos hc)) ?_
      exact ev_le (L := [none, none, none, some (.inl c3), none]) (by simp [Lle]) (hK55_80 g r g' h)
    · rw [if_neg hc] at h
      refine es (61, [some (.inr (.inr 92)), some (.inl c1), none, some (.inl c3), some (.inl v4)], [], g) (congrArg some (if_neg hc)) ?_
      refine ev_runs 8 (61, [some (.inr (.inr 92)), some (.inl c1), none, some (.inl c3), some (.inl v4)], [], g) (73, [some (.inr (.inr 92)), some (.inl c1), none, some (.inl c3), some (.inl v4)], [.inl 0, .inl (wr ((wr (60 * c1)) + v4)), .inr (.inr 95)], g) rfl ?_
      by_cases hc : 0 ≤ (wr ((wr (60 * c1)) + v4)) ∧ (wr ((wr (60 * c1)) + v4)) < 240
      · rw [if_pos hc] at h
        refine es (74, [some (.inr (.inr 92)), some (.inl c1), none, some (.inl c3), some (.inl v4)], [], (gset g 95 ((wr ((wr (60 * c1)) + v4)).toNat) 0)) (if_pos hc) ?_
        refine ev_runs 2 (74, [some (.inr (.inr 92)), some (.inl c1), none, some (.inl c3), some (.inl v4)], [], (gset g 95 ((wr ((wr (60 * c1)) + v4)).toNat) 0)) (55, [some (.inr (.inr 92)), some (.inl c1), none, some (.inl c3), some (.inl (wr (v4 + 1)))], [], (gset g 95 ((wr ((wr (60 * c1)) + v4)).toNat) 0)) rfl ?_
        exact ev_le (L := [some (.inr (.inr 92)), some (.inl c1), none, some (.inl c3), some (.inl (wr (v4 + 1)))]) (by simp [Lle]) (ih55 (wr (v4 + 1)) (gset g 95 ((wr ((wr (60 * c1)) + v4)).toNat) 0) r g' h)
      · rw [if_neg hc] at h; cases h
set_option maxRecDepth 100000 in
set_option maxHeartbeats 4000000 in
theorem ev_Md_sheet (a1 a2 a3 : Int) (g : Gx) (r : Int) (g' : Gx) (h : Md_sheet a1 a2 a3 g = some (r, g')) : Ev 231 0 [some (.inr (.inr 92)), some (.inl a1), some (.inl a2), some (.inl a3), none] [] g (some (.inl r)) g' := by
  rw [Md_sheet] at h
  refine ev_runs 1 (0, [some (.inr (.inr 92)), some (.inl a1), some (.inl a2), some (.inl a3), none], [], g) (1, [some (.inr (.inr 92)), some (.inl a1), some (.inl a2), some (.inl a3), none], [.inl a1], g) rfl ?_
  refine ec 204 4 [.inl a1] [] rfl (ev_Md_isSheet a1 g _ rfl) ?_
  show Ev 231 4 [some (.inr (.inr 92)), some (.inl a1), some (.inl a2), some (.inl a3), none] [.inl (Md_isSheet a1)] g _ _
  by_cases hc : (Md_isSheet a1) = 0
  · rw [if_pos hc] at h
    refine es (25, [some (.inr (.inr 92)), some (.inl a1), some (.inl a2), some (.inl a3), none], [], g) (congrArg some (if_pos hc)) ?_
    refine ev_runs 1 (25, [some (.inr (.inr 92)), some (.inl a1), some (.inl a2), some (.inl a3), none], [], g) (27, [some (.inr (.inr 92)), some (.inl a1), some (.inl a2), some (.inl a3), none], [.inl (-2)], g) rfl ?_
    cases h
    exact er rfl
  · rw [if_neg hc] at h
    refine es (7, [some (.inr (.inr 92)), some (.inl a1), some (.inl a2), some (.inl a3), none], [], g) (congrArg some (if_neg hc)) ?_
    refine ev_runs 4 (7, [some (.inr (.inr 92)), some (.inl a1), some (.inl a2), some (.inl a3), none], [], g) (13, [some (.inr (.inr 92)), some (.inl a1), some (.inl a2), some (.inl a3), none], [.inr (.inl 2), .inr (.inl 0), .inr (.inl a2)], g) rfl ?_
    refine ec 4 16 [.inr (.inl a2), .inr (.inl 0), .inr (.inl 2)] [] rfl (ev_Md_in a2 0 2 g _ rfl) ?_
    show Ev 231 16 [some (.inr (.inr 92)), some (.inl a1), some (.inl a2), some (.inl a3), none] [.inl (Md_in a2 0 2)] g _ _
    by_cases hc : (Md_in a2 0 2) = 0
    · rw [if_pos hc] at h
      refine es (25, [some (.inr (.inr 92)), some (.inl a1), some (.inl a2), some (.inl a3), none], [], g) (congrArg some (if_pos hc)) ?_
      refine ev_runs 1 (25, [some (.inr (.inr 92)), some (.inl a1), some (.inl a2), some (.inl a3), none], [], g) (27, [some (.inr (.inr 92)), some (.inl a1), some (.inl a2), some (.inl a3), none], [.inl (-2)], g) rfl ?_
      cases h
      exact er rfl
    · rw [if_neg hc] at h
      refine es (19, [some (.inr (.inr 92)), some (.inl a1), some (.inl a2), some (.inl a3), none], [], g) (congrArg some (if_neg hc)) ?_
      refine ev_runs 2 (19, [some (.inr (.inr 92)), some (.inl a1), some (.inl a2), some (.inl a3), none], [], g) (22, [some (.inr (.inr 92)), some (.inl a1), some (.inl a2), some (.inl a3), none], [.inl 60, .inl a3], g) rfl ?_
      by_cases hc : a3 ≤ 60
      · rw [if_pos hc] at h
        refine es (28, [some (.inr (.inr 92)), some (.inl a1), some (.inl a2), some (.inl a3), none], [], g) (congrArg some (if_pos hc)) ?_
        refine ev_runs 1 (28, [some (.inr (.inr 92)), some (.inl a1), some (.inl a2), some (.inl a3), none], [], g) (29, [some (.inr (.inr 92)), some (.inl a1), some (.inl a2), some (.inl a3), none], [.inl a3], g) rfl ?_
        by_cases hc : 0 ≤ a3
        · rw [if_pos hc] at h
          refine es (38, [some (.inr (.inr 92)), some (.inl a1), some (.inl a2), some (.inl a3), none], [], g) (congrArg some (if_pos hc)) ?_
          refine ev_runs 4 (38, [some (.inr (.inr 92)), some (.inl a1), some (.inl a2), some (.inl a3), none], [], g) (44, [some (.inr (.inr 92)), some (.inl a1), some (.inl a2), some (.inl a3), none], [.inl a2, .inl a1, .inr (.inr 93)], g) rfl ?_
          by_cases hc : 0 ≤ a1 ∧ a1 < 4
          · rw [if_pos hc] at h
            refine es (45, [some (.inr (.inr 92)), some (.inl a1), some (.inl a2), some (.inl a3), none], [], (gset g 93 a1.toNat a2)) (if_pos hc) ?_
            refine ev_runs 4 (45, [some (.inr (.inr 92)), some (.inl a1), some (.inl a2), some (.inl a3), none], [], (gset g 93 a1.toNat a2)) (51, [some (.inr (.inr 92)), some (.inl a1), some (.inl a2), some (.inl a3), none], [.inl a3, .inl a1, .inr (.inr 94)], (gset g 93 a1.toNat a2)) rfl ?_
            by_cases hc : 0 ≤ a1 ∧ a1 < 4
            · rw [if_pos hc] at h
              refine es (52, [some (.inr (.inr 92)), some (.inl a1), some (.inl a2), some (.inl a3), none], [], (gset (gset g 93 a1.toNat a2) 94 a1.toNat a3)) (if_pos hc) ?_
              refine ev_runs 2 (52, [some (.inr (.inr 92)), some (.inl a1), some (.inl a2), some (.inl a3), none], [], (gset (gset g 93 a1.toNat a2) 94 a1.toNat a3)) (55, [some (.inr (.inr 92)), some (.inl a1), some (.inl a2), some (.inl a3), some (.inl 0)], [], (gset (gset g 93 a1.toNat a2) 94 a1.toNat a3)) rfl ?_
              refine ev_le (L := [some (.inr (.inr 92)), some (.inl a1), none, some (.inl a3), some (.inl 0)]) (by simp [Lle]) ?_
              refine ev_Md_sheet_l55 a1 a3 _ ?_ fu 0 (gset (gset g 93 a1.toNat a2) 94 a1.toNat a3) r g' h
              · intro g1 r g' h
                refine ev_runs 1 (80, [none, none, none, some (.inl a3), none], [], g1) (81, [none, none, none, some (.inl a3), none], [.inl a3], g1) rfl ?_
                cases h
                exact er rfl
            · rw [if_neg hc] at h; cases h
          · rw [if_neg hc] at h; cases h
        · rw [if_neg hc] at h
          refine es (32, [some (.inr (.inr 92)), some (.inl a1), some (.inl a2), some (.inl a3), none], [], g) (congrArg some (if_neg hc)) ?_
          refine ev_runs 2 (32, [some (.inr (.inr 92)), some (.inl a1), some (.inl a2), some (.inl a3), none], [], g) (34, [some (.inr (.inr 92)), some (.inl a1), some (.inl a2), some (.inl a3), none], [.inl 5, .inr (.inr 92)], g) rfl ?_
          obtain ⟨q2, hq, h⟩ := lett_inv h
          refine ec 205 37 [.inr (.inr 92), .inl 5] [] rfl (ev_Md_met 5 g q2.1 q2.2 hq.symm) ?_
          show Ev 231 37 [some (.inr (.inr 92)), some (.inl a1), some (.inl a2), some (.inl a3), none] [.inl q2.1] q2.2 _ _
          cases h
          exact er rfl
      · rw [if_neg hc] at h
        refine es (25, [some (.inr (.inr 92)), some (.inl a1), some (.inl a2), some (.inl a3), none], [], g) (congrArg some (if_neg hc)) ?_
        refine ev_runs 1 (25, [some (.inr (.inr 92)), some (.inl a1), some (.inl a2), some (.inl a3), none], [], g) (27, [some (.inr (.inr 92)), some (.inl a1), some (.inl a2), some (.inl a3), none], [.inl (-2)], g) rfl ?_
        cases h
        exact er rfl
set_option maxRecDepth 100000 in
set_option maxHeartbeats 4000000 in
theorem ev_Sh_drop (a1 : Int) (g : Gx) (r : Int) (g' : Gx) (h : Sh_drop a1 g = (r, g')) : Ev 232 0 [some (.inr (.inr 85)), some (.inl a1), none] [] g (some (.inl r)) g' := by
  rw [Sh_drop] at h
  refine ev_runs 3 (0, [some (.inr (.inr 85)), some (.inl a1), none], [], g) (5, [some (.inr (.inr 85)), some (.inl a1), none], [.inl a1, .inr (.inr 90)], g) rfl ?_
  refine ec 13 8 [.inr (.inr 90), .inl a1] [] rfl (ev_Row_at rfl rfl _ _) ?_
  show Ev 232 8 [some (.inr (.inr 85)), some (.inl a1), none] [.inl (rat g 91 4 a1)] g _ _
  refine ev_runs 5 (8, [some (.inr (.inr 85)), some (.inl a1), none], [.inl (rat g 91 4 a1)], g) (15, [some (.inr (.inr 85)), some (.inl a1), some (.inl (rat g 91 4 a1))], [.inl (-1), .inl a1, .inr (.inr 88)], g) rfl ?_
  refine ec 0 18 [.inr (.inr 88), .inl a1, .inl (-1)] [] rfl (ev_Row_set rfl rfl _ _ _) ?_
  show Ev 232 18 [some (.inr (.inr 85)), some (.inl a1), some (.inl (rat g 91 4 a1))] [] (rset g 89 4 a1 (-1)) _ _
  refine ev_runs 4 (18, [some (.inr (.inr 85)), some (.inl a1), some (.inl (rat g 91 4 a1))], [], (rset g 89 4 a1 (-1))) (24, [some (.inr (.inr 85)), some (.inl a1), some (.inl (rat g 91 4 a1))], [.inl 0, .inl a1, .inr (.inr 90)], (rset g 89 4 a1 (-1))) rfl ?_
  refine ec 0 27 [.inr (.inr 90), .inl a1, .inl 0] [] rfl (ev_Row_set rfl rfl _ _ _) ?_
  show Ev 232 27 [some (.inr (.inr 85)), some (.inl a1), some (.inl (rat g 91 4 a1))] [] (rset (rset g 89 4 a1 (-1)) 91 4 a1 0) _ _
  refine ev_runs 1 (27, [some (.inr (.inr 85)), some (.inl a1), some (.inl (rat g 91 4 a1))], [], (rset (rset g 89 4 a1 (-1)) 91 4 a1 0)) (28, [some (.inr (.inr 85)), some (.inl a1), some (.inl (rat g 91 4 a1))], [.inl (rat g 91 4 a1)], (rset (rset g 89 4 a1 (-1)) 91 4 a1 0)) rfl ?_
  cases h
  exact er rfl
set_option maxRecDepth 100000 in
set_option maxHeartbeats 4000000 in
theorem ev_Op_lose (a1 : Int) (g : Gx) (r : Int) (g' : Gx) (h : Op_lose a1 g = (r, g')) : Ev 233 0 [some (.inr (.inr 0)), some (.inl a1)] [] g (some (.inl r)) g' := by
  rw [Op_lose] at h
  refine ev_runs 1 (0, [some (.inr (.inr 0)), some (.inl a1)], [], g) (1, [some (.inr (.inr 0)), some (.inl a1)], [.inl a1], g) rfl ?_
  refine ec 196 4 [.inl a1] [] rfl (ev_Op_isSheet a1 g _ rfl) ?_
  show Ev 233 4 [some (.inr (.inr 0)), some (.inl a1)] [.inl (Op_isSheet a1)] g _ _
  by_cases hc : ¬ (Op_isSheet a1) = 0
  · rw [if_pos hc] at h
    refine es (10, [some (.inr (.inr 0)), some (.inl a1)], [], g) (congrArg some (if_pos hc)) ?_
    refine ev_runs 3 (10, [some (.inr (.inr 0)), some (.inl a1)], [], g) (15, [some (.inr (.inr 0)), some (.inl a1)], [.inl a1, .inr (.inr 85)], g) rfl ?_
    refine ec 197 18 [.inr (.inr 85), .inl a1] [] rfl (ev_Sh_isLost a1 g _ rfl) ?_
    show Ev 233 18 [some (.inr (.inr 0)), some (.inl a1)] [.inl (Sh_isLost a1 g)] g _ _
    by_cases hc : (Sh_isLost a1 g) = 0
    · rw [if_pos hc] at h
      refine es (27, [some (.inr (.inr 0)), some (.inl a1)], [], g) (congrArg some (if_pos hc)) ?_
      refine ev_runs 3 (27, [some (.inr (.inr 0)), some (.inl a1)], [], g) (32, [some (.inr (.inr 0)), some (.inl a1)], [.inl a1, .inr (.inr 85)], g) rfl ?_
      obtain ⟨q1, hq, h⟩ := lett_inv h
      refine ec 232 35 [.inr (.inr 85), .inl a1] [] rfl (ev_Sh_drop a1 g q1.1 q1.2 hq.symm) ?_
      show Ev 233 35 [some (.inr (.inr 0)), some (.inl a1)] [.inl q1.1] q1.2 _ _
      cases h
      exact er rfl
    · rw [if_neg hc] at h
      refine es (21, [some (.inr (.inr 0)), some (.inl a1)], [], g) (congrArg some (if_neg hc)) ?_
      refine ev_runs 2 (21, [some (.inr (.inr 0)), some (.inl a1)], [], g) (23, [some (.inr (.inr 0)), some (.inl a1)], [.inl 1, .inr (.inr 0)], g) rfl ?_
      obtain ⟨q2, hq, h⟩ := lett_inv h
      refine ec 198 26 [.inr (.inr 0), .inl 1] [] rfl (ev_Op_found 1 g q2.1 q2.2 hq.symm) ?_
      show Ev 233 26 [some (.inr (.inr 0)), some (.inl a1)] [.inl q2.1] q2.2 _ _
      cases h
      exact er rfl
  · rw [if_neg hc] at h
    refine es (7, [some (.inr (.inr 0)), some (.inl a1)], [], g) (congrArg some (if_neg hc)) ?_
    refine ev_runs 1 (7, [some (.inr (.inr 0)), some (.inl a1)], [], g) (9, [some (.inr (.inr 0)), some (.inl a1)], [.inl (-2)], g) rfl ?_
    cases h
    exact er rfl
set_option maxRecDepth 100000 in
set_option maxHeartbeats 4000000 in
theorem ev_Md_lose (a1 : Int) (g : Gx) (r : Int) (g' : Gx) (h : Md_lose a1 g = some (r, g')) : Ev 234 0 [some (.inr (.inr 92)), some (.inl a1)] [] g (some (.inl r)) g' := by
  rw [Md_lose] at h
  refine ev_runs 1 (0, [some (.inr (.inr 92)), some (.inl a1)], [], g) (1, [some (.inr (.inr 92)), some (.inl a1)], [.inl a1], g) rfl ?_
  refine ec 204 4 [.inl a1] [] rfl (ev_Md_isSheet a1 g _ rfl) ?_
  show Ev 234 4 [some (.inr (.inr 92)), some (.inl a1)] [.inl (Md_isSheet a1)] g _ _
  by_cases hc : ¬ (Md_isSheet a1) = 0
  · rw [if_pos hc] at h
    refine es (10, [some (.inr (.inr 92)), some (.inl a1)], [], g) (congrArg some (if_pos hc)) ?_
    refine ev_runs 3 (10, [some (.inr (.inr 92)), some (.inl a1)], [], g) (15, [some (.inr (.inr 92)), some (.inl a1)], [.inl a1, .inr (.inr 93)], g) rfl ?_
    by_cases hc : 0 ≤ a1 ∧ a1 < 4
    · rw [if_pos hc] at h
      refine es (16, [some (.inr (.inr 92)), some (.inl a1)], [.inl (g 93 a1.toNat)], g) (if_pos hc) ?_
      by_cases hc : 0 ≤ (g 93 a1.toNat)
      · rw [if_pos hc] at h
        refine es (25, [some (.inr (.inr 92)), some (.inl a1)], [], g) (congrArg some (if_pos hc)) ?_
        refine ev_runs 4 (25, [some (.inr (.inr 92)), some (.inl a1)], [], g) (31, [some (.inr (.inr 92)), some (.inl a1)], [.inl (-1), .inl a1, .inr (.inr 93)], g) rfl ?_
        by_cases hc : 0 ≤ a1 ∧ a1 < 4
        · rw [if_pos hc] at h
          refine es (32, [some (.inr (.inr 92)), some (.inl a1)], [], (gset g 93 a1.toNat (-1))) (if_pos hc) ?_
          refine ev_runs 3 (32, [some (.inr (.inr 92)), some (.inl a1)], [], (gset g 93 a1.toNat (-1))) (37, [some (.inr (.inr 92)), some (.inl a1)], [.inl a1, .inr (.inr 94)], (gset g 93 a1.toNat (-1))) rfl ?_
          by_cases hc : 0 ≤ a1 ∧ a1 < 4
          · rw [if_pos hc] at h
            refine es (38, [some (.inr (.inr 92)), some (.inl a1)], [.inl (g 94 a1.toNat)], (gset g 93 a1.toNat (-1))) (if_pos hc) ?_
            cases h
            exact er rfl
          · rw [if_neg hc] at h; cases h
        · rw [if_neg hc] at h; cases h
      · rw [if_neg hc] at h
        refine es (19, [some (.inr (.inr 92)), some (.inl a1)], [], g) (congrArg some (if_neg hc)) ?_
        refine ev_runs 2 (19, [some (.inr (.inr 92)), some (.inl a1)], [], g) (21, [some (.inr (.inr 92)), some (.inl a1)], [.inl 1, .inr (.inr 92)], g) rfl ?_
        obtain ⟨q1, hq, h⟩ := lett_inv h
        refine ec 205 24 [.inr (.inr 92), .inl 1] [] rfl (ev_Md_met 1 g q1.1 q1.2 hq.symm) ?_
        show Ev 234 24 [some (.inr (.inr 92)), some (.inl a1)] [.inl q1.1] q1.2 _ _
        cases h
        exact er rfl
    · rw [if_neg hc] at h; cases h
  · rw [if_neg hc] at h
    refine es (7, [some (.inr (.inr 92)), some (.inl a1)], [], g) (congrArg some (if_neg hc)) ?_
    refine ev_runs 1 (7, [some (.inr (.inr 92)), some (.inl a1)], [], g) (9, [some (.inr (.inr 92)), some (.inl a1)], [.inl (-2)], g) rfl ?_
    cases h
    exact er rfl
set_option maxRecDepth 100000 in
set_option maxHeartbeats 4000000 in
theorem ev_Sh_hasItems (a1 a2 a3 : Int) (g : Gx) (r : Int) (h : Sh_hasItems a1 a2 a3 g = r) : Ev 235 0 [some (.inr (.inr 85)), some (.inl a1), some (.inl a2), some (.inl a3)] [] g (some (.inl r)) g := by
  rw [Sh_hasItems] at h
  refine ev_runs 1 (0, [some (.inr (.inr 85)), some (.inl a1), some (.inl a2), some (.inl a3)], [], g) (1, [some (.inr (.inr 85)), some (.inl a1), some (.inl a2), some (.inl a3)], [.inl a2], g) rfl ?_
  by_cases hc : a2 < 0
  · rw [if_pos hc] at h
    refine es (32, [some (.inr (.inr 85)), some (.inl a1), some (.inl a2), some (.inl a3)], [], g) (congrArg some (if_pos hc)) ?_
    refine ev_runs 1 (32, [some (.inr (.inr 85)), some (.inl a1), some (.inl a2), some (.inl a3)], [], g) (33, [some (.inr (.inr 85)), some (.inl a1), some (.inl a2), some (.inl a3)], [.inl 0], g) rfl ?_
    subst h
    exact er rfl
  · rw [if_neg hc] at h
    refine es (4, [some (.inr (.inr 85)), some (.inl a1), some (.inl a2), some (.inl a3)], [], g) (congrArg some (if_neg hc)) ?_
    refine ev_runs 1 (4, [some (.inr (.inr 85)), some (.inl a1), some (.inl a2), some (.inl a3)], [], g) (5, [some (.inr (.inr 85)), some (.inl a1), some (.inl a2), some (.inl a3)], [.inl a3], g) rfl ?_
    by_cases hc : a3 < 0
    · rw [if_pos hc] at h
      refine es (32, [some (.inr (.inr 85)), some (.inl a1), some (.inl a2), some (.inl a3)], [], g) (congrArg some (if_pos hc)) ?_
      refine ev_runs 1 (32, [some (.inr (.inr 85)), some (.inl a1), some (.inl a2), some (.inl a3)], [], g) (33, [some (.inr (.inr 85)), some (.inl a1), some (.inl a2), some (.inl a3)], [.inl 0], g) rfl ?_
      subst h
      exact er rfl
    · rw [if_neg hc] at h
      refine es (8, [some (.inr (.inr 85)), some (.inl a1), some (.inl a2), some (.inl a3)], [], g) (congrArg some (if_neg hc)) ?_
      refine ev_runs 3 (8, [some (.inr (.inr 85)), some (.inl a1), some (.inl a2), some (.inl a3)], [], g) (11, [some (.inr (.inr 85)), some (.inl a1), some (.inl a2), some (.inl a3)], [.inl a1, .inr (.inr 85), .inl a2], g) rfl ?_
      refine ec 199 14 [.inr (.inr 85), .inl a1] [.inl a2] rfl (ev_Sh_size a1 g _ rfl) ?_
      show Ev 235 14 [some (.inr (.inr 85)), some (.inl a1), some (.inl a2), some (.inl a3)] [.inl (Sh_size a1 g), .inl a2] g _ _
      by_cases hc : (Sh_size a1 g) < a2
      · rw [if_pos hc] at h
        refine es (32, [some (.inr (.inr 85)), some (.inl a1), some (.inl a2), some (.inl a3)], [], g) (congrArg some (if_pos hc)) ?_
        refine ev_runs 1 (32, [some (.inr (.inr 85)), some (.inl a1), some (.inl a2), some (.inl a3)], [], g) (33, [some (.inr (.inr 85)), some (.inl a1), some (.inl a2), some (.inl a3)], [.inl 0], g) rfl ?_
        subst h
        exact er rfl
      · rw [if_neg hc] at h
        refine es (17, [some (.inr (.inr 85)), some (.inl a1), some (.inl a2), some (.inl a3)], [], g) (congrArg some (if_neg hc)) ?_
        refine ev_runs 3 (17, [some (.inr (.inr 85)), some (.inl a1), some (.inl a2), some (.inl a3)], [], g) (20, [some (.inr (.inr 85)), some (.inl a1), some (.inl a2), some (.inl a3)], [.inl a1, .inr (.inr 85), .inl a3], g) rfl ?_
        refine ec 199 23 [.inr (.inr 85), .inl a1] [.inl a3] rfl (ev_Sh_size a1 g _ rfl) ?_
        show Ev 235 23 [some (.inr (.inr 85)), some (.inl a1), some (.inl a2), some (.inl a3)] [.inl (Sh_size a1 g), .inl a3] g _ _
        refine ev_runs 2 (23, [some (.inr (.inr 85)), some (.inl a1), some (.inl a2), some (.inl a3)], [.inl (Sh_size a1 g), .inl a3], g) (25, [some (.inr (.inr 85)), some (.inl a1), some (.inl a2), some (.inl a3)], [.inl (wr ((Sh_size a1 g) - a2)), .inl a3], g) rfl ?_
        by_cases hc : (wr ((Sh_size a1 g) - a2)) < a3
        · rw [if_pos hc] at h
          refine es (32, [some (.inr (.inr 85)), some (.inl a1), some (.inl a2), some (.inl a3)], [], g) (congrArg some (if_pos hc)) ?_
          refine ev_runs 1 (32, [some (.inr (.inr 85)), some (.inl a1), some (.inl a2), some (.inl a3)], [], g) (33, [some (.inr (.inr 85)), some (.inl a1), some (.inl a2), some (.inl a3)], [.inl 0], g) rfl ?_
          subst h
          exact er rfl
        · rw [if_neg hc] at h
          refine es (28, [some (.inr (.inr 85)), some (.inl a1), some (.inl a2), some (.inl a3)], [], g) (congrArg some (if_neg hc)) ?_
          refine ev_runs 2 (28, [some (.inr (.inr 85)), some (.inl a1), some (.inl a2), some (.inl a3)], [], g) (33, [some (.inr (.inr 85)), some (.inl a1), some (.inl a2), some (.inl a3)], [.inl 1], g) rfl ?_
          subst h
          exact er rfl
set_option maxRecDepth 100000 in
set_option maxHeartbeats 4000000 in
theorem ev_Sh_wrongAbout (a1 a2 a3 : Int) (g : Gx) (r : Int) (h : Sh_wrongAbout a1 a2 a3 g = r) : Ev 236 0 [some (.inr (.inr 85)), some (.inl a1), some (.inl a2), some (.inl a3)] [] g (some (.inl r)) g := by
  rw [Sh_wrongAbout] at h
  refine ev_runs 2 (0, [some (.inr (.inr 85)), some (.inl a1), some (.inl a2), some (.inl a3)], [], g) (2, [some (.inr (.inr 85)), some (.inl a1), some (.inl a2), some (.inl a3)], [.inl a1, .inr (.inr 85)], g) rfl ?_
  refine ec 197 5 [.inr (.inr 85), .inl a1] [] rfl (ev_Sh_isLost a1 g _ rfl) ?_
  show Ev 236 5 [some (.inr (.inr 85)), some (.inl a1), some (.inl a2), some (.inl a3)] [.inl (Sh_isLost a1 g)] g _ _
  by_cases hc : (Sh_isLost a1 g) = 0
  · rw [if_pos hc] at h
    refine es (10, [some (.inr (.inr 85)), some (.inl a1), some (.inl a2), some (.inl a3)], [], g) (congrArg some (if_pos hc)) ?_
    refine ev_runs 3 (10, [some (.inr (.inr 85)), some (.inl a1), some (.inl a2), some (.inl a3)], [], g) (15, [some (.inr (.inr 85)), some (.inl a1), some (.inl a2), some (.inl a3)], [.inl a1, .inr (.inr 88)], g) rfl ?_
    refine ec 13 18 [.inr (.inr 88), .inl a1] [] rfl (ev_Row_at rfl rfl _ _) ?_
    show Ev 236 18 [some (.inr (.inr 85)), some (.inl a1), some (.inl a2), some (.inl a3)] [.inl (rat g 89 4 a1)] g _ _
    refine ev_runs 1 (18, [some (.inr (.inr 85)), some (.inl a1), some (.inl a2), some (.inl a3)], [.inl (rat g 89 4 a1)], g) (19, [some (.inr (.inr 85)), some (.inl a1), some (.inl a2), some (.inl a3)], [.inl a2, .inl (rat g 89 4 a1)], g) rfl ?_
    by_cases hc : (rat g 89 4 a1) = a2
    · rw [if_pos hc] at h
      refine es (24, [some (.inr (.inr 85)), some (.inl a1), some (.inl a2), some (.inl a3)], [], g) (congrArg some (if_pos hc)) ?_
      refine ev_runs 4 (24, [some (.inr (.inr 85)), some (.inl a1), some (.inl a2), some (.inl a3)], [], g) (28, [some (.inr (.inr 85)), some (.inl a1), some (.inl a2), some (.inl a3)], [.inl 1, .inl a3, .inl a1, .inr (.inr 85)], g) rfl ?_
      refine ec 235 31 [.inr (.inr 85), .inl a1, .inl a3, .inl 1] [] rfl (ev_Sh_hasItems a1 a3 1 g _ rfl) ?_
      show Ev 236 31 [some (.inr (.inr 85)), some (.inl a1), some (.inl a2), some (.inl a3)] [.inl (Sh_hasItems a1 a3 1 g)] g _ _
      by_cases hc : (Sh_hasItems a1 a3 1 g) = 0
      · rw [if_pos hc] at h
        refine es (38, [some (.inr (.inr 85)), some (.inl a1), some (.inl a2), some (.inl a3)], [], g) (congrArg some (if_pos hc)) ?_
        refine ev_runs 1 (38, [some (.inr (.inr 85)), some (.inl a1), some (.inl a2), some (.inl a3)], [], g) (39, [some (.inr (.inr 85)), some (.inl a1), some (.inl a2), some (.inl a3)], [.inl 2], g) rfl ?_
        subst h
        exact er rfl
      · rw [if_neg hc] at h
        refine es (34, [some (.inr (.inr 85)), some (.inl a1), some (.inl a2), some (.inl a3)], [], g) (congrArg some (if_neg hc)) ?_
        refine ev_runs 2 (34, [some (.inr (.inr 85)), some (.inl a1), some (.inl a2), some (.inl a3)], [], g) (39, [some (.inr (.inr 85)), some (.inl a1), some (.inl a2), some (.inl a3)], [.inl 0], g) rfl ?_
        subst h
        exact er rfl
    · rw [if_neg hc] at h
      refine es (22, [some (.inr (.inr 85)), some (.inl a1), some (.inl a2), some (.inl a3)], [], g) (congrArg some (if_neg hc)) ?_
      refine ev_runs 1 (22, [some (.inr (.inr 85)), some (.inl a1), some (.inl a2), some (.inl a3)], [], g) (23, [some (.inr (.inr 85)), some (.inl a1), some (.inl a2), some (.inl a3)], [.inl 3], g) rfl ?_
      subst h
      exact er rfl
  · rw [if_neg hc] at h
    refine es (8, [some (.inr (.inr 85)), some (.inl a1), some (.inl a2), some (.inl a3)], [], g) (congrArg some (if_neg hc)) ?_
    refine ev_runs 1 (8, [some (.inr (.inr 85)), some (.inl a1), some (.inl a2), some (.inl a3)], [], g) (9, [some (.inr (.inr 85)), some (.inl a1), some (.inl a2), some (.inl a3)], [.inl 1], g) rfl ?_
    subst h
    exact er rfl
set_option maxRecDepth 100000 in
set_option maxHeartbeats 4000000 in
theorem ev_Sh_change (a1 a2 a3 : Int) (g : Gx) (g' : Gx) (h : Sh_change a1 a2 a3 g = g') : Ev 237 0 [some (.inr (.inr 85)), some (.inl a1), some (.inl a2), some (.inl a3), none] [] g none g' := by
  rw [Sh_change] at h
  refine ev_runs 5 (0, [some (.inr (.inr 85)), some (.inl a1), some (.inl a2), some (.inl a3), none], [], g) (8, [some (.inr (.inr 85)), some (.inl a1), some (.inl a2), some (.inl a3), some (.inl a3)], [.inl a1, .inr (.inr 88)], g) rfl ?_
  refine ec 13 11 [.inr (.inr 88), .inl a1] [] rfl (ev_Row_at rfl rfl _ _) ?_
  show Ev 237 11 [some (.inr (.inr 85)), some (.inl a1), some (.inl a2), some (.inl a3), some (.inl a3)] [.inl (rat g 89 4 a1)] g _ _
  by_cases hc : ¬ (rat g 89 4 a1) = 0
  · rw [if_pos hc] at h
    refine es (21, [some (.inr (.inr 85)), some (.inl a1), some (.inl a2), some (.inl a3), some (.inl a3)], [], g) (congrArg some (if_pos hc)) ?_
    refine ev_runs 3 (21, [some (.inr (.inr 85)), some (.inl a1), some (.inl a2), some (.inl a3), some (.inl a3)], [], g) (26, [some (.inr (.inr 85)), some (.inl a1), some (.inl a2), some (.inl a3), some (.inl a3)], [.inl a1, .inr (.inr 88)], g) rfl ?_
    refine ec 13 29 [.inr (.inr 88), .inl a1] [] rfl (ev_Row_at rfl rfl _ _) ?_
    show Ev 237 29 [some (.inr (.inr 85)), some (.inl a1), some (.inl a2), some (.inl a3), some (.inl a3)] [.inl (rat g 89 4 a1)] g _ _
    refine ev_runs 1 (29, [some (.inr (.inr 85)), some (.inl a1), some (.inl a2), some (.inl a3), some (.inl a3)], [.inl (rat g 89 4 a1)], g) (30, [some (.inr (.inr 85)), some (.inl a1), some (.inl a2), some (.inl a3), some (.inl a3)], [.inl 1, .inl (rat g 89 4 a1)], g) rfl ?_
    by_cases hc : ¬ (rat g 89 4 a1) = 1
    · rw [if_pos hc] at h
      refine es (37, [some (.inr (.inr 85)), some (.inl a1), some (.inl a2), some (.inl a3), some (.inl a3)], [], g) (congrArg some (if_pos hc)) ?_
      refine ev_runs 8 (37, [some (.inr (.inr 85)), some (.inl a1), some (.inl a2), some (.inl a3), some (.inl a3)], [], g) (49, [some (.inr (.inr 85)), some (.inl a1), some (.inl a2), some (.inl a3), some (.inl a3)], [.inl a3, .inl (wr ((wr (a1 * 60)) + a2)), .inr (.inr 86)], g) rfl ?_
      refine ec 0 52 [.inr (.inr 86), .inl (wr ((wr (a1 * 60)) + a2)), .inl a3] [] rfl (ev_Row_set rfl rfl _ _ _) ?_
      show Ev 237 52 [some (.inr (.inr 85)), some (.inl a1), some (.inl a2), some (.inl a3), some (.inl a3)] [] (rset g 87 240 (wr ((wr (a1 * 60)) + a2)) a3) _ _
      subst h
      exact er rfl
    · rw [if_neg hc] at h
      refine es (33, [some (.inr (.inr 85)), some (.inl a1), some (.inl a2), some (.inl a3), some (.inl a3)], [], g) (congrArg some (if_neg hc)) ?_
      refine ev_runs 11 (33, [some (.inr (.inr 85)), some (.inl a1), some (.inl a2), some (.inl a3), some (.inl a3)], [], g) (49, [some (.inr (.inr 85)), some (.inl a1), some (.inl a2), some (.inl a3), some (.inl (js a3))], [.inl (js a3), .inl (wr ((wr (a1 * 60)) + a2)), .inr (.inr 86)], g) rfl ?_
      refine ec 0 52 [.inr (.inr 86), .inl (wr ((wr (a1 * 60)) + a2)), .inl (js a3)] [] rfl (ev_Row_set rfl rfl _ _ _) ?_
      show Ev 237 52 [some (.inr (.inr 85)), some (.inl a1), some (.inl a2), some (.inl a3), some (.inl (js a3))] [] (rset g 87 240 (wr ((wr (a1 * 60)) + a2)) (js a3)) _ _
      subst h
      exact er rfl
  · rw [if_neg hc] at h
    refine es (14, [some (.inr (.inr 85)), some (.inl a1), some (.inl a2), some (.inl a3), some (.inl a3)], [], g) (congrArg some (if_neg hc)) ?_
    refine ev_runs 12 (14, [some (.inr (.inr 85)), some (.inl a1), some (.inl a2), some (.inl a3), some (.inl a3)], [], g) (49, [some (.inr (.inr 85)), some (.inl a1), some (.inl a2), some (.inl a3), some (.inl (jb a3))], [.inl (jb a3), .inl (wr ((wr (a1 * 60)) + a2)), .inr (.inr 86)], g) rfl ?_
    refine ec 0 52 [.inr (.inr 86), .inl (wr ((wr (a1 * 60)) + a2)), .inl (jb a3)] [] rfl (ev_Row_set rfl rfl _ _ _) ?_
    show Ev 237 52 [some (.inr (.inr 85)), some (.inl a1), some (.inl a2), some (.inl a3), some (.inl (jb a3))] [] (rset g 87 240 (wr ((wr (a1 * 60)) + a2)) (jb a3)) _ _
    subst h
    exact er rfl
set_option maxRecDepth 100000 in
set_option maxHeartbeats 4000000 in
theorem ev_Op_put (a1 a2 a3 a4 : Int) (g : Gx) (r : Int) (g' : Gx) (h : Op_put a1 a2 a3 a4 g = (r, g')) : Ev 238 0 [some (.inr (.inr 0)), some (.inl a1), some (.inl a2), some (.inl a3), some (.inl a4), none] [] g (some (.inl r)) g' := by
  rw [Op_put] at h
  refine ev_runs 1 (0, [some (.inr (.inr 0)), some (.inl a1), some (.inl a2), some (.inl a3), some (.inl a4), none], [], g) (1, [some (.inr (.inr 0)), some (.inl a1), some (.inl a2), some (.inl a3), some (.inl a4), none], [.inl a1], g) rfl ?_
  refine ec 196 4 [.inl a1] [] rfl (ev_Op_isSheet a1 g _ rfl) ?_
  show Ev 238 4 [some (.inr (.inr 0)), some (.inl a1), some (.inl a2), some (.inl a3), some (.inl a4), none] [.inl (Op_isSheet a1)] g _ _
  by_cases hc : (Op_isSheet a1) = 0
  · rw [if_pos hc] at h
    refine es (14, [some (.inr (.inr 0)), some (.inl a1), some (.inl a2), some (.inl a3), some (.inl a4), none], [], g) (congrArg some (if_pos hc)) ?_
    refine ev_runs 1 (14, [some (.inr (.inr 0)), some (.inl a1), some (.inl a2), some (.inl a3), some (.inl a4), none], [], g) (16, [some (.inr (.inr 0)), some (.inl a1), some (.inl a2), some (.inl a3), some (.inl a4), none], [.inl (-2)], g) rfl ?_
    cases h
    exact er rfl
  · rw [if_neg hc] at h
    refine es (7, [some (.inr (.inr 0)), some (.inl a1), some (.inl a2), some (.inl a3), some (.inl a4), none], [], g) (congrArg some (if_neg hc)) ?_
    refine ev_runs 1 (7, [some (.inr (.inr 0)), some (.inl a1), some (.inl a2), some (.inl a3), some (.inl a4), none], [], g) (8, [some (.inr (.inr 0)), some (.inl a1), some (.inl a2), some (.inl a3), some (.inl a4), none], [.inl a2], g) rfl ?_
    refine ec 228 11 [.inl a2] [] rfl (ev_Op_isForm a2 g _ rfl) ?_
    show Ev 238 11 [some (.inr (.inr 0)), some (.inl a1), some (.inl a2), some (.inl a3), some (.inl a4), none] [.inl (Op_isForm a2)] g _ _
    by_cases hc : ¬ (Op_isForm a2) = 0
    · rw [if_pos hc] at h
      refine es (17, [some (.inr (.inr 0)), some (.inl a1), some (.inl a2), some (.inl a3), some (.inl a4), none], [], g) (congrArg some (if_pos hc)) ?_
      refine ev_runs 5 (17, [some (.inr (.inr 0)), some (.inl a1), some (.inl a2), some (.inl a3), some (.inl a4), none], [], g) (24, [some (.inr (.inr 0)), some (.inl a1), some (.inl a2), some (.inl a3), some (.inl a4), none], [.inl a3, .inl a2, .inl a1, .inr (.inr 85)], g) rfl ?_
      refine ec 236 27 [.inr (.inr 85), .inl a1, .inl a2, .inl a3] [] rfl (ev_Sh_wrongAbout a1 a2 a3 g _ rfl) ?_
      show Ev 238 27 [some (.inr (.inr 0)), some (.inl a1), some (.inl a2), some (.inl a3), some (.inl a4), none] [.inl (Sh_wrongAbout a1 a2 a3 g)] g _ _
      refine ev_runs 2 (27, [some (.inr (.inr 0)), some (.inl a1), some (.inl a2), some (.inl a3), some (.inl a4), none], [.inl (Sh_wrongAbout a1 a2 a3 g)], g) (31, [some (.inr (.inr 0)), some (.inl a1), some (.inl a2), some (.inl a3), some (.inl a4), some (.inl (Sh_wrongAbout a1 a2 a3 g))], [.inl (Sh_wrongAbout a1 a2 a3 g)], g) rfl ?_
      by_cases hc : (Sh_wrongAbout a1 a2 a3 g) = 0
      · rw [if_pos hc] at h
        refine es (41, [some (.inr (.inr 0)), some (.inl a1), some (.inl a2), some (.inl a3), some (.inl a4), some (.inl (Sh_wrongAbout a1 a2 a3 g))], [], g) (congrArg some (if_pos hc)) ?_
        refine ev_runs 5 (41, [some (.inr (.inr 0)), some (.inl a1), some (.inl a2), some (.inl a3), some (.inl a4), some (.inl (Sh_wrongAbout a1 a2 a3 g))], [], g) (49, [some (.inr (.inr 0)), some (.inl a1), some (.inl a2), some (.inl a3), some (.inl a4), some (.inl (Sh_wrongAbout a1 a2 a3 g))], [.inl a4, .inl a3, .inl a1, .inr (.inr 85)], g) rfl ?_
        obtain ⟨g1, hq, h⟩ := lett_inv h
        refine ec 237 52 [.inr (.inr 85), .inl a1, .inl a3, .inl a4] [] rfl (ev_Sh_change a1 a3 a4 g g1 hq.symm) ?_
        show Ev 238 52 [some (.inr (.inr 0)), some (.inl a1), some (.inl a2), some (.inl a3), some (.inl a4), some (.inl (Sh_wrongAbout a1 a2 a3 g))] [] g1 _ _
        refine ev_runs 1 (52, [some (.inr (.inr 0)), some (.inl a1), some (.inl a2), some (.inl a3), some (.inl a4), some (.inl (Sh_wrongAbout a1 a2 a3 g))], [], g1) (53, [some (.inr (.inr 0)), some (.inl a1), some (.inl a2), some (.inl a3), some (.inl a4), some (.inl (Sh_wrongAbout a1 a2 a3 g))], [.inl 1], g1) rfl ?_
        cases h
        exact er rfl
      · rw [if_neg hc] at h
        refine es (34, [some (.inr (.inr 0)), some (.inl a1), some (.inl a2), some (.inl a3), some (.inl a4), some (.inl (Sh_wrongAbout a1 a2 a3 g))], [], g) (congrArg some (if_neg hc)) ?_
        refine ev_runs 2 (34, [some (.inr (.inr 0)), some (.inl a1), some (.inl a2), some (.inl a3), some (.inl a4), some (.inl (Sh_wrongAbout a1 a2 a3 g))], [], g) (37, [some (.inr (.inr 0)), some (.inl a1), some (.inl a2), some (.inl a3), some (.inl a4), some (.inl (Sh_wrongAbout a1 a2 a3 g))], [.inl (Sh_wrongAbout a1 a2 a3 g), .inr (.inr 0)], g) rfl ?_
        obtain ⟨q2, hq, h⟩ := lett_inv h
        refine ec 198 40 [.inr (.inr 0), .inl (Sh_wrongAbout a1 a2 a3 g)] [] rfl (ev_Op_found (Sh_wrongAbout a1 a2 a3 g) g q2.1 q2.2 hq.symm) ?_
        show Ev 238 40 [some (.inr (.inr 0)), some (.inl a1), some (.inl a2), some (.inl a3), some (.inl a4), some (.inl (Sh_wrongAbout a1 a2 a3 g))] [.inl q2.1] q2.2 _ _
        cases h
        exact er rfl
    · rw [if_neg hc] at h
      refine es (14, [some (.inr (.inr 0)), some (.inl a1), some (.inl a2), some (.inl a3), some (.inl a4), none], [], g) (congrArg some (if_neg hc)) ?_
      refine ev_runs 1 (14, [some (.inr (.inr 0)), some (.inl a1), some (.inl a2), some (.inl a3), some (.inl a4), none], [], g) (16, [some (.inr (.inr 0)), some (.inl a1), some (.inl a2), some (.inl a3), some (.inl a4), none], [.inl (-2)], g) rfl ?_
      cases h
      exact er rfl
set_option maxRecDepth 100000 in
set_option maxHeartbeats 4000000 in
theorem ev_Md_lacks (a1 a2 a3 : Int) (g : Gx) (r : Int) (g' : Gx) (h : Md_lacks a1 a2 a3 g = some (r, g')) : Ev 239 0 [some (.inr (.inr 92)), some (.inl a1), some (.inl a2), some (.inl a3)] [] g (some (.inl r)) g' := by
  rw [Md_lacks] at h
  refine ev_runs 3 (0, [some (.inr (.inr 92)), some (.inl a1), some (.inl a2), some (.inl a3)], [], g) (5, [some (.inr (.inr 92)), some (.inl a1), some (.inl a2), some (.inl a3)], [.inl a1, .inr (.inr 93)], g) rfl ?_
  by_cases hc : 0 ≤ a1 ∧ a1 < 4
  · rw [if_pos hc] at h
    refine es (6, [some (.inr (.inr 92)), some (.inl a1), some (.inl a2), some (.inl a3)], [.inl (g 93 a1.toNat)], g) (if_pos hc) ?_
    by_cases hc : 0 ≤ (g 93 a1.toNat)
    · rw [if_pos hc] at h
      refine es (15, [some (.inr (.inr 92)), some (.inl a1), some (.inl a2), some (.inl a3)], [], g) (congrArg some (if_pos hc)) ?_
      refine ev_runs 3 (15, [some (.inr (.inr 92)), some (.inl a1), some (.inl a2), some (.inl a3)], [], g) (20, [some (.inr (.inr 92)), some (.inl a1), some (.inl a2), some (.inl a3)], [.inl a1, .inr (.inr 93)], g) rfl ?_
      by_cases hc : 0 ≤ a1 ∧ a1 < 4
      · rw [if_pos hc] at h
        refine es (21, [some (.inr (.inr 92)), some (.inl a1), some (.inl a2), some (.inl a3)], [.inl (g 93 a1.toNat)], g) (if_pos hc) ?_
        refine ev_runs 1 (21, [some (.inr (.inr 92)), some (.inl a1), some (.inl a2), some (.inl a3)], [.inl (g 93 a1.toNat)], g) (22, [some (.inr (.inr 92)), some (.inl a1), some (.inl a2), some (.inl a3)], [.inl a2, .inl (g 93 a1.toNat)], g) rfl ?_
        by_cases hc : (g 93 a1.toNat) = a2
        · rw [if_pos hc] at h
          refine es (31, [some (.inr (.inr 92)), some (.inl a1), some (.inl a2), some (.inl a3)], [], g) (congrArg some (if_pos hc)) ?_
          refine ev_runs 6 (31, [some (.inr (.inr 92)), some (.inl a1), some (.inl a2), some (.inl a3)], [], g) (39, [some (.inr (.inr 92)), some (.inl a1), some (.inl a2), some (.inl a3)], [.inl a1, .inr (.inr 94), .inr (.inl 0), .inr (.inl a3)], g) rfl ?_
          by_cases hc : 0 ≤ a1 ∧ a1 < 4
          · rw [if_pos hc] at h
            refine es (40, [some (.inr (.inr 92)), some (.inl a1), some (.inl a2), some (.inl a3)], [.inl (g 94 a1.toNat), .inr (.inl 0), .inr (.inl a3)], g) (if_pos hc) ?_
            refine ev_runs 3 (40, [some (.inr (.inr 92)), some (.inl a1), some (.inl a2), some (.inl a3)], [.inl (g 94 a1.toNat), .inr (.inl 0), .inr (.inl a3)], g) (43, [some (.inr (.inr 92)), some (.inl a1), some (.inl a2), some (.inl a3)], [.inr (.inl (wr ((g 94 a1.toNat) - 1))), .inr (.inl 0), .inr (.inl a3)], g) rfl ?_
            refine ec 4 46 [.inr (.inl a3), .inr (.inl 0), .inr (.inl (wr ((g 94 a1.toNat) - 1)))] [] rfl (ev_Md_in a3 0 (wr ((g 94 a1.toNat) - 1)) g _ rfl) ?_
            show Ev 239 46 [some (.inr (.inr 92)), some (.inl a1), some (.inl a2), some (.inl a3)] [.inl (Md_in a3 0 (wr ((g 94 a1.toNat) - 1)))] g _ _
            by_cases hc : (Md_in a3 0 (wr ((g 94 a1.toNat) - 1))) = 0
            · rw [if_pos hc] at h
              refine es (53, [some (.inr (.inr 92)), some (.inl a1), some (.inl a2), some (.inl a3)], [], g) (congrArg some (if_pos hc)) ?_
              refine ev_runs 2 (53, [some (.inr (.inr 92)), some (.inl a1), some (.inl a2), some (.inl a3)], [], g) (55, [some (.inr (.inr 92)), some (.inl a1), some (.inl a2), some (.inl a3)], [.inl 2, .inr (.inr 92)], g) rfl ?_
              obtain ⟨q1, hq, h⟩ := lett_inv h
              refine ec 205 58 [.inr (.inr 92), .inl 2] [] rfl (ev_Md_met 2 g q1.1 q1.2 hq.symm) ?_
              show Ev 239 58 [some (.inr (.inr 92)), some (.inl a1), some (.inl a2), some (.inl a3)] [.inl q1.1] q1.2 _ _
              cases h
              exact er rfl
            · rw [if_neg hc] at h
              refine es (49, [some (.inr (.inr 92)), some (.inl a1), some (.inl a2), some (.inl a3)], [], g) (congrArg some (if_neg hc)) ?_
              refine ev_runs 2 (49, [some (.inr (.inr 92)), some (.inl a1), some (.inl a2), some (.inl a3)], [], g) (58, [some (.inr (.inr 92)), some (.inl a1), some (.inl a2), some (.inl a3)], [.inl 0], g) rfl ?_
              cases h
              exact er rfl
          · rw [if_neg hc] at h; cases h
        · rw [if_neg hc] at h
          refine es (25, [some (.inr (.inr 92)), some (.inl a1), some (.inl a2), some (.inl a3)], [], g) (congrArg some (if_neg hc)) ?_
          refine ev_runs 2 (25, [some (.inr (.inr 92)), some (.inl a1), some (.inl a2), some (.inl a3)], [], g) (27, [some (.inr (.inr 92)), some (.inl a1), some (.inl a2), some (.inl a3)], [.inl 3, .inr (.inr 92)], g) rfl ?_
          obtain ⟨q2, hq, h⟩ := lett_inv h
          refine ec 205 30 [.inr (.inr 92), .inl 3] [] rfl (ev_Md_met 3 g q2.1 q2.2 hq.symm) ?_
          show Ev 239 30 [some (.inr (.inr 92)), some (.inl a1), some (.inl a2), some (.inl a3)] [.inl q2.1] q2.2 _ _
          cases h
          exact er rfl
      · rw [if_neg hc] at h; cases h
    · rw [if_neg hc] at h
      refine es (9, [some (.inr (.inr 92)), some (.inl a1), some (.inl a2), some (.inl a3)], [], g) (congrArg some (if_neg hc)) ?_
      refine ev_runs 2 (9, [some (.inr (.inr 92)), some (.inl a1), some (.inl a2), some (.inl a3)], [], g) (11, [some (.inr (.inr 92)), some (.inl a1), some (.inl a2), some (.inl a3)], [.inl 1, .inr (.inr 92)], g) rfl ?_
      obtain ⟨q3, hq, h⟩ := lett_inv h
      refine ec 205 14 [.inr (.inr 92), .inl 1] [] rfl (ev_Md_met 1 g q3.1 q3.2 hq.symm) ?_
      show Ev 239 14 [some (.inr (.inr 92)), some (.inl a1), some (.inl a2), some (.inl a3)] [.inl q3.1] q3.2 _ _
      cases h
      exact er rfl
  · rw [if_neg hc] at h; cases h
set_option maxRecDepth 100000 in
set_option maxHeartbeats 4000000 in
theorem ev_Md_cut (a0 a1 : Int) (g : Gx) (r : Int) (h : Md_cut a0 a1 = r) : Ev 240 0 [some (.inl a0), some (.inl a1)] [] g (some (.inl r)) g := by
  rw [Md_cut] at h
  refine ev_runs 1 (0, [some (.inl a0), some (.inl a1)], [], g) (1, [some (.inl a0), some (.inl a1)], [.inl a0], g) rfl ?_
  by_cases hc : ¬ a0 = 0
  · rw [if_pos hc] at h
    refine es (9, [some (.inl a0), some (.inl a1)], [], g) (congrArg some (if_pos hc)) ?_
    refine ev_runs 2 (9, [some (.inl a0), some (.inl a1)], [], g) (11, [some (.inl a0), some (.inl a1)], [.inl 1, .inl a0], g) rfl ?_
    by_cases hc : ¬ a0 = 1
    · rw [if_pos hc] at h
      refine es (19, [some (.inl a0), some (.inl a1)], [], g) (congrArg some (if_pos hc)) ?_
      refine ev_runs 1 (19, [some (.inl a0), some (.inl a1)], [], g) (20, [some (.inl a0), some (.inl a1)], [.inl a1], g) rfl ?_
      subst h
      exact er rfl
    · rw [if_neg hc] at h
      refine es (14, [some (.inl a0), some (.inl a1)], [], g) (congrArg some (if_neg hc)) ?_
      refine ev_runs 3 (14, [some (.inl a0), some (.inl a1)], [], g) (20, [some (.inl a0), some (.inl a1)], [.inl (js a1)], g) rfl ?_
      subst h
      exact er rfl
  · rw [if_neg hc] at h
    refine es (4, [some (.inl a0), some (.inl a1)], [], g) (congrArg some (if_neg hc)) ?_
    refine ev_runs 3 (4, [some (.inl a0), some (.inl a1)], [], g) (20, [some (.inl a0), some (.inl a1)], [.inl (jb a1)], g) rfl ?_
    subst h
    exact er rfl
set_option maxRecDepth 100000 in
set_option maxHeartbeats 4000000 in
theorem ev_Md_put (a1 a2 a3 a4 : Int) (g : Gx) (r : Int) (g' : Gx) (h : Md_put a1 a2 a3 a4 g = some (r, g')) : Ev 241 0 [some (.inr (.inr 92)), some (.inl a1), some (.inl a2), some (.inl a3), some (.inl a4), none] [] g (some (.inl r)) g' := by
  rw [Md_put] at h
  refine ev_runs 1 (0, [some (.inr (.inr 92)), some (.inl a1), some (.inl a2), some (.inl a3), some (.inl a4), none], [], g) (1, [some (.inr (.inr 92)), some (.inl a1), some (.inl a2), some (.inl a3), some (.inl a4), none], [.inl a1], g) rfl ?_
  refine ec 204 4 [.inl a1] [] rfl (ev_Md_isSheet a1 g _ rfl) ?_
  show Ev 241 4 [some (.inr (.inr 92)), some (.inl a1), some (.inl a2), some (.inl a3), some (.inl a4), none] [.inl (Md_isSheet a1)] g _ _
  by_cases hc : (Md_isSheet a1) = 0
  · rw [if_pos hc] at h
    refine es (19, [some (.inr (.inr 92)), some (.inl a1), some (.inl a2), some (.inl a3), some (.inl a4), none], [], g) (congrArg some (if_pos hc)) ?_
    refine ev_runs 1 (19, [some (.inr (.inr 92)), some (.inl a1), some (.inl a2), some (.inl a3), some (.inl a4), none], [], g) (21, [some (.inr (.inr 92)), some (.inl a1), some (.inl a2), some (.inl a3), some (.inl a4), none], [.inl (-2)], g) rfl ?_
    cases h
    exact er rfl
  · rw [if_neg hc] at h
    refine es (7, [some (.inr (.inr 92)), some (.inl a1), some (.inl a2), some (.inl a3), some (.inl a4), none], [], g) (congrArg some (if_neg hc)) ?_
    refine ev_runs 4 (7, [some (.inr (.inr 92)), some (.inl a1), some (.inl a2), some (.inl a3), some (.inl a4), none], [], g) (13, [some (.inr (.inr 92)), some (.inl a1), some (.inl a2), some (.inl a3), some (.inl a4), none], [.inr (.inl 2), .inr (.inl 0), .inr (.inl a2)], g) rfl ?_
    refine ec 4 16 [.inr (.inl a2), .inr (.inl 0), .inr (.inl 2)] [] rfl (ev_Md_in a2 0 2 g _ rfl) ?_
    show Ev 241 16 [some (.inr (.inr 92)), some (.inl a1), some (.inl a2), some (.inl a3), some (.inl a4), none] [.inl (Md_in a2 0 2)] g _ _
    by_cases hc : ¬ (Md_in a2 0 2) = 0
    · rw [if_pos hc] at h
      refine es (22, [some (.inr (.inr 92)), some (.inl a1), some (.inl a2), some (.inl a3), some (.inl a4), none], [], g) (congrArg some (if_pos hc)) ?_
      refine ev_runs 4 (22, [some (.inr (.inr 92)), some (.inl a1), some (.inl a2), some (.inl a3), some (.inl a4), none], [], g) (26, [some (.inr (.inr 92)), some (.inl a1), some (.inl a2), some (.inl a3), some (.inl a4), none], [.inl a3, .inl a2, .inl a1, .inr (.inr 92)], g) rfl ?_
      obtain ⟨q1, hq, h⟩ := Option.bind_eq_some_iff.mp h
      refine ec 239 29 [.inr (.inr 92), .inl a1, .inl a2, .inl a3] [] rfl (ev_Md_lacks a1 a2 a3 g q1.1 q1.2 hq) ?_
      show Ev 241 29 [some (.inr (.inr 92)), some (.inl a1), some (.inl a2), some (.inl a3), some (.inl a4), none] [.inl q1.1] q1.2 _ _
      refine ev_runs 2 (29, [some (.inr (.inr 92)), some (.inl a1), some (.inl a2), some (.inl a3), some (.inl a4), none], [.inl q1.1], q1.2) (33, [some (.inr (.inr 92)), some (.inl a1), some (.inl a2), some (.inl a3), some (.inl a4), some (.inl q1.1)], [.inl q1.1], q1.2) rfl ?_
      by_cases hc : q1.1 = 0
      · rw [if_pos hc] at h
        refine es (39, [some (.inr (.inr 92)), some (.inl a1), some (.inl a2), some (.inl a3), some (.inl a4), some (.inl q1.1)], [], q1.2) (congrArg some (if_pos hc)) ?_
        refine ev_runs 9 (39, [some (.inr (.inr 92)), some (.inl a1), some (.inl a2), some (.inl a3), some (.inl a4), some (.inl q1.1)], [], q1.2) (52, [some (.inr (.inr 92)), some (.inl a1), some (.inl a2), some (.inl a3), some (.inl a4), some (.inl q1.1)], [.inl a4, .inl a2, .inl (wr ((wr (60 * a1)) + a3)), .inr (.inr 95)], q1.2) rfl ?_
        refine ec 240 55 [.inl a2, .inl a4] [.inl (wr ((wr (60 * a1)) + a3)), .inr (.inr 95)] rfl (ev_Md_cut a2 a4 q1.2 _ rfl) ?_
        show Ev 241 55 [some (.inr (.inr 92)), some (.inl a1), some (.inl a2), some (.inl a3), some (.inl a4), some (.inl q1.1)] [.inl (Md_cut a2 a4), .inl (wr ((wr (60 * a1)) + a3)), .inr (.inr 95)] q1.2 _ _
        by_cases hc : 0 ≤ (wr ((wr (60 * a1)) + a3)) ∧ (wr ((wr (60 * a1)) + a3)) < 240
        · rw [if_pos hc] at h
          refine es (56, [some (.inr (.inr 92)), some (.inl a1), some (.inl a2), some (.inl a3), some (.inl a4), some (.inl q1.1)], [], (gset q1.2 95 ((wr ((wr (60 * a1)) + a3)).toNat) (Md_cut a2 a4))) (if_pos hc) ?_
          refine ev_runs 1 (56, [some (.inr (.inr 92)), some (.inl a1), some (.inl a2), some (.inl a3), some (.inl a4), some (.inl q1.1)], [], (gset q1.2 95 ((wr ((wr (60 * a1)) + a3)).toNat) (Md_cut a2 a4))) (57, [some (.inr (.inr 92)), some (.inl a1), some (.inl a2), some (.inl a3), some (.inl a4), some (.inl q1.1)], [.inl 1], (gset q1.2 95 ((wr ((wr (60 * a1)) + a3)).toNat) (Md_cut a2 a4))) rfl ?_
          cases h
          exact er rfl
        · rw [if_neg hc] at h; cases h
      · rw [if_neg hc] at h
        refine es (36, [some (.inr (.inr 92)), some (.inl a1), some (.inl a2), some (.inl a3), some (.inl a4), some (.inl q1.1)], [], q1.2) (congrArg some (if_neg hc)) ?_
        refine ev_runs 1 (36, [some (.inr (.inr 92)), some (.inl a1), some (.inl a2), some (.inl a3), some (.inl a4), some (.inl q1.1)], [], q1.2) (38, [some (.inr (.inr 92)), some (.inl a1), some (.inl a2), some (.inl a3), some (.inl a4), some (.inl q1.1)], [.inl q1.1], q1.2) rfl ?_
        cases h
        exact er rfl
    · rw [if_neg hc] at h
      refine es (19, [some (.inr (.inr 92)), some (.inl a1), some (.inl a2), some (.inl a3), some (.inl a4), none], [], g) (congrArg some (if_neg hc)) ?_
      refine ev_runs 1 (19, [some (.inr (.inr 92)), some (.inl a1), some (.inl a2), some (.inl a3), some (.inl a4), none], [], g) (21, [some (.inr (.inr 92)), some (.inl a1), some (.inl a2), some (.inl a3), some (.inl a4), none], [.inl (-2)], g) rfl ?_
      cases h
      exact er rfl
set_option maxRecDepth 100000 in
set_option maxHeartbeats 4000000 in
theorem ev_Op_get (a1 a2 a3 : Int) (g : Gx) (r : Int) (g' : Gx) (h : Op_get a1 a2 a3 g = (r, g')) : Ev 242 0 [some (.inr (.inr 0)), some (.inl a1), some (.inl a2), some (.inl a3), none] [] g (some (.inl r)) g' := by
  rw [Op_get] at h
  refine ev_runs 1 (0, [some (.inr (.inr 0)), some (.inl a1), some (.inl a2), some (.inl a3), none], [], g) (1, [some (.inr (.inr 0)), some (.inl a1), some (.inl a2), some (.inl a3), none], [.inl a1], g) rfl ?_
  refine ec 196 4 [.inl a1] [] rfl (ev_Op_isSheet a1 g _ rfl) ?_
  show Ev 242 4 [some (.inr (.inr 0)), some (.inl a1), some (.inl a2), some (.inl a3), none] [.inl (Op_isSheet a1)] g _ _
  by_cases hc : (Op_isSheet a1) = 0
  · rw [if_pos hc] at h
    refine es (14, [some (.inr (.inr 0)), some (.inl a1), some (.inl a2), some (.inl a3), none], [], g) (congrArg some (if_pos hc)) ?_
    refine ev_runs 1 (14, [some (.inr (.inr 0)), some (.inl a1), some (.inl a2), some (.inl a3), none], [], g) (17, [some (.inr (.inr 0)), some (.inl a1), some (.inl a2), some (.inl a3), none], [.inl (-2147483648)], g) rfl ?_
    cases h
    exact er rfl
  · rw [if_neg hc] at h
    refine es (7, [some (.inr (.inr 0)), some (.inl a1), some (.inl a2), some (.inl a3), none], [], g) (congrArg some (if_neg hc)) ?_
    refine ev_runs 1 (7, [some (.inr (.inr 0)), some (.inl a1), some (.inl a2), some (.inl a3), none], [], g) (8, [some (.inr (.inr 0)), some (.inl a1), some (.inl a2), some (.inl a3), none], [.inl a2], g) rfl ?_
    refine ec 228 11 [.inl a2] [] rfl (ev_Op_isForm a2 g _ rfl) ?_
    show Ev 242 11 [some (.inr (.inr 0)), some (.inl a1), some (.inl a2), some (.inl a3), none] [.inl (Op_isForm a2)] g _ _
    by_cases hc : ¬ (Op_isForm a2) = 0
    · rw [if_pos hc] at h
      refine es (18, [some (.inr (.inr 0)), some (.inl a1), some (.inl a2), some (.inl a3), none], [], g) (congrArg some (if_pos hc)) ?_
      refine ev_runs 5 (18, [some (.inr (.inr 0)), some (.inl a1), some (.inl a2), some (.inl a3), none], [], g) (25, [some (.inr (.inr 0)), some (.inl a1), some (.inl a2), some (.inl a3), none], [.inl a3, .inl a2, .inl a1, .inr (.inr 85)], g) rfl ?_
      refine ec 236 28 [.inr (.inr 85), .inl a1, .inl a2, .inl a3] [] rfl (ev_Sh_wrongAbout a1 a2 a3 g _ rfl) ?_
      show Ev 242 28 [some (.inr (.inr 0)), some (.inl a1), some (.inl a2), some (.inl a3), none] [.inl (Sh_wrongAbout a1 a2 a3 g)] g _ _
      refine ev_runs 2 (28, [some (.inr (.inr 0)), some (.inl a1), some (.inl a2), some (.inl a3), none], [.inl (Sh_wrongAbout a1 a2 a3 g)], g) (32, [some (.inr (.inr 0)), some (.inl a1), some (.inl a2), some (.inl a3), some (.inl (Sh_wrongAbout a1 a2 a3 g))], [.inl (Sh_wrongAbout a1 a2 a3 g)], g) rfl ?_
      by_cases hc : (Sh_wrongAbout a1 a2 a3 g) = 0
      · rw [if_pos hc] at h
        refine es (45, [some (.inr (.inr 0)), some (.inl a1), some (.inl a2), some (.inl a3), some (.inl (Sh_wrongAbout a1 a2 a3 g))], [], g) (congrArg some (if_pos hc)) ?_
        refine ev_runs 4 (45, [some (.inr (.inr 0)), some (.inl a1), some (.inl a2), some (.inl a3), some (.inl (Sh_wrongAbout a1 a2 a3 g))], [], g) (51, [some (.inr (.inr 0)), some (.inl a1), some (.inl a2), some (.inl a3), some (.inl (Sh_wrongAbout a1 a2 a3 g))], [.inl a3, .inl a1, .inr (.inr 85)], g) rfl ?_
        refine ec 200 54 [.inr (.inr 85), .inl a1, .inl a3] [] rfl (ev_Sh_item a1 a3 g _ rfl) ?_
        show Ev 242 54 [some (.inr (.inr 0)), some (.inl a1), some (.inl a2), some (.inl a3), some (.inl (Sh_wrongAbout a1 a2 a3 g))] [.inl (Sh_item a1 a3 g)] g _ _
        cases h
        exact er rfl
      · rw [if_neg hc] at h
        refine es (35, [some (.inr (.inr 0)), some (.inl a1), some (.inl a2), some (.inl a3), some (.inl (Sh_wrongAbout a1 a2 a3 g))], [], g) (congrArg some (if_neg hc)) ?_
        refine ev_runs 4 (35, [some (.inr (.inr 0)), some (.inl a1), some (.inl a2), some (.inl a3), some (.inl (Sh_wrongAbout a1 a2 a3 g))], [], g) (44, [some (.inr (.inr 0)), some (.inl a1), some (.inl a2), some (.inl a3), some (.inl (Sh_wrongAbout a1 a2 a3 g))], [.inl (-2147483648)], (gset g 0 12 (Sh_wrongAbout a1 a2 a3 g))) rfl ?_
        cases h
        exact er rfl
    · rw [if_neg hc] at h
      refine es (14, [some (.inr (.inr 0)), some (.inl a1), some (.inl a2), some (.inl a3), none], [], g) (congrArg some (if_neg hc)) ?_
      refine ev_runs 1 (14, [some (.inr (.inr 0)), some (.inl a1), some (.inl a2), some (.inl a3), none], [], g) (17, [some (.inr (.inr 0)), some (.inl a1), some (.inl a2), some (.inl a3), none], [.inl (-2147483648)], g) rfl ?_
      cases h
      exact er rfl
set_option maxRecDepth 100000 in
set_option maxHeartbeats 4000000 in
theorem ev_Md_get (a1 a2 a3 : Int) (g : Gx) (r : Int) (g' : Gx) (h : Md_get a1 a2 a3 g = some (r, g')) : Ev 243 0 [some (.inr (.inr 92)), some (.inl a1), some (.inl a2), some (.inl a3)] [] g (some (.inl r)) g' := by
  rw [Md_get] at h
  refine ev_runs 1 (0, [some (.inr (.inr 92)), some (.inl a1), some (.inl a2), some (.inl a3)], [], g) (1, [some (.inr (.inr 92)), some (.inl a1), some (.inl a2), some (.inl a3)], [.inl a1], g) rfl ?_
  refine ec 204 4 [.inl a1] [] rfl (ev_Md_isSheet a1 g _ rfl) ?_
  show Ev 243 4 [some (.inr (.inr 92)), some (.inl a1), some (.inl a2), some (.inl a3)] [.inl (Md_isSheet a1)] g _ _
  by_cases hc : (Md_isSheet a1) = 0
  · rw [if_pos hc] at h
    refine es (29, [some (.inr (.inr 92)), some (.inl a1), some (.inl a2), some (.inl a3)], [], g) (congrArg some (if_pos hc)) ?_
    refine ev_runs 1 (29, [some (.inr (.inr 92)), some (.inl a1), some (.inl a2), some (.inl a3)], [], g) (31, [some (.inr (.inr 92)), some (.inl a1), some (.inl a2), some (.inl a3)], [.inl (-2147483648)], g) rfl ?_
    cases h
    exact er rfl
  · rw [if_neg hc] at h
    refine es (7, [some (.inr (.inr 92)), some (.inl a1), some (.inl a2), some (.inl a3)], [], g) (congrArg some (if_neg hc)) ?_
    refine ev_runs 4 (7, [some (.inr (.inr 92)), some (.inl a1), some (.inl a2), some (.inl a3)], [], g) (13, [some (.inr (.inr 92)), some (.inl a1), some (.inl a2), some (.inl a3)], [.inr (.inl 2), .inr (.inl 0), .inr (.inl a2)], g) rfl ?_
    refine ec 4 16 [.inr (.inl a2), .inr (.inl 0), .inr (.inl 2)] [] rfl (ev_Md_in a2 0 2 g _ rfl) ?_
    show Ev 243 16 [some (.inr (.inr 92)), some (.inl a1), some (.inl a2), some (.inl a3)] [.inl (Md_in a2 0 2)] g _ _
    by_cases hc : (Md_in a2 0 2) = 0
    · rw [if_pos hc] at h
      refine es (29, [some (.inr (.inr 92)), some (.inl a1), some (.inl a2), some (.inl a3)], [], g) (congrArg some (if_pos hc)) ?_
      refine ev_runs 1 (29, [some (.inr (.inr 92)), some (.inl a1), some (.inl a2), some (.inl a3)], [], g) (31, [some (.inr (.inr 92)), some (.inl a1), some (.inl a2), some (.inl a3)], [.inl (-2147483648)], g) rfl ?_
      cases h
      exact er rfl
    · rw [if_neg hc] at h
      refine es (19, [some (.inr (.inr 92)), some (.inl a1), some (.inl a2), some (.inl a3)], [], g) (congrArg some (if_neg hc)) ?_
      refine ev_runs 4 (19, [some (.inr (.inr 92)), some (.inl a1), some (.inl a2), some (.inl a3)], [], g) (23, [some (.inr (.inr 92)), some (.inl a1), some (.inl a2), some (.inl a3)], [.inl a3, .inl a2, .inl a1, .inr (.inr 92)], g) rfl ?_
      obtain ⟨q1, hq, h⟩ := Option.bind_eq_some_iff.mp h
      refine ec 239 26 [.inr (.inr 92), .inl a1, .inl a2, .inl a3] [] rfl (ev_Md_lacks a1 a2 a3 g q1.1 q1.2 hq) ?_
      show Ev 243 26 [some (.inr (.inr 92)), some (.inl a1), some (.inl a2), some (.inl a3)] [.inl q1.1] q1.2 _ _
      by_cases hc : q1.1 = 0
      · rw [if_pos hc] at h
        refine es (32, [some (.inr (.inr 92)), some (.inl a1), some (.inl a2), some (.inl a3)], [], q1.2) (congrArg some (if_pos hc)) ?_
        refine ev_runs 7 (32, [some (.inr (.inr 92)), some (.inl a1), some (.inl a2), some (.inl a3)], [], q1.2) (42, [some (.inr (.inr 92)), some (.inl a1), some (.inl a2), some (.inl a3)], [.inl (wr ((wr (60 * a1)) + a3)), .inr (.inr 95)], q1.2) rfl ?_
        by_cases hc : 0 ≤ (wr ((wr (60 * a1)) + a3)) ∧ (wr ((wr (60 * a1)) + a3)) < 240
        · rw [if_pos hc] at h
          refine es (43, [some (.inr (.inr 92)), some (.inl a1), some (.inl a2), some (.inl a3)], [.inl (q1.2 95 (wr ((wr (60 * a1)) + a3)).toNat)], q1.2) (if_pos hc) ?_
          cases h
          exact er rfl
        · rw [if_neg hc] at h; cases h
      · rw [if_neg hc] at h
        refine es (29, [some (.inr (.inr 92)), some (.inl a1), some (.inl a2), some (.inl a3)], [], q1.2) (congrArg some (if_neg hc)) ?_
        refine ev_runs 1 (29, [some (.inr (.inr 92)), some (.inl a1), some (.inl a2), some (.inl a3)], [], q1.2) (31, [some (.inr (.inr 92)), some (.inl a1), some (.inl a2), some (.inl a3)], [.inl (-2147483648)], q1.2) rfl ?_
        cases h
        exact er rfl
set_option maxRecDepth 100000 in
set_option maxHeartbeats 4000000 in
theorem ev_Sh_form (a1 : Int) (g : Gx) (r : Int) (h : Sh_form a1 g = r) : Ev 244 0 [some (.inr (.inr 85)), some (.inl a1)] [] g (some (.inl r)) g := by
  rw [Sh_form] at h
  refine ev_runs 3 (0, [some (.inr (.inr 85)), some (.inl a1)], [], g) (5, [some (.inr (.inr 85)), some (.inl a1)], [.inl a1, .inr (.inr 88)], g) rfl ?_
  refine ec 13 8 [.inr (.inr 88), .inl a1] [] rfl (ev_Row_at rfl rfl _ _) ?_
  show Ev 244 8 [some (.inr (.inr 85)), some (.inl a1)] [.inl (rat g 89 4 a1)] g _ _
  subst h
  exact er rfl
