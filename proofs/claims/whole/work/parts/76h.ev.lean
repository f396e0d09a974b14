/-! The small machine does what the functions say. Printed by wip/gen/gen_parts.py. -/
set_option maxRecDepth 100000 in
set_option maxHeartbeats 4000000 in
theorem ev_Md_chainOf_l24 (c1 : Int) (c2 : Int) (c3 : Int) (K24_112 : Gx → Option (Int × Gx)) (hK24_112 : ∀ (g : Gx) (r : Int) (g' : Gx), K24_112 g = some (r, g') → Ev 167 112 [some (.inr (.inr 92)), some (.inl c1), some (.inl c2), some (.inl c3), none, none] [] g (some (.inl r)) g') : ∀ (n24 : Nat) (v4 : Int) (g : Gx) (r : Int) (g' : Gx), Md_chainOf_l24 c1 c2 c3 K24_112 n24 v4 g = some (r, g') → Ev 167 24 [some (.inr (.inr 92)), some (.inl c1), some (.inl c2), some (.inl c3), some (.inl v4), none] [] g (some (.inl r)) g' := by
  intro n24
  induction n24 with
  | zero => intro v4 g r g' h; cases h
  | succ n24 ih24 =>
    intro v4 g r g' h
    rw [Md_chainOf_l24] at h
    refine ev_runs 2 (24, [some (.inr (.inr 92)), some (.inl c1), some (.inl c2), some (.inl c3), some (.inl v4), none], [], g) (27, [some (.inr (.inr 92)), some (.inl c1), some (.inl c2), some (.inl c3), some (.inl v4), none], [.inl c3, .inl v4], g) rfl ?_
    by_cases hc : c3 ≤ v4
    · rw [if_pos hc] at h
      refine es (112, [some (.inr (.inr 92)), some (.inl c1), some (.inl c2), some (.inl c3), some (.inl v4), none], [], g) (congrArg some (if_pos hc)) ?_
      exact ev_le (L := [some (.inr (.inr 92)), some (.inl c1), some (.inl c2), some (.inl c3), none, none]) (by simp [Lle]) (hK24_112 g r g' h)
    · rw [if_neg hc] at h
      refine es (30, [some (.inr (.inr 92)), some (.inl c1), some (.inl c2), some (.inl c3), some (.inl v4), none], [], g) (congrArg some (if_neg hc)) ?_
      refine ev_runs 3 (30, [some (.inr (.inr 92)), some (.inl c1), some (.inl c2), some (.inl c3), some (.inl v4), none], [], g) (34, [some (.inr (.inr 92)), some (.inl c1), some (.inl c2), some (.inl c3), some (.inl v4), none], [.inl v4, .inl c1, .inr (.inr 92)], g) rfl ?_
      obtain ⟨q1, hq, h⟩ := Option.bind_eq_some_iff.mp h
      refine ec 89 37 [.inr (.inr 92), .inl c1, .inl v4] [] rfl (ev_Md_code c1 v4 g q1.1 q1.2 hq) ?_
      show Ev 167 37 [some (.inr (.inr 92)), some (.inl c1), some (.inl c2), some (.inl c3), some (.inl v4), none] [.inl q1.1] q1.2 _ _
      refine ec 100 40 [.inl q1.1] [] rfl (ev_Md_to q1.1 q1.2 _ rfl) ?_
      show Ev 167 40 [some (.inr (.inr 92)), some (.inl c1), some (.inl c2), some (.inl c3), some (.inl v4), none] [.inl (Md_to q1.1)] q1.2 _ _
      refine ev_runs 3 (40, [some (.inr (.inr 92)), some (.inl c1), some (.inl c2), some (.inl c3), some (.inl v4), none], [.inl (Md_to q1.1)], q1.2) (43, [some (.inr (.inr 92)), some (.inl c1), some (.inl c2), some (.inl c3), some (.inl v4), none], [.inl c3, .inl c1, .inr (.inr 92), .inl (Md_to q1.1)], q1.2) rfl ?_
      obtain ⟨q2, hq, h⟩ := Option.bind_eq_some_iff.mp h
      refine ec 89 46 [.inr (.inr 92), .inl c1, .inl c3] [.inl (Md_to q1.1)] rfl (ev_Md_code c1 c3 q1.2 q2.1 q2.2 hq) ?_
      show Ev 167 46 [some (.inr (.inr 92)), some (.inl c1), some (.inl c2), some (.inl c3), some (.inl v4), none] [.inl q2.1, .inl (Md_to q1.1)] q2.2 _ _
      refine ec 99 49 [.inl q2.1] [.inl (Md_to q1.1)] rfl (ev_Md_from q2.1 q2.2 _ rfl) ?_
      show Ev 167 49 [some (.inr (.inr 92)), some (.inl c1), some (.inl c2), some (.inl c3), some (.inl v4), none] [.inl (Md_from q2.1), .inl (Md_to q1.1)] q2.2 _ _
      obtain ⟨y3, hy3, h⟩ := lett_inv h
      have hjy3 : Ev 167 57 [some (.inr (.inr 92)), some (.inl c1), some (.inl c2), some (.inl c3), some (.inl v4), none] [.inl y3] q2.2 (some (.inl r)) g' := by
        refine ev_runs 5 (57, [some (.inr (.inr 92)), some (.inl c1), some (.inl c2), some (.inl c3), some (.inl v4), none], [.inl y3], q2.2) (66, [some (.inr (.inr 92)), some (.inl c1), some (.inl c2), some (.inl c3), some (.inl v4), some (.inl y3)], [.inl y3, .inl c3, .inr (.inr 126)], q2.2) rfl ?_
        by_cases hc : y3 = 0
        · rw [if_pos hc] at h
          refine es (99, [some (.inr (.inr 92)), some (.inl c1), some (.inl c2), some (.inl c3), some (.inl v4), some (.inl y3)], [.inl c3, .inr (.inr 126)], q2.2) (congrArg some (if_pos hc)) ?_
          refine ev_runs 3 (99, [some (.inr (.inr 92)), some (.inl c1), some (.inl c2), some (.inl c3), some (.inl v4), some (.inl y3)], [.inl c3, .inr (.inr 126)], q2.2) (104, [some (.inr (.inr 92)), some (.inl c1), some (.inl c2), some (.inl c3), some (.inl v4), some (.inl y3)], [.inl c3, .inr (.inr 126), .inl c3, .inr (.inr 126)], q2.2) rfl ?_
          by_cases hc : 0 ≤ c3 ∧ c3 < 24
          · rw [if_pos hc] at h
            refine es (105, [some (.inr (.inr 92)), some (.inl c1), some (.inl c2), some (.inl c3), some (.inl v4), some (.inl y3)], [.inl (q2.2 126 c3.toNat), .inl c3, .inr (.inr 126)], q2.2) (if_pos hc) ?_
            by_cases hc : 0 ≤ c3 ∧ c3 < 24
            · rw [if_pos hc] at h
              refine es (106, [some (.inr (.inr 92)), some (.inl c1), some (.inl c2), some (.inl c3), some (.inl v4), some (.inl y3)], [], (gset q2.2 126 c3.toNat (q2.2 126 c3.toNat))) (if_pos hc) ?_
              refine ev_runs 2 (106, [some (.inr (.inr 92)), some (.inl c1), some (.inl c2), some (.inl c3), some (.inl v4), some (.inl y3)], [], (gset q2.2 126 c3.toNat (q2.2 126 c3.toNat))) (24, [some (.inr (.inr 92)), some (.inl c1), some (.inl c2), some (.inl c3), some (.inl (wr (v4 + 1))), some (.inl y3)], [], (gset q2.2 126 c3.toNat (q2.2 126 c3.toNat))) rfl ?_
              exact ev_le (L := [some (.inr (.inr 92)), some (.inl c1), some (.inl c2), some (.inl c3), some (.inl (wr (v4 + 1))), none]) (by simp [Lle]) (ih24 (wr (v4 + 1)) (gset q2.2 126 c3.toNat (q2.2 126 c3.toNat)) r g' h)
            · rw [if_neg hc] at h; cases h
          · rw [if_neg hc] at h; cases h
        · rw [if_neg hc] at h
          refine es (69, [some (.inr (.inr 92)), some (.inl c1), some (.inl c2), some (.inl c3), some (.inl v4), some (.inl y3)], [.inl c3, .inr (.inr 126)], q2.2) (congrArg some (if_neg hc)) ?_
          refine ev_runs 3 (69, [some (.inr (.inr 92)), some (.inl c1), some (.inl c2), some (.inl c3), some (.inl v4), some (.inl y3)], [.inl c3, .inr (.inr 126)], q2.2) (75, [some (.inr (.inr 92)), some (.inl c1), some (.inl c2), some (.inl c3), some (.inl v4), some (.inl y3)], [.inl v4, .inr (.inr 126), .inl c3, .inr (.inr 126)], q2.2) rfl ?_
          by_cases hc : 0 ≤ v4 ∧ v4 < 24
          · rw [if_pos hc] at h
            refine es (76, [some (.inr (.inr 92)), some (.inl c1), some (.inl c2), some (.inl c3), some (.inl v4), some (.inl y3)], [.inl (q2.2 126 v4.toNat), .inl c3, .inr (.inr 126)], q2.2) (if_pos hc) ?_
            refine ev_runs 5 (76, [some (.inr (.inr 92)), some (.inl c1), some (.inl c2), some (.inl c3), some (.inl v4), some (.inl y3)], [.inl (q2.2 126 v4.toNat), .inl c3, .inr (.inr 126)], q2.2) (83, [some (.inr (.inr 92)), some (.inl c1), some (.inl c2), some (.inl c3), some (.inl v4), some (.inl y3)], [.inl c3, .inr (.inr 126), .inl (wr ((q2.2 126 v4.toNat) + 1)), .inl c3, .inr (.inr 126)], q2.2) rfl ?_
            by_cases hc : 0 ≤ c3 ∧ c3 < 24
            · rw [if_pos hc] at h
              refine es (84, [some (.inr (.inr 92)), some (.inl c1), some (.inl c2), some (.inl c3), some (.inl v4), some (.inl y3)], [.inl (q2.2 126 c3.toNat), .inl (wr ((q2.2 126 v4.toNat) + 1)), .inl c3, .inr (.inr 126)], q2.2) (if_pos hc) ?_
              by_cases hc : (wr ((q2.2 126 v4.toNat) + 1)) ≤ (q2.2 126 c3.toNat)
              · rw [if_pos hc] at h
                refine es (99, [some (.inr (.inr 92)), some (.inl c1), some (.inl c2), some (.inl c3), some (.inl v4), some (.inl y3)], [.inl c3, .inr (.inr 126)], q2.2) (congrArg some (if_pos hc)) ?_
                refine ev_runs 3 (99, [some (.inr (.inr 92)), some (.inl c1), some (.inl c2), some (.inl c3), some (.inl v4), some (.inl y3)], [.inl c3, .inr (.inr 126)], q2.2) (104, [some (.inr (.inr 92)), some (.inl c1), some (.inl c2), some (.inl c3), some (.inl v4), some (.inl y3)], [.inl c3, .inr (.inr 126), .inl c3, .inr (.inr 126)], q2.2) rfl ?_
                by_cases hc : 0 ≤ c3 ∧ c3 < 24
                · rw [if_pos hc] at h
                  refine es (105, [some (.inr (.inr 92)), some (.inl c1), some (.inl c2), some (.inl c3), some (.inl v4), some (.inl y3)], [.inl (q2.2 126 c3.toNat), .inl c3, .inr (.inr 126)], q2.2) (if_pos hc) ?_
                  by_cases hc : 0 ≤ c3 ∧ c3 < 24
                  · rw [if_pos hc] at h
                    refine es (106, [some (.inr (.inr 92)), some (.inl c1), some (.inl c2), some (.inl c3), some (.inl v4), some (.inl y3)], [], (gset q2.2 126 c3.toNat (q2.2 126 c3.toNat))) (if_pos hc) ?_
                    refine ev_runs 2 (106, [some (.inr (.inr 92)), some (.inl c1), some (.inl c2), some (.inl c3), some (.inl v4), some (.inl y3)], [], (gset q2.2 126 c3.toNat (q2.2 126 c3.toNat))) (24, [some (.inr (.inr 92)), some (.inl c1), some (.inl c2), some (.inl c3), some (.inl (wr (v4 + 1))), some (.inl y3)], [], (gset q2.2 126 c3.toNat (q2.2 126 c3.toNat))) rfl ?_
                    exact ev_le (L := [some (.inr (.inr 92)), some (.inl c1), some (.inl c2), some (.inl c3), some (.inl (wr (v4 + 1))), none]) (by simp [Lle]) (ih24 (wr (v4 + 1)) (gset q2.2 126 c3.toNat (q2.2 126 c3.toNat)) r g' h)
                  · rw [if_neg hc] at h; cases h
                · rw [if_neg hc] at h; cases h
              · rw [if_neg hc] at h
                refine es (87, [some (.inr (.inr 92)), some (.inl c1), some (.inl c2), some (.inl c3), some (.inl v4), some (.inl y3)], [.inl c3, .inr (.inr 126)], q2.2) (congrArg some (if_neg hc)) ?_
                refine ev_runs 3 (87, [some (.inr (.inr 92)), some (.inl c1), some (.inl c2), some (.inl c3), some (.inl v4), some (.inl y3)], [.inl c3, .inr (.inr 126)], q2.2) (93, [some (.inr (.inr 92)), some (.inl c1), some (.inl c2), some (.inl c3), some (.inl v4), some (.inl y3)], [.inl v4, .inr (.inr 126), .inl c3, .inr (.inr 126)], q2.2) rfl ?_
                by_cases hc : 0 ≤ v4 ∧ v4 < 24
                · rw [if_pos hc] at h
                  refine es (94, [some (.inr (.inr 92)), some (.inl c1), some (.inl c2), some (.inl c3), some (.inl v4), some (.inl y3)], [.inl (q2.2 126 v4.toNat), .inl c3, .inr (.inr 126)], q2.2) (if_pos hc) ?_
                  refine ev_runs 3 (94, [some (.inr (.inr 92)), some (.inl c1), some (.inl c2), some (.inl c3), some (.inl v4), some (.inl y3)], [.inl (q2.2 126 v4.toNat), .inl c3, .inr (.inr 126)], q2.2) (105, [some (.inr (.inr 92)), some (.inl c1), some (.inl c2), some (.inl c3), some (.inl v4), some (.inl y3)], [.inl (wr ((q2.2 126 v4.toNat) + 1)), .inl c3, .inr (.inr 126)], q2.2) rfl ?_
                  by_cases hc : 0 ≤ c3 ∧ c3 < 24
                  · rw [if_pos hc] at h
                    refine es (106, [some (.inr (.inr 92)), some (.inl c1), some (.inl c2), some (.inl c3), some (.inl v4), some (.inl y3)], [], (gset q2.2 126 c3.toNat (wr ((q2.2 126 v4.toNat) + 1)))) (if_pos hc) ?_
                    refine ev_runs 2 (106, [some (.inr (.inr 92)), some (.inl c1), some (.inl c2), some (.inl c3), some (.inl v4), some (.inl y3)], [], (gset q2.2 126 c3.toNat (wr ((q2.2 126 v4.toNat) + 1)))) (24, [some (.inr (.inr 92)), some (.inl c1), some (.inl c2), some (.inl c3), some (.inl (wr (v4 + 1))), some (.inl y3)], [], (gset q2.2 126 c3.toNat (wr ((q2.2 126 v4.toNat) + 1)))) rfl ?_
                    exact ev_le (L := [some (.inr (.inr 92)), some (.inl c1), some (.inl c2), some (.inl c3), some (.inl (wr (v4 + 1))), none]) (by simp [Lle]) (ih24 (wr (v4 + 1)) (gset q2.2 126 c3.toNat (wr ((q2.2 126 v4.toNat) + 1))) r g' h)
                  · rw [if_neg hc] at h; cases h
                · rw [if_neg hc] at h; cases h
            · rw [if_neg hc] at h; cases h
          · rw [if_neg hc] at h; cases h
      by_cases hc : ¬ (Md_to q1.1) = (Md_from q2.1)
      · rw [if_pos hc] at hy3
        refine es (56, [some (.inr (.inr 92)), some (.inl c1), some (.inl c2), some (.inl c3), some (.inl v4), none], [], q2.2) (congrArg some (if_pos hc)) ?_
        refine ev_runs 1 (56, [some (.inr (.inr 92)), some (.inl c1), some (.inl c2), some (.inl c3), some (.inl v4), none], [], q2.2) (57, [some (.inr (.inr 92)), some (.inl c1), some (.inl c2), some (.inl c3), some (.inl v4), none], [.inl 0], q2.2) rfl ?_
        rw [hy3] at hjy3
        exact ev_le (L := [some (.inr (.inr 92)), some (.inl c1), some (.inl c2), some (.inl c3), some (.inl v4), none]) (by simp [Lle]) hjy3
      · rw [if_neg hc] at hy3
        refine es (52, [some (.inr (.inr 92)), some (.inl c1), some (.inl c2), some (.inl c3), some (.inl v4), none], [], q2.2) (congrArg some (if_neg hc)) ?_
        refine ev_runs 2 (52, [some (.inr (.inr 92)), some (.inl c1), some (.inl c2), some (.inl c3), some (.inl v4), none], [], q2.2) (57, [some (.inr (.inr 92)), some (.inl c1), some (.inl c2), some (.inl c3), some (.inl v4), none], [.inl 1], q2.2) rfl ?_
        rw [hy3] at hjy3
        exact ev_le (L := [some (.inr (.inr 92)), some (.inl c1), some (.inl c2), some (.inl c3), some (.inl v4), none]) (by simp [Lle]) hjy3
set_option maxRecDepth 100000 in
set_option maxHeartbeats 4000000 in
theorem ev_Md_chainOf_l4 (c1 : Int) (K4_139 : Int → Gx → Option (Int × Gx)) (hK4_139 : ∀ (x2 : Int) (g : Gx) (r : Int) (g' : Gx), K4_139 x2 g = some (r, g') → Ev 167 139 [none, none, some (.inl x2), none, none, none] [] g (some (.inl r)) g') : ∀ (n4 : Nat) (v2 v3 : Int) (g : Gx) (r : Int) (g' : Gx), Md_chainOf_l4 c1 K4_139 n4 v2 v3 g = some (r, g') → Ev 167 4 [some (.inr (.inr 92)), some (.inl c1), some (.inl v2), some (.inl v3), none, none] [] g (some (.inl r)) g' := by
  intro n4
  induction n4 with
  | zero => intro v2 v3 g r g' h; cases h
  | succ n4 ih4 =>
    intro v2 v3 g r g' h
    rw [Md_chainOf_l4] at h
    refine ev_runs 4 (4, [some (.inr (.inr 92)), some (.inl c1), some (.inl v2), some (.inl v3), none, none], [], g) (10, [some (.inr (.inr 92)), some (.inl c1), some (.inl v2), some (.inl v3), none, none], [.inl c1, .inr (.inr 110), .inl v3], g) rfl ?_
    by_cases hc : 0 ≤ c1 ∧ c1 < 30
    · rw [if_pos hc] at h
      refine es (11, [some (.inr (.inr 92)), some (.inl c1), some (.inl v2), some (.inl v3), none, none], [.inl (g 110 c1.toNat), .inl v3], g) (if_pos hc) ?_
      by_cases hc : (g 110 c1.toNat) ≤ v3
      · rw [if_pos hc] at h
        refine es (139, [some (.inr (.inr 92)), some (.inl c1), some (.inl v2), some (.inl v3), none, none], [], g) (congrArg some (if_pos hc)) ?_
        exact ev_le (L := [none, none, some (.inl v2), none, none, none]) (by simp [Lle]) (hK4_139 v2 g r g' h)
      · rw [if_neg hc] at h
        refine es (14, [some (.inr (.inr 92)), some (.inl c1), some (.inl v2), some (.inl v3), none, none], [], g) (congrArg some (if_neg hc)) ?_
        refine ev_runs 4 (14, [some (.inr (.inr 92)), some (.inl c1), some (.inl v2), some (.inl v3), none, none], [], g) (20, [some (.inr (.inr 92)), some (.inl c1), some (.inl v2), some (.inl v3), none, none], [.inl 1, .inl v3, .inr (.inr 126)], g) rfl ?_
        by_cases hc : 0 ≤ v3 ∧ v3 < 24
        · rw [if_pos hc] at h
          refine es (21, [some (.inr (.inr 92)), some (.inl c1), some (.inl v2), some (.inl v3), none, none], [], (gset g 126 v3.toNat 1)) (if_pos hc) ?_
          refine ev_runs 2 (21, [some (.inr (.inr 92)), some (.inl c1), some (.inl v2), some (.inl v3), none, none], [], (gset g 126 v3.toNat 1)) (24, [some (.inr (.inr 92)), some (.inl c1), some (.inl v2), some (.inl v3), some (.inl 0), none], [], (gset g 126 v3.toNat 1)) rfl ?_
          refine ev_le (L := [some (.inr (.inr 92)), some (.inl c1), some (.inl v2), some (.inl v3), some (.inl 0), none]) (by simp [Lle]) ?_
          refine ev_Md_chainOf_l24 c1 v2 v3 _ ?_ fu 0 (gset g 126 v3.toNat 1) r g' h
          · intro g4 r g' h
            refine ev_runs 3 (112, [some (.inr (.inr 92)), some (.inl c1), some (.inl v2), some (.inl v3), none, none], [], g4) (117, [some (.inr (.inr 92)), some (.inl c1), some (.inl v2), some (.inl v3), none, none], [.inl v3, .inr (.inr 126)], g4) rfl ?_
            by_cases hc : 0 ≤ v3 ∧ v3 < 24
            · rw [if_pos hc] at h
              refine es (118, [some (.inr (.inr 92)), some (.inl c1), some (.inl v2), some (.inl v3), none, none], [.inl (g4 126 v3.toNat)], g4) (if_pos hc) ?_
              refine ev_runs 1 (118, [some (.inr (.inr 92)), some (.inl c1), some (.inl v2), some (.inl v3), none, none], [.inl (g4 126 v3.toNat)], g4) (119, [some (.inr (.inr 92)), some (.inl c1), some (.inl v2), some (.inl v3), none, none], [.inl v2, .inl (g4 126 v3.toNat)], g4) rfl ?_
              by_cases hc : (g4 126 v3.toNat) ≤ v2
              · rw [if_pos hc] at h
                refine es (131, [some (.inr (.inr 92)), some (.inl c1), some (.inl v2), some (.inl v3), none, none], [], g4) (congrArg some (if_pos hc)) ?_
                refine ev_runs 4 (131, [some (.inr (.inr 92)), some (.inl c1), some (.inl v2), some (.inl v3), none, none], [], g4) (4, [some (.inr (.inr 92)), some (.inl c1), some (.inl v2), some (.inl (wr (v3 + 1))), none, none], [], g4) rfl ?_
                exact ev_le (L := [some (.inr (.inr 92)), some (.inl c1), some (.inl v2), some (.inl (wr (v3 + 1))), none, none]) (by simp [Lle]) (ih4 v2 (wr (v3 + 1)) g4 r g' h)
              · rw [if_neg hc] at h
                refine es (122, [some (.inr (.inr 92)), some (.inl c1), some (.inl v2), some (.inl v3), none, none], [], g4) (congrArg some (if_neg hc)) ?_
                refine ev_runs 3 (122, [some (.inr (.inr 92)), some (.inl c1), some (.inl v2), some (.inl v3), none, none], [], g4) (127, [some (.inr (.inr 92)), some (.inl c1), some (.inl v2), some (.inl v3), none, none], [.inl v3, .inr (.inr 126)], g4) rfl ?_
                by_cases hc : 0 ≤ v3 ∧ v3 < 24
                · rw [if_pos hc] at h
                  refine es (128, [some (.inr (.inr 92)), some (.inl c1), some (.inl v2), some (.inl v3), none, none], [.inl (g4 126 v3.toNat)], g4) (if_pos hc) ?_
                  refine ev_runs 4 (128, [some (.inr (.inr 92)), some (.inl c1), some (.inl v2), some (.inl v3), none, none], [.inl (g4 126 v3.toNat)], g4) (4, [some (.inr (.inr 92)), some (.inl c1), some (.inl (g4 126 v3.toNat)), some (.inl (wr (v3 + 1))), none, none], [], g4) rfl ?_
                  exact ev_le (L := [some (.inr (.inr 92)), some (.inl c1), some (.inl (g4 126 v3.toNat)), some (.inl (wr (v3 + 1))), none, none]) (by simp [Lle]) (ih4 (g4 126 v3.toNat) (wr (v3 + 1)) g4 r g' h)
                · rw [if_neg hc] at h; cases h
            · rw [if_neg hc] at h; cases h
        · rw [if_neg hc] at h; cases h
    · rw [if_neg hc] at h; cases h
set_option maxRecDepth 100000 in
set_option maxHeartbeats 4000000 in
theorem ev_Md_chainOf (a1 : Int) (g : Gx) (r : Int) (g' : Gx) (h : Md_chainOf a1 g = some (r, g')) : Ev 167 0 [some (.inr (.inr 92)), some (.inl a1), none, none, none, none] [] g (some (.inl r)) g' := by
  rw [Md_chainOf] at h
  refine ev_runs 4 (0, [some (.inr (.inr 92)), some (.inl a1), none, none, none, none], [], g) (4, [some (.inr (.inr 92)), some (.inl a1), some (.inl 0), some (.inl 0), none, none], [], g) rfl ?_
  refine ev_le (L := [some (.inr (.inr 92)), some (.inl a1), some (.inl 0), some (.inl 0), none, none]) (by simp [Lle]) ?_
  refine ev_Md_chainOf_l4 a1 _ ?_ fu 0 0 g r g' h
  · intro x5 g6 r g' h
    refine ev_runs 1 (139, [none, none, some (.inl x5), none, none, none], [], g6) (140, [none, none, some (.inl x5), none, none, none], [.inl x5], g6) rfl ?_
    cases h
    exact er rfl
set_option maxRecDepth 100000 in
set_option maxHeartbeats 4000000 in
theorem ev_Md_packedOf_l41 (c1 : Int) (c2 : Int) (c3 : Int) (c4 : Int) (c5 : Int) (K41_112 : Int → Gx → Option (Int × Gx)) (hK41_112 : ∀ (x6 : Int) (g : Gx) (r : Int) (g' : Gx), K41_112 x6 g = some (r, g') → Ev 168 112 [some (.inr (.inr 92)), some (.inl c1), some (.inl c2), some (.inl c3), some (.inl c4), some (.inl c5), some (.inl x6), none] [] g (some (.inl r)) g') : ∀ (n41 : Nat) (v6 : Int) (g : Gx) (r : Int) (g' : Gx), Md_packedOf_l41 c1 c2 c3 c4 c5 K41_112 n41 v6 g = some (r, g') → Ev 168 41 [some (.inr (.inr 92)), some (.inl c1), some (.inl c2), some (.inl c3), some (.inl c4), some (.inl c5), some (.inl v6), none] [] g (some (.inl r)) g' := by
  intro n41
  induction n41 with
  | zero => intro v6 g r g' h; cases h
  | succ n41 ih41 =>
    intro v6 g r g' h
    rw [Md_packedOf_l41] at h
    refine ev_runs 1 (41, [some (.inr (.inr 92)), some (.inl c1), some (.inl c2), some (.inl c3), some (.inl c4), some (.inl c5), some (.inl v6), none], [], g) (43, [some (.inr (.inr 92)), some (.inl c1), some (.inl c2), some (.inl c3), some (.inl c4), some (.inl c5), some (.inl v6), none], [.inl v6], g) rfl ?_
    by_cases hc : v6 < 0
    · rw [if_pos hc] at h
      refine es (112, [some (.inr (.inr 92)), some (.inl c1), some (.inl c2), some (.inl c3), some (.inl c4), some (.inl c5), some (.inl v6), none], [], g) (congrArg some (if_pos hc)) ?_
      exact ev_le (L := [some (.inr (.inr 92)), some (.inl c1), some (.inl c2), some (.inl c3), some (.inl c4), some (.inl c5), some (.inl v6), none]) (by simp [Lle]) (hK41_112 v6 g r g' h)
    · rw [if_neg hc] at h
      refine es (46, [some (.inr (.inr 92)), some (.inl c1), some (.inl c2), some (.inl c3), some (.inl c4), some (.inl c5), some (.inl v6), none], [], g) (congrArg some (if_neg hc)) ?_
      refine ev_runs 3 (46, [some (.inr (.inr 92)), some (.inl c1), some (.inl c2), some (.inl c3), some (.inl c4), some (.inl c5), some (.inl v6), none], [], g) (50, [some (.inr (.inr 92)), some (.inl c1), some (.inl c2), some (.inl c3), some (.inl c4), some (.inl c5), some (.inl v6), none], [.inl v6, .inl c1, .inr (.inr 92)], g) rfl ?_
      obtain ⟨q3, hq, h⟩ := Option.bind_eq_some_iff.mp h
      refine ec 89 53 [.inr (.inr 92), .inl c1, .inl v6] [] rfl (ev_Md_code c1 v6 g q3.1 q3.2 hq) ?_
      show Ev 168 53 [some (.inr (.inr 92)), some (.inl c1), some (.inl c2), some (.inl c3), some (.inl c4), some (.inl c5), some (.inl v6), none] [.inl q3.1] q3.2 _ _
      refine ec 99 56 [.inl q3.1] [] rfl (ev_Md_from q3.1 q3.2 _ rfl) ?_
      show Ev 168 56 [some (.inr (.inr 92)), some (.inl c1), some (.inl c2), some (.inl c3), some (.inl c4), some (.inl c5), some (.inl v6), none] [.inl (Md_from q3.1)] q3.2 _ _
      refine ev_runs 1 (56, [some (.inr (.inr 92)), some (.inl c1), some (.inl c2), some (.inl c3), some (.inl c4), some (.inl c5), some (.inl v6), none], [.inl (Md_from q3.1)], q3.2) (58, [some (.inr (.inr 92)), some (.inl c1), some (.inl c2), some (.inl c3), some (.inl c4), some (.inl c5), some (.inl v6), none], [.inl c4, .inl (Md_from q3.1)], q3.2) rfl ?_
      by_cases hc : (Md_from q3.1) = c4
      · rw [if_pos hc] at h
        refine es (112, [some (.inr (.inr 92)), some (.inl c1), some (.inl c2), some (.inl c3), some (.inl c4), some (.inl c5), some (.inl v6), none], [], q3.2) (congrArg some (if_pos hc)) ?_
        exact ev_le (L := [some (.inr (.inr 92)), some (.inl c1), some (.inl c2), some (.inl c3), some (.inl c4), some (.inl c5), some (.inl v6), none]) (by simp [Lle]) (hK41_112 v6 q3.2 r g' h)
      · rw [if_neg hc] at h
        refine es (61, [some (.inr (.inr 92)), some (.inl c1), some (.inl c2), some (.inl c3), some (.inl c4), some (.inl c5), some (.inl v6), none], [], q3.2) (congrArg some (if_neg hc)) ?_
        refine ev_runs 3 (61, [some (.inr (.inr 92)), some (.inl c1), some (.inl c2), some (.inl c3), some (.inl c4), some (.inl c5), some (.inl v6), none], [], q3.2) (65, [some (.inr (.inr 92)), some (.inl c1), some (.inl c2), some (.inl c3), some (.inl c4), some (.inl c5), some (.inl v6), none], [.inl v6, .inl c1, .inr (.inr 92)], q3.2) rfl ?_
        obtain ⟨q4, hq, h⟩ := Option.bind_eq_some_iff.mp h
        refine ec 89 68 [.inr (.inr 92), .inl c1, .inl v6] [] rfl (ev_Md_code c1 v6 q3.2 q4.1 q4.2 hq) ?_
        show Ev 168 68 [some (.inr (.inr 92)), some (.inl c1), some (.inl c2), some (.inl c3), some (.inl c4), some (.inl c5), some (.inl v6), none] [.inl q4.1] q4.2 _ _
        refine ec 100 71 [.inl q4.1] [] rfl (ev_Md_to q4.1 q4.2 _ rfl) ?_
        show Ev 168 71 [some (.inr (.inr 92)), some (.inl c1), some (.inl c2), some (.inl c3), some (.inl c4), some (.inl c5), some (.inl v6), none] [.inl (Md_to q4.1)] q4.2 _ _
        refine ev_runs 1 (71, [some (.inr (.inr 92)), some (.inl c1), some (.inl c2), some (.inl c3), some (.inl c4), some (.inl c5), some (.inl v6), none], [.inl (Md_to q4.1)], q4.2) (73, [some (.inr (.inr 92)), some (.inl c1), some (.inl c2), some (.inl c3), some (.inl c4), some (.inl c5), some (.inl v6), none], [.inl c4, .inl (Md_to q4.1)], q4.2) rfl ?_
        by_cases hc : (Md_to q4.1) = c4
        · rw [if_pos hc] at h
          refine es (112, [some (.inr (.inr 92)), some (.inl c1), some (.inl c2), some (.inl c3), some (.inl c4), some (.inl c5), some (.inl v6), none], [], q4.2) (congrArg some (if_pos hc)) ?_
          exact ev_le (L := [some (.inr (.inr 92)), some (.inl c1), some (.inl c2), some (.inl c3), some (.inl c4), some (.inl c5), some (.inl v6), none]) (by simp [Lle]) (hK41_112 v6 q4.2 r g' h)
        · rw [if_neg hc] at h
          refine es (76, [some (.inr (.inr 92)), some (.inl c1), some (.inl c2), some (.inl c3), some (.inl c4), some (.inl c5), some (.inl v6), none], [], q4.2) (congrArg some (if_neg hc)) ?_
          refine ev_runs 3 (76, [some (.inr (.inr 92)), some (.inl c1), some (.inl c2), some (.inl c3), some (.inl c4), some (.inl c5), some (.inl v6), none], [], q4.2) (80, [some (.inr (.inr 92)), some (.inl c1), some (.inl c2), some (.inl c3), some (.inl c4), some (.inl c5), some (.inl v6), none], [.inl v6, .inl c1, .inr (.inr 92)], q4.2) rfl ?_
          obtain ⟨q5, hq, h⟩ := Option.bind_eq_some_iff.mp h
          refine ec 89 83 [.inr (.inr 92), .inl c1, .inl v6] [] rfl (ev_Md_code c1 v6 q4.2 q5.1 q5.2 hq) ?_
          show Ev 168 83 [some (.inr (.inr 92)), some (.inl c1), some (.inl c2), some (.inl c3), some (.inl c4), some (.inl c5), some (.inl v6), none] [.inl q5.1] q5.2 _ _
          refine ec 99 86 [.inl q5.1] [] rfl (ev_Md_from q5.1 q5.2 _ rfl) ?_
          show Ev 168 86 [some (.inr (.inr 92)), some (.inl c1), some (.inl c2), some (.inl c3), some (.inl c4), some (.inl c5), some (.inl v6), none] [.inl (Md_from q5.1)] q5.2 _ _
          refine ev_runs 1 (86, [some (.inr (.inr 92)), some (.inl c1), some (.inl c2), some (.inl c3), some (.inl c4), some (.inl c5), some (.inl v6), none], [.inl (Md_from q5.1)], q5.2) (88, [some (.inr (.inr 92)), some (.inl c1), some (.inl c2), some (.inl c3), some (.inl c4), some (.inl c5), some (.inl v6), none], [.inl c5, .inl (Md_from q5.1)], q5.2) rfl ?_
          by_cases hc : (Md_from q5.1) = c5
          · rw [if_pos hc] at h
            refine es (112, [some (.inr (.inr 92)), some (.inl c1), some (.inl c2), some (.inl c3), some (.inl c4), some (.inl c5), some (.inl v6), none], [], q5.2) (congrArg some (if_pos hc)) ?_
            exact ev_le (L := [some (.inr (.inr 92)), some (.inl c1), some (.inl c2), some (.inl c3), some (.inl c4), some (.inl c5), some (.inl v6), none]) (by simp [Lle]) (hK41_112 v6 q5.2 r g' h)
          · rw [if_neg hc] at h
            refine es (91, [some (.inr (.inr 92)), some (.inl c1), some (.inl c2), some (.inl c3), some (.inl c4), some (.inl c5), some (.inl v6), none], [], q5.2) (congrArg some (if_neg hc)) ?_
            refine ev_runs 3 (91, [some (.inr (.inr 92)), some (.inl c1), some (.inl c2), some (.inl c3), some (.inl c4), some (.inl c5), some (.inl v6), none], [], q5.2) (95, [some (.inr (.inr 92)), some (.inl c1), some (.inl c2), some (.inl c3), some (.inl c4), some (.inl c5), some (.inl v6), none], [.inl v6, .inl c1, .inr (.inr 92)], q5.2) rfl ?_
            obtain ⟨q6, hq, h⟩ := Option.bind_eq_some_iff.mp h
            refine ec 89 98 [.inr (.inr 92), .inl c1, .inl v6] [] rfl (ev_Md_code c1 v6 q5.2 q6.1 q6.2 hq) ?_
            show Ev 168 98 [some (.inr (.inr 92)), some (.inl c1), some (.inl c2), some (.inl c3), some (.inl c4), some (.inl c5), some (.inl v6), none] [.inl q6.1] q6.2 _ _
            refine ec 100 101 [.inl q6.1] [] rfl (ev_Md_to q6.1 q6.2 _ rfl) ?_
            show Ev 168 101 [some (.inr (.inr 92)), some (.inl c1), some (.inl c2), some (.inl c3), some (.inl c4), some (.inl c5), some (.inl v6), none] [.inl (Md_to q6.1)] q6.2 _ _
            refine ev_runs 1 (101, [some (.inr (.inr 92)), some (.inl c1), some (.inl c2), some (.inl c3), some (.inl c4), some (.inl c5), some (.inl v6), none], [.inl (Md_to q6.1)], q6.2) (103, [some (.inr (.inr 92)), some (.inl c1), some (.inl c2), some (.inl c3), some (.inl c4), some (.inl c5), some (.inl v6), none], [.inl c5, .inl (Md_to q6.1)], q6.2) rfl ?_
            by_cases hc : (Md_to q6.1) = c5
            · rw [if_pos hc] at h
              refine es (112, [some (.inr (.inr 92)), some (.inl c1), some (.inl c2), some (.inl c3), some (.inl c4), some (.inl c5), some (.inl v6), none], [], q6.2) (congrArg some (if_pos hc)) ?_
              exact ev_le (L := [some (.inr (.inr 92)), some (.inl c1), some (.inl c2), some (.inl c3), some (.inl c4), some (.inl c5), some (.inl v6), none]) (by simp [Lle]) (hK41_112 v6 q6.2 r g' h)
            · rw [if_neg hc] at h
              refine es (106, [some (.inr (.inr 92)), some (.inl c1), some (.inl c2), some (.inl c3), some (.inl c4), some (.inl c5), some (.inl v6), none], [], q6.2) (congrArg some (if_neg hc)) ?_
              refine ev_runs 2 (106, [some (.inr (.inr 92)), some (.inl c1), some (.inl c2), some (.inl c3), some (.inl c4), some (.inl c5), some (.inl v6), none], [], q6.2) (41, [some (.inr (.inr 92)), some (.inl c1), some (.inl c2), some (.inl c3), some (.inl c4), some (.inl c5), some (.inl (wr (v6 + (-1)))), none], [], q6.2) rfl ?_
              exact ev_le (L := [some (.inr (.inr 92)), some (.inl c1), some (.inl c2), some (.inl c3), some (.inl c4), some (.inl c5), some (.inl (wr (v6 + (-1)))), none]) (by simp [Lle]) (ih41 (wr (v6 + (-1))) q6.2 r g' h)
set_option maxRecDepth 100000 in
set_option maxHeartbeats 4000000 in
theorem ev_Md_packedOf_l4 (c1 : Int) (K4_173 : Int → Gx → Option (Int × Gx)) (hK4_173 : ∀ (x2 : Int) (g : Gx) (r : Int) (g' : Gx), K4_173 x2 g = some (r, g') → Ev 168 173 [none, none, some (.inl x2), none, none, none, none, none] [] g (some (.inl r)) g') : ∀ (n4 : Nat) (v2 v3 : Int) (g : Gx) (r : Int) (g' : Gx), Md_packedOf_l4 c1 K4_173 n4 v2 v3 g = some (r, g') → Ev 168 4 [some (.inr (.inr 92)), some (.inl c1), some (.inl v2), some (.inl v3), none, none, none, none] [] g (some (.inl r)) g' := by
  intro n4
  induction n4 with
  | zero => intro v2 v3 g r g' h; cases h
  | succ n4 ih4 =>
    intro v2 v3 g r g' h
    rw [Md_packedOf_l4] at h
    refine ev_runs 4 (4, [some (.inr (.inr 92)), some (.inl c1), some (.inl v2), some (.inl v3), none, none, none, none], [], g) (10, [some (.inr (.inr 92)), some (.inl c1), some (.inl v2), some (.inl v3), none, none, none, none], [.inl c1, .inr (.inr 110), .inl v3], g) rfl ?_
    by_cases hc : 0 ≤ c1 ∧ c1 < 30
    · rw [if_pos hc] at h
      refine es (11, [some (.inr (.inr 92)), some (.inl c1), some (.inl v2), some (.inl v3), none, none, none, none], [.inl (g 110 c1.toNat), .inl v3], g) (if_pos hc) ?_
      by_cases hc : (g 110 c1.toNat) ≤ v3
      · rw [if_pos hc] at h
        refine es (173, [some (.inr (.inr 92)), some (.inl c1), some (.inl v2), some (.inl v3), none, none, none, none], [], g) (congrArg some (if_pos hc)) ?_
        exact ev_le (L := [none, none, some (.inl v2), none, none, none, none, none]) (by simp [Lle]) (hK4_173 v2 g r g' h)
      · rw [if_neg hc] at h
        refine es (14, [some (.inr (.inr 92)), some (.inl c1), some (.inl v2), some (.inl v3), none, none, none, none], [], g) (congrArg some (if_neg hc)) ?_
        refine ev_runs 3 (14, [some (.inr (.inr 92)), some (.inl c1), some (.inl v2), some (.inl v3), none, none, none, none], [], g) (17, [some (.inr (.inr 92)), some (.inl c1), some (.inl v2), some (.inl v3), none, none, none, none], [.inl v3, .inl c1, .inr (.inr 92)], g) rfl ?_
        obtain ⟨q1, hq, h⟩ := Option.bind_eq_some_iff.mp h
        refine ec 89 20 [.inr (.inr 92), .inl c1, .inl v3] [] rfl (ev_Md_code c1 v3 g q1.1 q1.2 hq) ?_
        show Ev 168 20 [some (.inr (.inr 92)), some (.inl c1), some (.inl v2), some (.inl v3), none, none, none, none] [.inl q1.1] q1.2 _ _
        refine ec 99 23 [.inl q1.1] [] rfl (ev_Md_from q1.1 q1.2 _ rfl) ?_
        show Ev 168 23 [some (.inr (.inr 92)), some (.inl c1), some (.inl v2), some (.inl v3), none, none, none, none] [.inl (Md_from q1.1)] q1.2 _ _
        refine ev_runs 4 (23, [some (.inr (.inr 92)), some (.inl c1), some (.inl v2), some (.inl v3), none, none, none, none], [.inl (Md_from q1.1)], q1.2) (28, [some (.inr (.inr 92)), some (.inl c1), some (.inl v2), some (.inl v3), some (.inl (Md_from q1.1)), none, none, none], [.inl v3, .inl c1, .inr (.inr 92)], q1.2) rfl ?_
        obtain ⟨q2, hq, h⟩ := Option.bind_eq_some_iff.mp h
        refine ec 89 31 [.inr (.inr 92), .inl c1, .inl v3] [] rfl (ev_Md_code c1 v3 q1.2 q2.1 q2.2 hq) ?_
        show Ev 168 31 [some (.inr (.inr 92)), some (.inl c1), some (.inl v2), some (.inl v3), some (.inl (Md_from q1.1)), none, none, none] [.inl q2.1] q2.2 _ _
        refine ec 100 34 [.inl q2.1] [] rfl (ev_Md_to q2.1 q2.2 _ rfl) ?_
        show Ev 168 34 [some (.inr (.inr 92)), some (.inl c1), some (.inl v2), some (.inl v3), some (.inl (Md_from q1.1)), none, none, none] [.inl (Md_to q2.1)] q2.2 _ _
        refine ev_runs 5 (34, [some (.inr (.inr 92)), some (.inl c1), some (.inl v2), some (.inl v3), some (.inl (Md_from q1.1)), none, none, none], [.inl (Md_to q2.1)], q2.2) (41, [some (.inr (.inr 92)), some (.inl c1), some (.inl v2), some (.inl v3), some (.inl (Md_from q1.1)), some (.inl (Md_to q2.1)), some (.inl (wr (v3 - 1))), none], [], q2.2) rfl ?_
        refine ev_le (L := [some (.inr (.inr 92)), some (.inl c1), some (.inl v2), some (.inl v3), some (.inl (Md_from q1.1)), some (.inl (Md_to q2.1)), some (.inl (wr (v3 - 1))), none]) (by simp [Lle]) ?_
        refine ev_Md_packedOf_l41 c1 v2 v3 (Md_from q1.1) (Md_to q2.1) _ ?_ fu (wr (v3 - 1)) q2.2 r g' h
        · intro x7 g8 r g' h
          refine ev_runs 1 (112, [some (.inr (.inr 92)), some (.inl c1), some (.inl v2), some (.inl v3), some (.inl (Md_from q1.1)), some (.inl (Md_to q2.1)), some (.inl x7), none], [], g8) (114, [some (.inr (.inr 92)), some (.inl c1), some (.inl v2), some (.inl v3), some (.inl (Md_from q1.1)), some (.inl (Md_to q2.1)), some (.inl x7), none], [.inl x7], g8) rfl ?_
          by_cases hc : x7 < 0
          · rw [if_pos hc] at h
            refine es (151, [some (.inr (.inr 92)), some (.inl c1), some (.inl v2), some (.inl v3), some (.inl (Md_from q1.1)), some (.inl (Md_to q2.1)), some (.inl x7), none], [], g8) (congrArg some (if_pos hc)) ?_
            refine ev_runs 10 (151, [some (.inr (.inr 92)), some (.inl c1), some (.inl v2), some (.inl v3), some (.inl (Md_from q1.1)), some (.inl (Md_to q2.1)), some (.inl x7), none], [], g8) (4, [some (.inr (.inr 92)), some (.inl c1), some (.inl (wr (v2 + 1))), some (.inl (wr (v3 + 1))), some (.inl (Md_from q1.1)), some (.inl (Md_to q2.1)), some (.inl x7), some (.inl 0)], [], g8) rfl ?_
            exact ev_le (L := [some (.inr (.inr 92)), some (.inl c1), some (.inl (wr (v2 + 1))), some (.inl (wr (v3 + 1))), none, none, none, none]) (by simp [Lle]) (ih4 (wr (v2 + 1)) (wr (v3 + 1)) g8 r g' h)
          · rw [if_neg hc] at h
            refine es (117, [some (.inr (.inr 92)), some (.inl c1), some (.inl v2), some (.inl v3), some (.inl (Md_from q1.1)), some (.inl (Md_to q2.1)), some (.inl x7), none], [], g8) (congrArg some (if_neg hc)) ?_
            refine ev_runs 3 (117, [some (.inr (.inr 92)), some (.inl c1), some (.inl v2), some (.inl v3), some (.inl (Md_from q1.1)), some (.inl (Md_to q2.1)), some (.inl x7), none], [], g8) (121, [some (.inr (.inr 92)), some (.inl c1), some (.inl v2), some (.inl v3), some (.inl (Md_from q1.1)), some (.inl (Md_to q2.1)), some (.inl x7), none], [.inl x7, .inl c1, .inr (.inr 92)], g8) rfl ?_
            obtain ⟨q9, hq, h⟩ := Option.bind_eq_some_iff.mp h
            refine ec 89 124 [.inr (.inr 92), .inl c1, .inl x7] [] rfl (ev_Md_code c1 x7 g8 q9.1 q9.2 hq) ?_
            show Ev 168 124 [some (.inr (.inr 92)), some (.inl c1), some (.inl v2), some (.inl v3), some (.inl (Md_from q1.1)), some (.inl (Md_to q2.1)), some (.inl x7), none] [.inl q9.1] q9.2 _ _
            refine ec 99 127 [.inl q9.1] [] rfl (ev_Md_from q9.1 q9.2 _ rfl) ?_
            show Ev 168 127 [some (.inr (.inr 92)), some (.inl c1), some (.inl v2), some (.inl v3), some (.inl (Md_from q1.1)), some (.inl (Md_to q2.1)), some (.inl x7), none] [.inl (Md_from q9.1)] q9.2 _ _
            refine ev_runs 1 (127, [some (.inr (.inr 92)), some (.inl c1), some (.inl v2), some (.inl v3), some (.inl (Md_from q1.1)), some (.inl (Md_to q2.1)), some (.inl x7), none], [.inl (Md_from q9.1)], q9.2) (129, [some (.inr (.inr 92)), some (.inl c1), some (.inl v2), some (.inl v3), some (.inl (Md_from q1.1)), some (.inl (Md_to q2.1)), some (.inl x7), none], [.inl (Md_from q1.1), .inl (Md_from q9.1)], q9.2) rfl ?_
            by_cases hc : ¬ (Md_from q9.1) = (Md_from q1.1)
            · rw [if_pos hc] at h
              refine es (151, [some (.inr (.inr 92)), some (.inl c1), some (.inl v2), some (.inl v3), some (.inl (Md_from q1.1)), some (.inl (Md_to q2.1)), some (.inl x7), none], [], q9.2) (congrArg some (if_pos hc)) ?_
              refine ev_runs 10 (151, [some (.inr (.inr 92)), some (.inl c1), some (.inl v2), some (.inl v3), some (.inl (Md_from q1.1)), some (.inl (Md_to q2.1)), some (.inl x7), none], [], q9.2) (4, [some (.inr (.inr 92)), some (.inl c1), some (.inl (wr (v2 + 1))), some (.inl (wr (v3 + 1))), some (.inl (Md_from q1.1)), some (.inl (Md_to q2.1)), some (.inl x7), some (.inl 0)], [], q9.2) rfl ?_
              exact ev_le (L := [some (.inr (.inr 92)), some (.inl c1), some (.inl (wr (v2 + 1))), some (.inl (wr (v3 + 1))), none, none, none, none]) (by simp [Lle]) (ih4 (wr (v2 + 1)) (wr (v3 + 1)) q9.2 r g' h)
            · rw [if_neg hc] at h
              refine es (132, [some (.inr (.inr 92)), some (.inl c1), some (.inl v2), some (.inl v3), some (.inl (Md_from q1.1)), some (.inl (Md_to q2.1)), some (.inl x7), none], [], q9.2) (congrArg some (if_neg hc)) ?_
              refine ev_runs 3 (132, [some (.inr (.inr 92)), some (.inl c1), some (.inl v2), some (.inl v3), some (.inl (Md_from q1.1)), some (.inl (Md_to q2.1)), some (.inl x7), none], [], q9.2) (136, [some (.inr (.inr 92)), some (.inl c1), some (.inl v2), some (.inl v3), some (.inl (Md_from q1.1)), some (.inl (Md_to q2.1)), some (.inl x7), none], [.inl x7, .inl c1, .inr (.inr 92)], q9.2) rfl ?_
              obtain ⟨q10, hq, h⟩ := Option.bind_eq_some_iff.mp h
              refine ec 89 139 [.inr (.inr 92), .inl c1, .inl x7] [] rfl (ev_Md_code c1 x7 q9.2 q10.1 q10.2 hq) ?_
              show Ev 168 139 [some (.inr (.inr 92)), some (.inl c1), some (.inl v2), some (.inl v3), some (.inl (Md_from q1.1)), some (.inl (Md_to q2.1)), some (.inl x7), none] [.inl q10.1] q10.2 _ _
              refine ec 100 142 [.inl q10.1] [] rfl (ev_Md_to q10.1 q10.2 _ rfl) ?_
              show Ev 168 142 [some (.inr (.inr 92)), some (.inl c1), some (.inl v2), some (.inl v3), some (.inl (Md_from q1.1)), some (.inl (Md_to q2.1)), some (.inl x7), none] [.inl (Md_to q10.1)] q10.2 _ _
              refine ev_runs 1 (142, [some (.inr (.inr 92)), some (.inl c1), some (.inl v2), some (.inl v3), some (.inl (Md_from q1.1)), some (.inl (Md_to q2.1)), some (.inl x7), none], [.inl (Md_to q10.1)], q10.2) (144, [some (.inr (.inr 92)), some (.inl c1), some (.inl v2), some (.inl v3), some (.inl (Md_from q1.1)), some (.inl (Md_to q2.1)), some (.inl x7), none], [.inl (Md_to q2.1), .inl (Md_to q10.1)], q10.2) rfl ?_
              obtain ⟨y11, hy11, h⟩ := lett_inv h
              have hjy11 : Ev 168 152 [some (.inr (.inr 92)), some (.inl c1), some (.inl v2), some (.inl v3), none, none, none, none] [.inl y11] q10.2 (some (.inl r)) g' := by
                refine ev_runs 3 (152, [some (.inr (.inr 92)), some (.inl c1), some (.inl v2), some (.inl v3), none, none, none, none], [.inl y11], q10.2) (157, [some (.inr (.inr 92)), some (.inl c1), some (.inl v2), some (.inl v3), none, none, none, some (.inl y11)], [.inl y11, .inl v2], q10.2) rfl ?_
                by_cases hc : y11 = 0
                · rw [if_pos hc] at h
                  refine es (164, [some (.inr (.inr 92)), some (.inl c1), some (.inl v2), some (.inl v3), none, none, none, some (.inl y11)], [.inl v2], q10.2) (congrArg some (if_pos hc)) ?_
                  refine ev_runs 5 (164, [some (.inr (.inr 92)), some (.inl c1), some (.inl v2), some (.inl v3), none, none, none, some (.inl y11)], [.inl v2], q10.2) (4, [some (.inr (.inr 92)), some (.inl c1), some (.inl (wr (v2 + 1))), some (.inl (wr (v3 + 1))), none, none, none, some (.inl y11)], [], q10.2) rfl ?_
                  exact ev_le (L := [some (.inr (.inr 92)), some (.inl c1), some (.inl (wr (v2 + 1))), some (.inl (wr (v3 + 1))), none, none, none, none]) (by simp [Lle]) (ih4 (wr (v2 + 1)) (wr (v3 + 1)) q10.2 r g' h)
                · rw [if_neg hc] at h
                  refine es (160, [some (.inr (.inr 92)), some (.inl c1), some (.inl v2), some (.inl v3), none, none, none, some (.inl y11)], [.inl v2], q10.2) (congrArg some (if_neg hc)) ?_
                  refine ev_runs 6 (160, [some (.inr (.inr 92)), some (.inl c1), some (.inl v2), some (.inl v3), none, none, none, some (.inl y11)], [.inl v2], q10.2) (4, [some (.inr (.inr 92)), some (.inl c1), some (.inl (wr (v2 + 0))), some (.inl (wr (v3 + 1))), none, none, none, some (.inl y11)], [], q10.2) rfl ?_
                  exact ev_le (L := [some (.inr (.inr 92)), some (.inl c1), some (.inl (wr (v2 + 0))), some (.inl (wr (v3 + 1))), none, none, none, none]) (by simp [Lle]) (ih4 (wr (v2 + 0)) (wr (v3 + 1)) q10.2 r g' h)
              by_cases hc : ¬ (Md_to q10.1) = (Md_to q2.1)
              · rw [if_pos hc] at hy11
                refine es (151, [some (.inr (.inr 92)), some (.inl c1), some (.inl v2), some (.inl v3), some (.inl (Md_from q1.1)), some (.inl (Md_to q2.1)), some (.inl x7), none], [], q10.2) (congrArg some (if_pos hc)) ?_
                refine ev_runs 1 (151, [some (.inr (.inr 92)), some (.inl c1), some (.inl v2), some (.inl v3), some (.inl (Md_from q1.1)), some (.inl (Md_to q2.1)), some (.inl x7), none], [], q10.2) (152, [some (.inr (.inr 92)), some (.inl c1), some (.inl v2), some (.inl v3), some (.inl (Md_from q1.1)), some (.inl (Md_to q2.1)), some (.inl x7), none], [.inl 0], q10.2) rfl ?_
                rw [hy11] at hjy11
                exact ev_le (L := [some (.inr (.inr 92)), some (.inl c1), some (.inl v2), some (.inl v3), none, none, none, none]) (by simp [Lle]) hjy11
              · rw [if_neg hc] at hy11
                refine es (147, [some (.inr (.inr 92)), some (.inl c1), some (.inl v2), some (.inl v3), some (.inl (Md_from q1.1)), some (.inl (Md_to q2.1)), some (.inl x7), none], [], q10.2) (congrArg some (if_neg hc)) ?_
                refine ev_runs 2 (147, [some (.inr (.inr 92)), some (.inl c1), some (.inl v2), some (.inl v3), some (.inl (Md_from q1.1)), some (.inl (Md_to q2.1)), some (.inl x7), none], [], q10.2) (152, [some (.inr (.inr 92)), some (.inl c1), some (.inl v2), some (.inl v3), some (.inl (Md_from q1.1)), some (.inl (Md_to q2.1)), some (.inl x7), none], [.inl 1], q10.2) rfl ?_
                rw [hy11] at hjy11
                exact ev_le (L := [some (.inr (.inr 92)), some (.inl c1), some (.inl v2), some (.inl v3), none, none, none, none]) (by simp [Lle]) hjy11
    · rw [if_neg hc] at h; cases h
set_option maxRecDepth 100000 in
set_option maxHeartbeats 4000000 in
theorem ev_Md_packedOf (a1 : Int) (g : Gx) (r : Int) (g' : Gx) (h : Md_packedOf a1 g = some (r, g')) : Ev 168 0 [some (.inr (.inr 92)), some (.inl a1), none, none, none, none, none, none] [] g (some (.inl r)) g' := by
  rw [Md_packedOf] at h
  refine ev_runs 4 (0, [some (.inr (.inr 92)), some (.inl a1), none, none, none, none, none, none], [], g) (4, [some (.inr (.inr 92)), some (.inl a1), some (.inl 0), some (.inl 0), none, none, none, none], [], g) rfl ?_
  refine ev_le (L := [some (.inr (.inr 92)), some (.inl a1), some (.inl 0), some (.inl 0), none, none, none, none]) (by simp [Lle]) ?_
  refine ev_Md_packedOf_l4 a1 _ ?_ fu 0 0 g r g' h
  · intro x12 g13 r g' h
    refine ev_runs 1 (173, [none, none, some (.inl x12), none, none, none, none, none], [], g13) (174, [none, none, some (.inl x12), none, none, none, none, none], [.inl x12], g13) rfl ?_
    cases h
    exact er rfl
set_option maxRecDepth 100000 in
set_option maxHeartbeats 4000000 in
theorem ev_Md_trips (a1 a2 : Int) (g : Gx) (r : Int) (g' : Gx) (h : Md_trips a1 a2 g = some (r, g')) : Ev 169 0 [some (.inr (.inr 92)), some (.inl a1), some (.inl a2), none] [] g (some (.inl r)) g' := by
  rw [Md_trips] at h
  refine ev_runs 1 (0, [some (.inr (.inr 92)), some (.inl a1), some (.inl a2), none], [], g) (1, [some (.inr (.inr 92)), some (.inl a1), some (.inl a2), none], [.inl a1], g) rfl ?_
  refine ec 87 4 [.inl a1] [] rfl (ev_Md_isHistory a1 g _ rfl) ?_
  show Ev 169 4 [some (.inr (.inr 92)), some (.inl a1), some (.inl a2), none] [.inl (Md_isHistory a1)] g _ _
  by_cases hc : (Md_isHistory a1) = 0
  · rw [if_pos hc] at h
    refine es (17, [some (.inr (.inr 92)), some (.inl a1), some (.inl a2), none], [], g) (congrArg some (if_pos hc)) ?_
    refine ev_runs 1 (17, [some (.inr (.inr 92)), some (.inl a1), some (.inl a2), none], [], g) (19, [some (.inr (.inr 92)), some (.inl a1), some (.inl a2), none], [.inl (-2)], g) rfl ?_
    cases h
    exact er rfl
  · rw [if_neg hc] at h
    refine es (7, [some (.inr (.inr 92)), some (.inl a1), some (.inl a2), none], [], g) (congrArg some (if_neg hc)) ?_
    refine ev_runs 4 (7, [some (.inr (.inr 92)), some (.inl a1), some (.inl a2), none], [], g) (11, [some (.inr (.inr 92)), some (.inl a1), some (.inl a2), none], [.inr (.inl 1), .inr (.inl 0), .inr (.inl a2)], g) rfl ?_
    refine ec 4 14 [.inr (.inl a2), .inr (.inl 0), .inr (.inl 1)] [] rfl (ev_Md_in a2 0 1 g _ rfl) ?_
    show Ev 169 14 [some (.inr (.inr 92)), some (.inl a1), some (.inl a2), none] [.inl (Md_in a2 0 1)] g _ _
    by_cases hc : ¬ (Md_in a2 0 1) = 0
    · rw [if_pos hc] at h
      refine es (20, [some (.inr (.inr 92)), some (.inl a1), some (.inl a2), none], [], g) (congrArg some (if_pos hc)) ?_
      refine ev_runs 2 (20, [some (.inr (.inr 92)), some (.inl a1), some (.inl a2), none], [], g) (22, [some (.inr (.inr 92)), some (.inl a1), some (.inl a2), none], [.inl a1, .inr (.inr 92)], g) rfl ?_
      obtain ⟨q1, hq, h⟩ := Option.bind_eq_some_iff.mp h
      refine ec 88 25 [.inr (.inr 92), .inl a1] [] rfl (ev_Md_lacksOne a1 g q1.1 q1.2 hq) ?_
      show Ev 169 25 [some (.inr (.inr 92)), some (.inl a1), some (.inl a2), none] [.inl q1.1] q1.2 _ _
      refine ev_runs 2 (25, [some (.inr (.inr 92)), some (.inl a1), some (.inl a2), none], [.inl q1.1], q1.2) (27, [some (.inr (.inr 92)), some (.inl a1), some (.inl a2), some (.inl q1.1)], [.inl q1.1], q1.2) rfl ?_
      by_cases hc : q1.1 = 0
      · rw [if_pos hc] at h
        refine es (32, [some (.inr (.inr 92)), some (.inl a1), some (.inl a2), some (.inl q1.1)], [], q1.2) (congrArg some (if_pos hc)) ?_
        refine ev_runs 1 (32, [some (.inr (.inr 92)), some (.inl a1), some (.inl a2), some (.inl q1.1)], [], q1.2) (33, [some (.inr (.inr 92)), some (.inl a1), some (.inl a2), some (.inl q1.1)], [.inl a2], q1.2) rfl ?_
        by_cases hc : ¬ a2 = 0
        · rw [if_pos hc] at h
          refine es (44, [some (.inr (.inr 92)), some (.inl a1), some (.inl a2), some (.inl q1.1)], [], q1.2) (congrArg some (if_pos hc)) ?_
          refine ev_runs 2 (44, [some (.inr (.inr 92)), some (.inl a1), some (.inl a2), some (.inl q1.1)], [], q1.2) (46, [some (.inr (.inr 92)), some (.inl a1), some (.inl a2), some (.inl q1.1)], [.inl a1, .inr (.inr 92)], q1.2) rfl ?_
          obtain ⟨q2, hq, h⟩ := Option.bind_eq_some_iff.mp h
          refine ec 168 49 [.inr (.inr 92), .inl a1] [] rfl (ev_Md_packedOf a1 q1.2 q2.1 q2.2 hq) ?_
          show Ev 169 49 [some (.inr (.inr 92)), some (.inl a1), some (.inl a2), some (.inl q1.1)] [.inl q2.1] q2.2 _ _
          cases h
          exact er rfl
        · rw [if_neg hc] at h
          refine es (36, [some (.inr (.inr 92)), some (.inl a1), some (.inl a2), some (.inl q1.1)], [], q1.2) (congrArg some (if_neg hc)) ?_
          refine ev_runs 2 (36, [some (.inr (.inr 92)), some (.inl a1), some (.inl a2), some (.inl q1.1)], [], q1.2) (38, [some (.inr (.inr 92)), some (.inl a1), some (.inl a2), some (.inl q1.1)], [.inl a1, .inr (.inr 92)], q1.2) rfl ?_
          obtain ⟨q3, hq, h⟩ := Option.bind_eq_some_iff.mp h
          refine ec 167 41 [.inr (.inr 92), .inl a1] [] rfl (ev_Md_chainOf a1 q1.2 q3.1 q3.2 hq) ?_
          show Ev 169 41 [some (.inr (.inr 92)), some (.inl a1), some (.inl a2), some (.inl q1.1)] [.inl q3.1] q3.2 _ _
          refine ev_runs 1 (41, [some (.inr (.inr 92)), some (.inl a1), some (.inl a2), some (.inl q1.1)], [.inl q3.1], q3.2) (49, [some (.inr (.inr 92)), some (.inl a1), some (.inl a2), some (.inl q1.1)], [.inl q3.1], q3.2) rfl ?_
          cases h
          exact er rfl
      · rw [if_neg hc] at h
        refine es (30, [some (.inr (.inr 92)), some (.inl a1), some (.inl a2), some (.inl q1.1)], [], q1.2) (congrArg some (if_neg hc)) ?_
        refine ev_runs 1 (30, [some (.inr (.inr 92)), some (.inl a1), some (.inl a2), some (.inl q1.1)], [], q1.2) (31, [some (.inr (.inr 92)), some (.inl a1), some (.inl a2), some (.inl q1.1)], [.inl q1.1], q1.2) rfl ?_
        cases h
        exact er rfl
    · rw [if_neg hc] at h
      refine es (17, [some (.inr (.inr 92)), some (.inl a1), some (.inl a2), none], [], g) (congrArg some (if_neg hc)) ?_
      refine ev_runs 1 (17, [some (.inr (.inr 92)), some (.inl a1), some (.inl a2), none], [], g) (19, [some (.inr (.inr 92)), some (.inl a1), some (.inl a2), none], [.inl (-2)], g) rfl ?_
      cases h
      exact er rfl
set_option maxRecDepth 100000 in
set_option maxHeartbeats 4000000 in
theorem ev_Rn_goWithLost_l14 (c1 : Int) (c2 : Int) (K14_171 : Int → Gx → Option Gx) (hK14_171 : ∀ (x4 : Int) (g : Gx) (g' : Gx), K14_171 x4 g = some g' → Ev 170 171 [some (.inr (.inr 60)), none, some (.inl c2), none, some (.inl x4), none, none, none, none, none] [] g none g') : ∀ (n14 : Nat) (v4 v5 v6 : Int) (g : Gx) (g' : Gx), Rn_goWithLost_l14 c1 c2 K14_171 n14 v4 v5 v6 g = some g' → Ev 170 14 [some (.inr (.inr 60)), some (.inl c1), some (.inl c2), none, some (.inl v4), some (.inl v5), some (.inl v6), none, none, none] [] g none g' := by
  intro n14
  induction n14 with
  | zero => intro v4 v5 v6 g g' h; cases h
  | succ n14 ih14 =>
    intro v4 v5 v6 g g' h
    rw [Rn_goWithLost_l14] at h
    refine ev_runs 4 (14, [some (.inr (.inr 60)), some (.inl c1), some (.inl c2), none, some (.inl v4), some (.inl v5), some (.inl v6), none, none, none], [], g) (21, [some (.inr (.inr 60)), some (.inl c1), some (.inl c2), none, some (.inl v4), some (.inl v5), some (.inl v6), none, none, none], [.inl c1, .inr (.inr 33), .inl v6], g) rfl ?_
    refine ec 84 24 [.inr (.inr 33), .inl c1] [.inl v6] rfl (ev_Hi_length c1 g _ rfl) ?_
    show Ev 170 24 [some (.inr (.inr 60)), some (.inl c1), some (.inl c2), none, some (.inl v4), some (.inl v5), some (.inl v6), none, none, none] [.inl (Hi_length c1 g), .inl v6] g _ _
    by_cases hc : (Hi_length c1 g) ≤ v6
    · rw [if_pos hc] at h
      refine es (171, [some (.inr (.inr 60)), some (.inl c1), some (.inl c2), none, some (.inl v4), some (.inl v5), some (.inl v6), none, none, none], [], g) (congrArg some (if_pos hc)) ?_
      exact ev_le (L := [some (.inr (.inr 60)), none, some (.inl c2), none, some (.inl v4), none, none, none, none, none]) (by simp [Lle]) (hK14_171 v4 g g' h)
    · rw [if_neg hc] at h
      refine es (27, [some (.inr (.inr 60)), some (.inl c1), some (.inl c2), none, some (.inl v4), some (.inl v5), some (.inl v6), none, none, none], [], g) (congrArg some (if_neg hc)) ?_
      refine ev_runs 4 (27, [some (.inr (.inr 60)), some (.inl c1), some (.inl c2), none, some (.inl v4), some (.inl v5), some (.inl v6), none, none, none], [], g) (34, [some (.inr (.inr 60)), some (.inl c1), some (.inl c2), none, some (.inl v4), some (.inl v5), some (.inl v6), none, none, none], [.inl v6, .inl c1, .inr (.inr 33)], g) rfl ?_
      refine ec 85 37 [.inr (.inr 33), .inl c1, .inl v6] [] rfl (ev_Hi_word c1 v6 g _ rfl) ?_
      show Ev 170 37 [some (.inr (.inr 60)), some (.inl c1), some (.inl c2), none, some (.inl v4), some (.inl v5), some (.inl v6), none, none, none] [.inl (Hi_word c1 v6 g)] g _ _
      refine ev_runs 3 (37, [some (.inr (.inr 60)), some (.inl c1), some (.inl c2), none, some (.inl v4), some (.inl v5), some (.inl v6), none, none, none], [.inl (Hi_word c1 v6 g)], g) (42, [some (.inr (.inr 60)), some (.inl c1), some (.inl c2), none, some (.inl v4), some (.inl v5), some (.inl v6), some (.inl (Hi_word c1 v6 g)), none, none], [.inl (Hi_word c1 v6 g), .inl c2], g) rfl ?_
      refine ec 139 45 [.inl c2, .inl (Hi_word c1 v6 g)] [] rfl (ev_Rn_takesPart c2 (Hi_word c1 v6 g) g _ rfl) ?_
      show Ev 170 45 [some (.inr (.inr 60)), some (.inl c1), some (.inl c2), none, some (.inl v4), some (.inl v5), some (.inl v6), some (.inl (Hi_word c1 v6 g)), none, none] [.inl (Rn_takesPart c2 (Hi_word c1 v6 g))] g _ _
      obtain ⟨y1, hy1, h⟩ := lett_inv h
      obtain ⟨y2, hy2, h⟩ := lett_inv h
      have hjy1 : Ev 170 75 [some (.inr (.inr 60)), some (.inl c1), some (.inl c2), none, some (.inl y1), some (.inl y2), some (.inl v6), some (.inl (Hi_word c1 v6 g)), none, none] [] g none g' := by
        refine ev_runs 2 (75, [some (.inr (.inr 60)), some (.inl c1), some (.inl c2), none, some (.inl y1), some (.inl y2), some (.inl v6), some (.inl (Hi_word c1 v6 g)), none, none], [], g) (79, [some (.inr (.inr 60)), some (.inl c1), some (.inl c2), none, some (.inl y1), some (.inl y2), some (.inl v6), some (.inl (Hi_word c1 v6 g)), none, none], [.inl (Hi_word c1 v6 g), .inl y1], g) rfl ?_
        refine ec 92 82 [.inl (Hi_word c1 v6 g)] [.inl y1] rfl (ev_Op_sayer (Hi_word c1 v6 g) g _ rfl) ?_
        show Ev 170 82 [some (.inr (.inr 60)), some (.inl c1), some (.inl c2), none, some (.inl y1), some (.inl y2), some (.inl v6), some (.inl (Hi_word c1 v6 g)), none, none] [.inl (Op_sayer (Hi_word c1 v6 g)), .inl y1] g _ _
        refine ec 64 85 [.inl y1, .inl (Op_sayer (Hi_word c1 v6 g))] [] rfl (ev_Op_has y1 (Op_sayer (Hi_word c1 v6 g)) g _ rfl) ?_
        show Ev 170 85 [some (.inr (.inr 60)), some (.inl c1), some (.inl c2), none, some (.inl y1), some (.inl y2), some (.inl v6), some (.inl (Hi_word c1 v6 g)), none, none] [.inl (Op_has y1 (Op_sayer (Hi_word c1 v6 g)))] g _ _
        obtain ⟨y3, hy3, h⟩ := lett_inv h
        have hjy3 : Ev 170 93 [some (.inr (.inr 60)), some (.inl c1), some (.inl c2), none, some (.inl y1), some (.inl y2), some (.inl v6), some (.inl (Hi_word c1 v6 g)), none, none] [.inl y3] g none g' := by
          refine ev_runs 2 (93, [some (.inr (.inr 60)), some (.inl c1), some (.inl c2), none, some (.inl y1), some (.inl y2), some (.inl v6), some (.inl (Hi_word c1 v6 g)), none, none], [.inl y3], g) (97, [some (.inr (.inr 60)), some (.inl c1), some (.inl c2), none, some (.inl y1), some (.inl y2), some (.inl v6), some (.inl (Hi_word c1 v6 g)), some (.inl y3), none], [.inl y3], g) rfl ?_
          obtain ⟨y4, hy4, h⟩ := lett_inv h
          have hjy4 : Ev 170 118 [some (.inr (.inr 60)), some (.inl c1), some (.inl c2), none, some (.inl y1), some (.inl y2), some (.inl v6), some (.inl (Hi_word c1 v6 g)), some (.inl y3), none] [.inl y4] g none g' := by
            refine ev_runs 3 (118, [some (.inr (.inr 60)), some (.inl c1), some (.inl c2), none, some (.inl y1), some (.inl y2), some (.inl v6), some (.inl (Hi_word c1 v6 g)), some (.inl y3), none], [.inl y4], g) (124, [some (.inr (.inr 60)), some (.inl c1), some (.inl c2), none, some (.inl y1), some (.inl y2), some (.inl v6), some (.inl (Hi_word c1 v6 g)), some (.inl y3), some (.inl y4)], [.inl y4, .inl y1], g) rfl ?_
            obtain ⟨y5, hy5, h⟩ := lett_inv h
            have hjy5 : Ev 170 138 [some (.inr (.inr 60)), some (.inl c1), some (.inl c2), none, none, some (.inl y2), some (.inl v6), none, some (.inl y3), some (.inl y4)] [.inl y5, .inl y1] g none g' := by
              refine ev_runs 6 (138, [some (.inr (.inr 60)), some (.inl c1), some (.inl c2), none, none, some (.inl y2), some (.inl v6), none, some (.inl y3), some (.inl y4)], [.inl y5, .inl y1], g) (148, [some (.inr (.inr 60)), some (.inl c1), some (.inl c2), none, some (.inl (jor y1 y5)), some (.inl y2), some (.inl v6), none, some (.inl y3), some (.inl y4)], [.inl y3, .inl (g 60 8), .inr (.inr 60)], g) rfl ?_
              by_cases hc : y3 = 0
              · rw [if_pos hc] at h
                refine es (160, [some (.inr (.inr 60)), some (.inl c1), some (.inl c2), none, some (.inl (jor y1 y5)), some (.inl y2), some (.inl v6), none, some (.inl y3), some (.inl y4)], [.inl (g 60 8), .inr (.inr 60)], g) (congrArg some (if_pos hc)) ?_
                refine ev_runs 5 (160, [some (.inr (.inr 60)), some (.inl c1), some (.inl c2), none, some (.inl (jor y1 y5)), some (.inl y2), some (.inl v6), none, some (.inl y3), some (.inl y4)], [.inl (g 60 8), .inr (.inr 60)], g) (14, [some (.inr (.inr 60)), some (.inl c1), some (.inl c2), none, some (.inl (jor y1 y5)), some (.inl y2), some (.inl (wr (v6 + 1))), none, some (.inl y3), some (.inl y4)], [], (gset g 60 8 (wr ((g 60 8) + 0)))) rfl ?_
                exact ev_le (L := [some (.inr (.inr 60)), some (.inl c1), some (.inl c2), none, some (.inl (jor y1 y5)), some (.inl y2), some (.inl (wr (v6 + 1))), none, none, none]) (by simp [Lle]) (ih14 (jor y1 y5) y2 (wr (v6 + 1)) (gset g 60 8 (wr ((g 60 8) + 0))) g' h)
              · rw [if_neg hc] at h
                refine es (151, [some (.inr (.inr 60)), some (.inl c1), some (.inl c2), none, some (.inl (jor y1 y5)), some (.inl y2), some (.inl v6), none, some (.inl y3), some (.inl y4)], [.inl (g 60 8), .inr (.inr 60)], g) (congrArg some (if_neg hc)) ?_
                refine ev_runs 1 (151, [some (.inr (.inr 60)), some (.inl c1), some (.inl c2), none, some (.inl (jor y1 y5)), some (.inl y2), some (.inl v6), none, some (.inl y3), some (.inl y4)], [.inl (g 60 8), .inr (.inr 60)], g) (153, [some (.inr (.inr 60)), some (.inl c1), some (.inl c2), none, some (.inl (jor y1 y5)), some (.inl y2), some (.inl v6), none, some (.inl y3), some (.inl y4)], [.inl y4, .inl (g 60 8), .inr (.inr 60)], g) rfl ?_
                by_cases hc : ¬ y4 = 0
                · rw [if_pos hc] at h
                  refine es (160, [some (.inr (.inr 60)), some (.inl c1), some (.inl c2), none, some (.inl (jor y1 y5)), some (.inl y2), some (.inl v6), none, some (.inl y3), some (.inl y4)], [.inl (g 60 8), .inr (.inr 60)], g) (congrArg some (if_pos hc)) ?_
                  refine ev_runs 5 (160, [some (.inr (.inr 60)), some (.inl c1), some (.inl c2), none, some (.inl (jor y1 y5)), some (.inl y2), some (.inl v6), none, some (.inl y3), some (.inl y4)], [.inl (g 60 8), .inr (.inr 60)], g) (14, [some (.inr (.inr 60)), some (.inl c1), some (.inl c2), none, some (.inl (jor y1 y5)), some (.inl y2), some (.inl (wr (v6 + 1))), none, some (.inl y3), some (.inl y4)], [], (gset g 60 8 (wr ((g 60 8) + 0)))) rfl ?_
                  exact ev_le (L := [some (.inr (.inr 60)), some (.inl c1), some (.inl c2), none, some (.inl (jor y1 y5)), some (.inl y2), some (.inl (wr (v6 + 1))), none, none, none]) (by simp [Lle]) (ih14 (jor y1 y5) y2 (wr (v6 + 1)) (gset g 60 8 (wr ((g 60 8) + 0))) g' h)
                · rw [if_neg hc] at h
                  refine es (156, [some (.inr (.inr 60)), some (.inl c1), some (.inl c2), none, some (.inl (jor y1 y5)), some (.inl y2), some (.inl v6), none, some (.inl y3), some (.inl y4)], [.inl (g 60 8), .inr (.inr 60)], g) (congrArg some (if_neg hc)) ?_
                  refine ev_runs 6 (156, [some (.inr (.inr 60)), some (.inl c1), some (.inl c2), none, some (.inl (jor y1 y5)), some (.inl y2), some (.inl v6), none, some (.inl y3), some (.inl y4)], [.inl (g 60 8), .inr (.inr 60)], g) (14, [some (.inr (.inr 60)), some (.inl c1), some (.inl c2), none, some (.inl (jor y1 y5)), some (.inl y2), some (.inl (wr (v6 + 1))), none, some (.inl y3), some (.inl y4)], [], (gset g 60 8 (wr ((g 60 8) + 1)))) rfl ?_
                  exact ev_le (L := [some (.inr (.inr 60)), some (.inl c1), some (.inl c2), none, some (.inl (jor y1 y5)), some (.inl y2), some (.inl (wr (v6 + 1))), none, none, none]) (by simp [Lle]) (ih14 (jor y1 y5) y2 (wr (v6 + 1)) (gset g 60 8 (wr ((g 60 8) + 1))) g' h)
            by_cases hc : y4 = 0
            · rw [if_pos hc] at hy5
              refine es (131, [some (.inr (.inr 60)), some (.inl c1), some (.inl c2), none, some (.inl y1), some (.inl y2), some (.inl v6), some (.inl (Hi_word c1 v6 g)), some (.inl y3), some (.inl y4)], [.inl y1], g) (congrArg some (if_pos hc)) ?_
              refine ev_runs 2 (131, [some (.inr (.inr 60)), some (.inl c1), some (.inl c2), none, some (.inl y1), some (.inl y2), some (.inl v6), some (.inl (Hi_word c1 v6 g)), some (.inl y3), some (.inl y4)], [.inl y1], g) (134, [some (.inr (.inr 60)), some (.inl c1), some (.inl c2), none, some (.inl y1), some (.inl y2), some (.inl v6), some (.inl (Hi_word c1 v6 g)), some (.inl y3), some (.inl y4)], [.inl (Hi_word c1 v6 g), .inl 1, .inl y1], g) rfl ?_
              refine ec 93 137 [.inl (Hi_word c1 v6 g)] [.inl 1, .inl y1] rfl (ev_Op_getter (Hi_word c1 v6 g) g _ rfl) ?_
              show Ev 170 137 [some (.inr (.inr 60)), some (.inl c1), some (.inl c2), none, some (.inl y1), some (.inl y2), some (.inl v6), some (.inl (Hi_word c1 v6 g)), some (.inl y3), some (.inl y4)] [.inl (Op_getter (Hi_word c1 v6 g)), .inl 1, .inl y1] g _ _
              refine ev_runs 1 (137, [some (.inr (.inr 60)), some (.inl c1), some (.inl c2), none, some (.inl y1), some (.inl y2), some (.inl v6), some (.inl (Hi_word c1 v6 g)), some (.inl y3), some (.inl y4)], [.inl (Op_getter (Hi_word c1 v6 g)), .inl 1, .inl y1], g) (138, [some (.inr (.inr 60)), some (.inl c1), some (.inl c2), none, some (.inl y1), some (.inl y2), some (.inl v6), some (.inl (Hi_word c1 v6 g)), some (.inl y3), some (.inl y4)], [.inl (jshl 1 (Op_getter (Hi_word c1 v6 g))), .inl y1], g) rfl ?_
              rw [hy5] at hjy5
              exact ev_le (L := [some (.inr (.inr 60)), some (.inl c1), some (.inl c2), none, none, some (.inl y2), some (.inl v6), none, some (.inl y3), some (.inl y4)]) (by simp [Lle]) hjy5
            · rw [if_neg hc] at hy5
              refine es (127, [some (.inr (.inr 60)), some (.inl c1), some (.inl c2), none, some (.inl y1), some (.inl y2), some (.inl v6), some (.inl (Hi_word c1 v6 g)), some (.inl y3), some (.inl y4)], [.inl y1], g) (congrArg some (if_neg hc)) ?_
              refine ev_runs 2 (127, [some (.inr (.inr 60)), some (.inl c1), some (.inl c2), none, some (.inl y1), some (.inl y2), some (.inl v6), some (.inl (Hi_word c1 v6 g)), some (.inl y3), some (.inl y4)], [.inl y1], g) (138, [some (.inr (.inr 60)), some (.inl c1), some (.inl c2), none, some (.inl y1), some (.inl y2), some (.inl v6), some (.inl (Hi_word c1 v6 g)), some (.inl y3), some (.inl y4)], [.inl 0, .inl y1], g) rfl ?_
              rw [hy5] at hjy5
              exact ev_le (L := [some (.inr (.inr 60)), some (.inl c1), some (.inl c2), none, none, some (.inl y2), some (.inl v6), none, some (.inl y3), some (.inl y4)]) (by simp [Lle]) hjy5
          by_cases hc : y3 = 0
          · rw [if_pos hc] at hy4
            refine es (117, [some (.inr (.inr 60)), some (.inl c1), some (.inl c2), none, some (.inl y1), some (.inl y2), some (.inl v6), some (.inl (Hi_word c1 v6 g)), some (.inl y3), none], [], g) (congrArg some (if_pos hc)) ?_
            refine ev_runs 1 (117, [some (.inr (.inr 60)), some (.inl c1), some (.inl c2), none, some (.inl y1), some (.inl y2), some (.inl v6), some (.inl (Hi_word c1 v6 g)), some (.inl y3), none], [], g) (118, [some (.inr (.inr 60)), some (.inl c1), some (.inl c2), none, some (.inl y1), some (.inl y2), some (.inl v6), some (.inl (Hi_word c1 v6 g)), some (.inl y3), none], [.inl 0], g) rfl ?_
            rw [hy4] at hjy4
            exact ev_le (L := [some (.inr (.inr 60)), some (.inl c1), some (.inl c2), none, some (.inl y1), some (.inl y2), some (.inl v6), some (.inl (Hi_word c1 v6 g)), some (.inl y3), none]) (by simp [Lle]) hjy4
          · rw [if_neg hc] at hy4
            refine es (100, [some (.inr (.inr 60)), some (.inl c1), some (.inl c2), none, some (.inl y1), some (.inl y2), some (.inl v6), some (.inl (Hi_word c1 v6 g)), some (.inl y3), none], [], g) (congrArg some (if_neg hc)) ?_
            refine ev_runs 2 (100, [some (.inr (.inr 60)), some (.inl c1), some (.inl c2), none, some (.inl y1), some (.inl y2), some (.inl v6), some (.inl (Hi_word c1 v6 g)), some (.inl y3), none], [], g) (104, [some (.inr (.inr 60)), some (.inl c1), some (.inl c2), none, some (.inl y1), some (.inl y2), some (.inl v6), some (.inl (Hi_word c1 v6 g)), some (.inl y3), none], [.inl (Hi_word c1 v6 g), .inl y1], g) rfl ?_
            refine ec 93 107 [.inl (Hi_word c1 v6 g)] [.inl y1] rfl (ev_Op_getter (Hi_word c1 v6 g) g _ rfl) ?_
            show Ev 170 107 [some (.inr (.inr 60)), some (.inl c1), some (.inl c2), none, some (.inl y1), some (.inl y2), some (.inl v6), some (.inl (Hi_word c1 v6 g)), some (.inl y3), none] [.inl (Op_getter (Hi_word c1 v6 g)), .inl y1] g _ _
            refine ec 64 110 [.inl y1, .inl (Op_getter (Hi_word c1 v6 g))] [] rfl (ev_Op_has y1 (Op_getter (Hi_word c1 v6 g)) g _ rfl) ?_
            show Ev 170 110 [some (.inr (.inr 60)), some (.inl c1), some (.inl c2), none, some (.inl y1), some (.inl y2), some (.inl v6), some (.inl (Hi_word c1 v6 g)), some (.inl y3), none] [.inl (Op_has y1 (Op_getter (Hi_word c1 v6 g)))] g _ _
            by_cases hc : ¬ (Op_has y1 (Op_getter (Hi_word c1 v6 g))) = 0
            · rw [if_pos hc] at hy4
              refine es (117, [some (.inr (.inr 60)), some (.inl c1), some (.inl c2), none, some (.inl y1), some (.inl y2), some (.inl v6), some (.inl (Hi_word c1 v6 g)), some (.inl y3), none], [], g) (congrArg some (if_pos hc)) ?_
              refine ev_runs 1 (117, [some (.inr (.inr 60)), some (.inl c1), some (.inl c2), none, some (.inl y1), some (.inl y2), some (.inl v6), some (.inl (Hi_word c1 v6 g)), some (.inl y3), none], [], g) (118, [some (.inr (.inr 60)), some (.inl c1), some (.inl c2), none, some (.inl y1), some (.inl y2), some (.inl v6), some (.inl (Hi_word c1 v6 g)), some (.inl y3), none], [.inl 0], g) rfl ?_
              rw [hy4] at hjy4
              exact ev_le (L := [some (.inr (.inr 60)), some (.inl c1), some (.inl c2), none, some (.inl y1), some (.inl y2), some (.inl v6), some (.inl (Hi_word c1 v6 g)), some (.inl y3), none]) (by simp [Lle]) hjy4
            · rw [if_neg hc] at hy4
              refine es (113, [some (.inr (.inr 60)), some (.inl c1), some (.inl c2), none, some (.inl y1), some (.inl y2), some (.inl v6), some (.inl (Hi_word c1 v6 g)), some (.inl y3), none], [], g) (congrArg some (if_neg hc)) ?_
              refine ev_runs 2 (113, [some (.inr (.inr 60)), some (.inl c1), some (.inl c2), none, some (.inl y1), some (.inl y2), some (.inl v6), some (.inl (Hi_word c1 v6 g)), some (.inl y3), none], [], g) (118, [some (.inr (.inr 60)), some (.inl c1), some (.inl c2), none, some (.inl y1), some (.inl y2), some (.inl v6), some (.inl (Hi_word c1 v6 g)), some (.inl y3), none], [.inl 1], g) rfl ?_
              rw [hy4] at hjy4
              exact ev_le (L := [some (.inr (.inr 60)), some (.inl c1), some (.inl c2), none, some (.inl y1), some (.inl y2), some (.inl v6), some (.inl (Hi_word c1 v6 g)), some (.inl y3), none]) (by simp [Lle]) hjy4
        by_cases hc : ¬ (Op_has y1 (Op_sayer (Hi_word c1 v6 g))) = 0
        · rw [if_pos hc] at hy3
          refine es (92, [some (.inr (.inr 60)), some (.inl c1), some (.inl c2), none, some (.inl y1), some (.inl y2), some (.inl v6), some (.inl (Hi_word c1 v6 g)), none, none], [], g) (congrArg some (if_pos hc)) ?_
          refine ev_runs 1 (92, [some (.inr (.inr 60)), some (.inl c1), some (.inl c2), none, some (.inl y1), some (.inl y2), some (.inl v6), some (.inl (Hi_word c1 v6 g)), none, none], [], g) (93, [some (.inr (.inr 60)), some (.inl c1), some (.inl c2), none, some (.inl y1), some (.inl y2), some (.inl v6), some (.inl (Hi_word c1 v6 g)), none, none], [.inl 0], g) rfl ?_
          rw [hy3] at hjy3
          exact ev_le (L := [some (.inr (.inr 60)), some (.inl c1), some (.inl c2), none, some (.inl y1), some (.inl y2), some (.inl v6), some (.inl (Hi_word c1 v6 g)), none, none]) (by simp [Lle]) hjy3
        · rw [if_neg hc] at hy3
          refine es (88, [some (.inr (.inr 60)), some (.inl c1), some (.inl c2), none, some (.inl y1), some (.inl y2), some (.inl v6), some (.inl (Hi_word c1 v6 g)), none, none], [], g) (congrArg some (if_neg hc)) ?_
          refine ev_runs 2 (88, [some (.inr (.inr 60)), some (.inl c1), some (.inl c2), none, some (.inl y1), some (.inl y2), some (.inl v6), some (.inl (Hi_word c1 v6 g)), none, none], [], g) (93, [some (.inr (.inr 60)), some (.inl c1), some (.inl c2), none, some (.inl y1), some (.inl y2), some (.inl v6), some (.inl (Hi_word c1 v6 g)), none, none], [.inl 1], g) rfl ?_
          rw [hy3] at hjy3
          exact ev_le (L := [some (.inr (.inr 60)), some (.inl c1), some (.inl c2), none, some (.inl y1), some (.inl y2), some (.inl v6), some (.inl (Hi_word c1 v6 g)), none, none]) (by simp [Lle]) hjy3
      by_cases hc : (Rn_takesPart c2 (Hi_word c1 v6 g)) = 0
      · rw [if_pos hc] at hy1; rw [if_pos hc] at hy2
        refine es (75, [some (.inr (.inr 60)), some (.inl c1), some (.inl c2), none, some (.inl v4), some (.inl v5), some (.inl v6), some (.inl (Hi_word c1 v6 g)), none, none], [], g) (congrArg some (if_pos hc)) ?_
        rw [hy1] at hjy1
        rw [hy2] at hjy1
        exact ev_le (L := [some (.inr (.inr 60)), some (.inl c1), some (.inl c2), none, some (.inl v4), some (.inl v5), some (.inl v6), some (.inl (Hi_word c1 v6 g)), none, none]) (by simp [Lle]) hjy1
      · rw [if_neg hc] at hy1; rw [if_neg hc] at hy2
        refine es (48, [some (.inr (.inr 60)), some (.inl c1), some (.inl c2), none, some (.inl v4), some (.inl v5), some (.inl v6), some (.inl (Hi_word c1 v6 g)), none, none], [], g) (congrArg some (if_neg hc)) ?_
        refine ev_runs 2 (48, [some (.inr (.inr 60)), some (.inl c1), some (.inl c2), none, some (.inl v4), some (.inl v5), some (.inl v6), some (.inl (Hi_word c1 v6 g)), none, none], [], g) (52, [some (.inr (.inr 60)), some (.inl c1), some (.inl c2), none, some (.inl v4), some (.inl v5), some (.inl v6), some (.inl (Hi_word c1 v6 g)), none, none], [.inl v5, .inl v4], g) rfl ?_
        by_cases hc : ¬ v5 = 0
        · rw [if_pos hc] at hy1; rw [if_pos hc] at hy2
          refine es (61, [some (.inr (.inr 60)), some (.inl c1), some (.inl c2), none, some (.inl v4), some (.inl v5), some (.inl v6), some (.inl (Hi_word c1 v6 g)), none, none], [.inl v4], g) (congrArg some (if_pos hc)) ?_
          refine ev_runs 9 (61, [some (.inr (.inr 60)), some (.inl c1), some (.inl c2), none, some (.inl v4), some (.inl v5), some (.inl v6), some (.inl (Hi_word c1 v6 g)), none, none], [.inl v4], g) (75, [some (.inr (.inr 60)), some (.inl c1), some (.inl c2), none, some (.inl (jor v4 0)), some (.inl (imax 0 (wr (v5 - 1)))), some (.inl v6), some (.inl (Hi_word c1 v6 g)), none, none], [], g) rfl ?_
          rw [hy1] at hjy1
          rw [hy2] at hjy1
          exact ev_le (L := [some (.inr (.inr 60)), some (.inl c1), some (.inl c2), none, some (.inl (jor v4 0)), some (.inl (imax 0 (wr (v5 - 1)))), some (.inl v6), some (.inl (Hi_word c1 v6 g)), none, none]) (by simp [Lle]) hjy1
        · rw [if_neg hc] at hy1; rw [if_neg hc] at hy2
          refine es (55, [some (.inr (.inr 60)), some (.inl c1), some (.inl c2), none, some (.inl v4), some (.inl v5), some (.inl v6), some (.inl (Hi_word c1 v6 g)), none, none], [.inl v4], g) (congrArg some (if_neg hc)) ?_
          refine ev_runs 12 (55, [some (.inr (.inr 60)), some (.inl c1), some (.inl c2), none, some (.inl v4), some (.inl v5), some (.inl v6), some (.inl (Hi_word c1 v6 g)), none, none], [.inl v4], g) (75, [some (.inr (.inr 60)), some (.inl c1), some (.inl c2), none, some (.inl (jor v4 (jshl 1 c2))), some (.inl (imax 0 (wr (v5 - 1)))), some (.inl v6), some (.inl (Hi_word c1 v6 g)), none, none], [], g) rfl ?_
          rw [hy1] at hjy1
          rw [hy2] at hjy1
          exact ev_le (L := [some (.inr (.inr 60)), some (.inl c1), some (.inl c2), none, some (.inl (jor v4 (jshl 1 c2))), some (.inl (imax 0 (wr (v5 - 1)))), some (.inl v6), some (.inl (Hi_word c1 v6 g)), none, none]) (by simp [Lle]) hjy1
set_option maxRecDepth 100000 in
set_option maxHeartbeats 4000000 in
theorem ev_Rn_goWithLost (a1 a2 a3 : Int) (g : Gx) (g' : Gx) (h : Rn_goWithLost a1 a2 a3 g = some g') : Ev 170 0 [some (.inr (.inr 60)), some (.inl a1), some (.inl a2), some (.inl a3), none, none, none, none, none, none] [] g none g' := by
  rw [Rn_goWithLost] at h
  refine ev_runs 9 (0, [some (.inr (.inr 60)), some (.inl a1), some (.inl a2), some (.inl a3), none, none, none, none, none, none], [], g) (14, [some (.inr (.inr 60)), some (.inl a1), some (.inl a2), some (.inl a3), some (.inl 0), some (.inl a3), some (.inl 0), none, none, none], [], (gset g 60 8 0)) rfl ?_
  refine ev_le (L := [some (.inr (.inr 60)), some (.inl a1), some (.inl a2), none, some (.inl 0), some (.inl a3), some (.inl 0), none, none, none]) (by simp [Lle]) ?_
  refine ev_Rn_goWithLost_l14 a1 a2 _ ?_ fu 0 a3 0 (gset g 60 8 0) g' h
  · intro x6 g7 g' h
    refine ev_runs 9 (171, [some (.inr (.inr 60)), none, some (.inl a2), none, some (.inl x6), none, none, none, none, none], [], g7) (183, [some (.inr (.inr 60)), none, some (.inl a2), none, some (.inl x6), none, none, none, none, none], [], (gset g7 60 7 (jand x6 (jxor (jshl 1 a2) (-1))))) rfl ?_
    cases h
    exact er rfl
set_option maxRecDepth 100000 in
set_option maxHeartbeats 4000000 in
theorem ev_Rn_stuck (g : Gx) (r : Int) (h : Rn_stuck g = r) : Ev 171 0 [some (.inr (.inr 60))] [] g (some (.inl r)) g := by
  rw [Rn_stuck] at h
  refine ev_runs 2 (0, [some (.inr (.inr 60))], [], g) (4, [some (.inr (.inr 60))], [.inl (g 60 7)], g) rfl ?_
  subst h
  exact er rfl
set_option maxRecDepth 100000 in
set_option maxHeartbeats 4000000 in
theorem ev_Rn_neverGot (g : Gx) (r : Int) (h : Rn_neverGot g = r) : Ev 172 0 [some (.inr (.inr 60))] [] g (some (.inl r)) g := by
  rw [Rn_neverGot] at h
  refine ev_runs 2 (0, [some (.inr (.inr 60))], [], g) (4, [some (.inr (.inr 60))], [.inl (g 60 8)], g) rfl ?_
  subst h
  exact er rfl
set_option maxRecDepth 100000 in
set_option maxHeartbeats 4000000 in
theorem ev_Op_lost (a1 a2 a3 a4 : Int) (g : Gx) (r : Int) (g' : Gx) (h : Op_lost a1 a2 a3 a4 g = some (r, g')) : Ev 173 0 [some (.inr (.inr 0)), some (.inl a1), some (.inl a2), some (.inl a3), some (.inl a4), none] [] g (some (.inl r)) g' := by
  rw [Op_lost] at h
  refine ev_runs 1 (0, [some (.inr (.inr 0)), some (.inl a1), some (.inl a2), some (.inl a3), some (.inl a4), none], [], g) (1, [some (.inr (.inr 0)), some (.inl a1), some (.inl a2), some (.inl a3), some (.inl a4), none], [.inl a1], g) rfl ?_
  refine ec 83 4 [.inl a1] [] rfl (ev_Op_isHistory a1 g _ rfl) ?_
  show Ev 173 4 [some (.inr (.inr 0)), some (.inl a1), some (.inl a2), some (.inl a3), some (.inl a4), none] [.inl (Op_isHistory a1)] g _ _
  by_cases hc : (Op_isHistory a1) = 0
  · rw [if_pos hc] at h
    refine es (29, [some (.inr (.inr 0)), some (.inl a1), some (.inl a2), some (.inl a3), some (.inl a4), none], [], g) (congrArg some (if_pos hc)) ?_
    refine ev_runs 1 (29, [some (.inr (.inr 0)), some (.inl a1), some (.inl a2), some (.inl a3), some (.inl a4), none], [], g) (31, [some (.inr (.inr 0)), some (.inl a1), some (.inl a2), some (.inl a3), some (.inl a4), none], [.inl (-2)], g) rfl ?_
    cases h
    exact er rfl
  · rw [if_neg hc] at h
    refine es (7, [some (.inr (.inr 0)), some (.inl a1), some (.inl a2), some (.inl a3), some (.inl a4), none], [], g) (congrArg some (if_neg hc)) ?_
    refine ev_runs 1 (7, [some (.inr (.inr 0)), some (.inl a1), some (.inl a2), some (.inl a3), some (.inl a4), none], [], g) (8, [some (.inr (.inr 0)), some (.inl a1), some (.inl a2), some (.inl a3), some (.inl a4), none], [.inl a2], g) rfl ?_
    refine ec 91 11 [.inl a2] [] rfl (ev_Op_isTalker a2 g _ rfl) ?_
    show Ev 173 11 [some (.inr (.inr 0)), some (.inl a1), some (.inl a2), some (.inl a3), some (.inl a4), none] [.inl (Op_isTalker a2)] g _ _
    by_cases hc : (Op_isTalker a2) = 0
    · rw [if_pos hc] at h
      refine es (29, [some (.inr (.inr 0)), some (.inl a1), some (.inl a2), some (.inl a3), some (.inl a4), none], [], g) (congrArg some (if_pos hc)) ?_
      refine ev_runs 1 (29, [some (.inr (.inr 0)), some (.inl a1), some (.inl a2), some (.inl a3), some (.inl a4), none], [], g) (31, [some (.inr (.inr 0)), some (.inl a1), some (.inl a2), some (.inl a3), some (.inl a4), none], [.inl (-2)], g) rfl ?_
      cases h
      exact er rfl
    · rw [if_neg hc] at h
      refine es (14, [some (.inr (.inr 0)), some (.inl a1), some (.inl a2), some (.inl a3), some (.inl a4), none], [], g) (congrArg some (if_neg hc)) ?_
      refine ev_runs 1 (14, [some (.inr (.inr 0)), some (.inl a1), some (.inl a2), some (.inl a3), some (.inl a4), none], [], g) (15, [some (.inr (.inr 0)), some (.inl a1), some (.inl a2), some (.inl a3), some (.inl a4), none], [.inl a3], g) rfl ?_
      by_cases hc : a3 < 0
      · rw [if_pos hc] at h
        refine es (29, [some (.inr (.inr 0)), some (.inl a1), some (.inl a2), some (.inl a3), some (.inl a4), none], [], g) (congrArg some (if_pos hc)) ?_
        refine ev_runs 1 (29, [some (.inr (.inr 0)), some (.inl a1), some (.inl a2), some (.inl a3), some (.inl a4), none], [], g) (31, [some (.inr (.inr 0)), some (.inl a1), some (.inl a2), some (.inl a3), some (.inl a4), none], [.inl (-2)], g) rfl ?_
        cases h
        exact er rfl
      · rw [if_neg hc] at h
        refine es (18, [some (.inr (.inr 0)), some (.inl a1), some (.inl a2), some (.inl a3), some (.inl a4), none], [], g) (congrArg some (if_neg hc)) ?_
        refine ev_runs 1 (18, [some (.inr (.inr 0)), some (.inl a1), some (.inl a2), some (.inl a3), some (.inl a4), none], [], g) (20, [some (.inr (.inr 0)), some (.inl a1), some (.inl a2), some (.inl a3), some (.inl a4), none], [.inl a4], g) rfl ?_
        by_cases hc : a4 < 0
        · rw [if_pos hc] at h
          refine es (29, [some (.inr (.inr 0)), some (.inl a1), some (.inl a2), some (.inl a3), some (.inl a4), none], [], g) (congrArg some (if_pos hc)) ?_
          refine ev_runs 1 (29, [some (.inr (.inr 0)), some (.inl a1), some (.inl a2), some (.inl a3), some (.inl a4), none], [], g) (31, [some (.inr (.inr 0)), some (.inl a1), some (.inl a2), some (.inl a3), some (.inl a4), none], [.inl (-2)], g) rfl ?_
          cases h
          exact er rfl
        · rw [if_neg hc] at h
          refine es (23, [some (.inr (.inr 0)), some (.inl a1), some (.inl a2), some (.inl a3), some (.inl a4), none], [], g) (congrArg some (if_neg hc)) ?_
          refine ev_runs 2 (23, [some (.inr (.inr 0)), some (.inl a1), some (.inl a2), some (.inl a3), some (.inl a4), none], [], g) (26, [some (.inr (.inr 0)), some (.inl a1), some (.inl a2), some (.inl a3), some (.inl a4), none], [.inl 1, .inl a4], g) rfl ?_
          by_cases hc : a4 ≤ 1
          · rw [if_pos hc] at h
            refine es (32, [some (.inr (.inr 0)), some (.inl a1), some (.inl a2), some (.inl a3), some (.inl a4), none], [], g) (congrArg some (if_pos hc)) ?_
            refine ev_runs 2 (32, [some (.inr (.inr 0)), some (.inl a1), some (.inl a2), some (.inl a3), some (.inl a4), none], [], g) (34, [some (.inr (.inr 0)), some (.inl a1), some (.inl a2), some (.inl a3), some (.inl a4), none], [.inl a1, .inr (.inr 0)], g) rfl ?_
            obtain ⟨q1, hq, h⟩ := Option.bind_eq_some_iff.mp h
            refine ec 75 37 [.inr (.inr 0), .inl a1] [] rfl (ev_Op_hindrance a1 g q1.1 q1.2 hq) ?_
            show Ev 173 37 [some (.inr (.inr 0)), some (.inl a1), some (.inl a2), some (.inl a3), some (.inl a4), none] [.inl q1.1] q1.2 _ _
            refine ev_runs 2 (37, [some (.inr (.inr 0)), some (.inl a1), some (.inl a2), some (.inl a3), some (.inl a4), none], [.inl q1.1], q1.2) (41, [some (.inr (.inr 0)), some (.inl a1), some (.inl a2), some (.inl a3), some (.inl a4), some (.inl q1.1)], [.inl q1.1], q1.2) rfl ?_
            by_cases hc : q1.1 = 0
            · rw [if_pos hc] at h
              refine es (47, [some (.inr (.inr 0)), some (.inl a1), some (.inl a2), some (.inl a3), some (.inl a4), some (.inl q1.1)], [], q1.2) (congrArg some (if_pos hc)) ?_
              refine ev_runs 5 (47, [some (.inr (.inr 0)), some (.inl a1), some (.inl a2), some (.inl a3), some (.inl a4), some (.inl q1.1)], [], q1.2) (54, [some (.inr (.inr 0)), some (.inl a1), some (.inl a2), some (.inl a3), some (.inl a4), some (.inl q1.1)], [.inl a3, .inl a2, .inl a1, .inr (.inr 60)], q1.2) rfl ?_
              obtain ⟨g2, hq, h⟩ := Option.bind_eq_some_iff.mp h
              refine ec 170 57 [.inr (.inr 60), .inl a1, .inl a2, .inl a3] [] rfl (ev_Rn_goWithLost a1 a2 a3 q1.2 g2 hq) ?_
              show Ev 173 57 [some (.inr (.inr 0)), some (.inl a1), some (.inl a2), some (.inl a3), some (.inl a4), some (.inl q1.1)] [] g2 _ _
              refine ev_runs 1 (57, [some (.inr (.inr 0)), some (.inl a1), some (.inl a2), some (.inl a3), some (.inl a4), some (.inl q1.1)], [], g2) (59, [some (.inr (.inr 0)), some (.inl a1), some (.inl a2), some (.inl a3), some (.inl a4), some (.inl q1.1)], [.inl a4], g2) rfl ?_
              by_cases hc : ¬ a4 = 0
              · rw [if_pos hc] at h
                refine es (72, [some (.inr (.inr 0)), some (.inl a1), some (.inl a2), some (.inl a3), some (.inl a4), some (.inl q1.1)], [], g2) (congrArg some (if_pos hc)) ?_
                refine ev_runs 2 (72, [some (.inr (.inr 0)), some (.inl a1), some (.inl a2), some (.inl a3), some (.inl a4), some (.inl q1.1)], [], g2) (76, [some (.inr (.inr 0)), some (.inl a1), some (.inl a2), some (.inl a3), some (.inl a4), some (.inl q1.1)], [.inr (.inr 60)], g2) rfl ?_
                refine ec 172 79 [.inr (.inr 60)] [] rfl (ev_Rn_neverGot g2 _ rfl) ?_
                show Ev 173 79 [some (.inr (.inr 0)), some (.inl a1), some (.inl a2), some (.inl a3), some (.inl a4), some (.inl q1.1)] [.inl (Rn_neverGot g2)] g2 _ _
                cases h
                exact er rfl
              · rw [if_neg hc] at h
                refine es (62, [some (.inr (.inr 0)), some (.inl a1), some (.inl a2), some (.inl a3), some (.inl a4), some (.inl q1.1)], [], g2) (congrArg some (if_neg hc)) ?_
                refine ev_runs 2 (62, [some (.inr (.inr 0)), some (.inl a1), some (.inl a2), some (.inl a3), some (.inl a4), some (.inl q1.1)], [], g2) (66, [some (.inr (.inr 0)), some (.inl a1), some (.inl a2), some (.inl a3), some (.inl a4), some (.inl q1.1)], [.inr (.inr 60)], g2) rfl ?_
                refine ec 171 69 [.inr (.inr 60)] [] rfl (ev_Rn_stuck g2 _ rfl) ?_
                show Ev 173 69 [some (.inr (.inr 0)), some (.inl a1), some (.inl a2), some (.inl a3), some (.inl a4), some (.inl q1.1)] [.inl (Rn_stuck g2)] g2 _ _
                refine ev_runs 1 (69, [some (.inr (.inr 0)), some (.inl a1), some (.inl a2), some (.inl a3), some (.inl a4), some (.inl q1.1)], [.inl (Rn_stuck g2)], g2) (79, [some (.inr (.inr 0)), some (.inl a1), some (.inl a2), some (.inl a3), some (.inl a4), some (.inl q1.1)], [.inl (Rn_stuck g2)], g2) rfl ?_
                cases h
                exact er rfl
            · rw [if_neg hc] at h
              refine es (44, [some (.inr (.inr 0)), some (.inl a1), some (.inl a2), some (.inl a3), some (.inl a4), some (.inl q1.1)], [], q1.2) (congrArg some (if_neg hc)) ?_
              refine ev_runs 1 (44, [some (.inr (.inr 0)), some (.inl a1), some (.inl a2), some (.inl a3), some (.inl a4), some (.inl q1.1)], [], q1.2) (46, [some (.inr (.inr 0)), some (.inl a1), some (.inl a2), some (.inl a3), some (.inl a4), some (.inl q1.1)], [.inl q1.1], q1.2) rfl ?_
              cases h
              exact er rfl
          · rw [if_neg hc] at h
            refine es (29, [some (.inr (.inr 0)), some (.inl a1), some (.inl a2), some (.inl a3), some (.inl a4), none], [], g) (congrArg some (if_neg hc)) ?_
            refine ev_runs 1 (29, [some (.inr (.inr 0)), some (.inl a1), some (.inl a2), some (.inl a3), some (.inl a4), none], [], g) (31, [some (.inr (.inr 0)), some (.inl a1), some (.inl a2), some (.inl a3), some (.inl a4), none], [.inl (-2)], g) rfl ?_
            cases h
            exact er rfl
set_option maxRecDepth 100000 in
set_option maxHeartbeats 4000000 in
theorem ev_Md_lost_l69 (c1 : Int) (c2 : Int) (c3 : Int) (c4 : Int) (K69_114 : Int → Gx → Option (Int × Gx)) (hK69_114 : ∀ (x6 : Int) (g : Gx) (r : Int) (g' : Gx), K69_114 x6 g = some (r, g') → Ev 174 114 [some (.inr (.inr 92)), some (.inl c1), some (.inl c2), some (.inl c3), some (.inl c4), none, some (.inl x6), none, none, none] [] g (some (.inl r)) g') : ∀ (n69 : Nat) (v6 v7 : Int) (g : Gx) (r : Int) (g' : Gx), Md_lost_l69 c1 c2 c3 c4 K69_114 n69 v6 v7 g = some (r, g') → Ev 174 69 [some (.inr (.inr 92)), some (.inl c1), some (.inl c2), some (.inl c3), some (.inl c4), none, some (.inl v6), some (.inl v7), none, none] [] g (some (.inl r)) g' := by
  intro n69
  induction n69 with
  | zero => intro v6 v7 g r g' h; cases h
  | succ n69 ih69 =>
    intro v6 v7 g r g' h
    rw [Md_lost_l69] at h
    refine ev_runs 2 (69, [some (.inr (.inr 92)), some (.inl c1), some (.inl c2), some (.inl c3), some (.inl c4), none, some (.inl v6), some (.inl v7), none, none], [], g) (73, [some (.inr (.inr 92)), some (.inl c1), some (.inl c2), some (.inl c3), some (.inl c4), none, some (.inl v6), some (.inl v7), none, none], [.inl 6, .inl v7], g) rfl ?_
    by_cases hc : 6 ≤ v7
    · rw [if_pos hc] at h
      refine es (114, [some (.inr (.inr 92)), some (.inl c1), some (.inl c2), some (.inl c3), some (.inl c4), none, some (.inl v6), some (.inl v7), none, none], [], g) (congrArg some (if_pos hc)) ?_
      exact ev_le (L := [some (.inr (.inr 92)), some (.inl c1), some (.inl c2), some (.inl c3), some (.inl c4), none, some (.inl v6), none, none, none]) (by simp [Lle]) (hK69_114 v6 g r g' h)
    · rw [if_neg hc] at h
      refine es (76, [some (.inr (.inr 92)), some (.inl c1), some (.inl c2), some (.inl c3), some (.inl c4), none, some (.inl v6), some (.inl v7), none, none], [], g) (congrArg some (if_neg hc)) ?_
      refine ev_runs 5 (76, [some (.inr (.inr 92)), some (.inl c1), some (.inl c2), some (.inl c3), some (.inl c4), none, some (.inl v6), some (.inl v7), none, none], [], g) (83, [some (.inr (.inr 92)), some (.inl c1), some (.inl c2), some (.inl c3), some (.inl c4), none, some (.inl v6), some (.inl v7), none, none], [.inl c2, .inl v7, .inl c1, .inl v7, .inr (.inr 92)], g) rfl ?_
      obtain ⟨y4, hy4, h⟩ := lett_inv h
      have hjy4 : Ev 174 92 [some (.inr (.inr 92)), some (.inl c1), some (.inl c2), some (.inl c3), some (.inl c4), none, some (.inl v6), some (.inl v7), none, none] [.inl y4, .inl c1, .inl v7, .inr (.inr 92)] g (some (.inl r)) g' := by
        obtain ⟨q5, hq, h⟩ := Option.bind_eq_some_iff.mp h
        refine ec 150 95 [.inr (.inr 92), .inl v7, .inl c1, .inl y4] [] rfl (ev_Md_can v7 c1 y4 g q5.1 q5.2 hq) ?_
        show Ev 174 95 [some (.inr (.inr 92)), some (.inl c1), some (.inl c2), some (.inl c3), some (.inl c4), none, some (.inl v6), some (.inl v7), none, none] [.inl q5.1] q5.2 _ _
        by_cases hc : q5.1 = 0
        · rw [if_pos hc] at h
          refine es (108, [some (.inr (.inr 92)), some (.inl c1), some (.inl c2), some (.inl c3), some (.inl c4), none, some (.inl v6), some (.inl v7), none, none], [], q5.2) (congrArg some (if_pos hc)) ?_
          refine ev_runs 2 (108, [some (.inr (.inr 92)), some (.inl c1), some (.inl c2), some (.inl c3), some (.inl c4), none, some (.inl v6), some (.inl v7), none, none], [], q5.2) (69, [some (.inr (.inr 92)), some (.inl c1), some (.inl c2), some (.inl c3), some (.inl c4), none, some (.inl v6), some (.inl (wr (v7 + 1))), none, none], [], q5.2) rfl ?_
          exact ev_le (L := [some (.inr (.inr 92)), some (.inl c1), some (.inl c2), some (.inl c3), some (.inl c4), none, some (.inl v6), some (.inl (wr (v7 + 1))), none, none]) (by simp [Lle]) (ih69 v6 (wr (v7 + 1)) q5.2 r g' h)
        · rw [if_neg hc] at h
          refine es (98, [some (.inr (.inr 92)), some (.inl c1), some (.inl c2), some (.inl c3), some (.inl c4), none, some (.inl v6), some (.inl v7), none, none], [], q5.2) (congrArg some (if_neg hc)) ?_
          refine ev_runs 3 (98, [some (.inr (.inr 92)), some (.inl c1), some (.inl c2), some (.inl c3), some (.inl c4), none, some (.inl v6), some (.inl v7), none, none], [], q5.2) (102, [some (.inr (.inr 92)), some (.inl c1), some (.inl c2), some (.inl c3), some (.inl c4), none, some (.inl v6), some (.inl v7), none, none], [.inl c1, .inl v7, .inr (.inr 92)], q5.2) rfl ?_
          obtain ⟨g6, hq, h⟩ := Option.bind_eq_some_iff.mp h
          refine ec 151 105 [.inr (.inr 92), .inl v7, .inl c1] [] rfl (ev_Md_does v7 c1 q5.2 g6 hq) ?_
          show Ev 174 105 [some (.inr (.inr 92)), some (.inl c1), some (.inl c2), some (.inl c3), some (.inl c4), none, some (.inl v6), some (.inl v7), none, none] [] g6 _ _
          refine ev_runs 4 (105, [some (.inr (.inr 92)), some (.inl c1), some (.inl c2), some (.inl c3), some (.inl c4), none, some (.inl v6), some (.inl v7), none, none], [], g6) (69, [some (.inr (.inr 92)), some (.inl c1), some (.inl c2), some (.inl c3), some (.inl c4), none, some (.inl 1), some (.inl (wr (v7 + 1))), none, none], [], g6) rfl ?_
          exact ev_le (L := [some (.inr (.inr 92)), some (.inl c1), some (.inl c2), some (.inl c3), some (.inl c4), none, some (.inl 1), some (.inl (wr (v7 + 1))), none, none]) (by simp [Lle]) (ih69 1 (wr (v7 + 1)) g6 r g' h)
      by_cases hc : ¬ v7 = c2
      · rw [if_pos hc] at hy4
        refine es (90, [some (.inr (.inr 92)), some (.inl c1), some (.inl c2), some (.inl c3), some (.inl c4), none, some (.inl v6), some (.inl v7), none, none], [.inl c1, .inl v7, .inr (.inr 92)], g) (congrArg some (if_pos hc)) ?_
        refine ev_runs 1 (90, [some (.inr (.inr 92)), some (.inl c1), some (.inl c2), some (.inl c3), some (.inl c4), none, some (.inl v6), some (.inl v7), none, none], [.inl c1, .inl v7, .inr (.inr 92)], g) (92, [some (.inr (.inr 92)), some (.inl c1), some (.inl c2), some (.inl c3), some (.inl c4), none, some (.inl v6), some (.inl v7), none, none], [.inl 48, .inl c1, .inl v7, .inr (.inr 92)], g) rfl ?_
        rw [hy4] at hjy4
        exact ev_le (L := [some (.inr (.inr 92)), some (.inl c1), some (.inl c2), some (.inl c3), some (.inl c4), none, some (.inl v6), some (.inl v7), none, none]) (by simp [Lle]) hjy4
      · rw [if_neg hc] at hy4
        refine es (86, [some (.inr (.inr 92)), some (.inl c1), some (.inl c2), some (.inl c3), some (.inl c4), none, some (.inl v6), some (.inl v7), none, none], [.inl c1, .inl v7, .inr (.inr 92)], g) (congrArg some (if_neg hc)) ?_
        refine ev_runs 2 (86, [some (.inr (.inr 92)), some (.inl c1), some (.inl c2), some (.inl c3), some (.inl c4), none, some (.inl v6), some (.inl v7), none, none], [.inl c1, .inl v7, .inr (.inr 92)], g) (92, [some (.inr (.inr 92)), some (.inl c1), some (.inl c2), some (.inl c3), some (.inl c4), none, some (.inl v6), some (.inl v7), none, none], [.inl c3, .inl c1, .inl v7, .inr (.inr 92)], g) rfl ?_
        rw [hy4] at hjy4
        exact ev_le (L := [some (.inr (.inr 92)), some (.inl c1), some (.inl c2), some (.inl c3), some (.inl c4), none, some (.inl v6), some (.inl v7), none, none]) (by simp [Lle]) hjy4
set_option maxRecDepth 100000 in
set_option maxHeartbeats 4000000 in
theorem ev_Md_lost_l58 (c1 : Int) (c2 : Int) (c3 : Int) (c4 : Int) (K58_117 : Gx → Option (Int × Gx)) (hK58_117 : ∀ (g : Gx) (r : Int) (g' : Gx), K58_117 g = some (r, g') → Ev 174 117 [some (.inr (.inr 92)), some (.inl c1), some (.inl c2), none, some (.inl c4), none, none, none, none, none] [] g (some (.inl r)) g') : ∀ (n58 : Nat) (v6 : Int) (g : Gx) (r : Int) (g' : Gx), Md_lost_l58 c1 c2 c3 c4 K58_117 n58 v6 g = some (r, g') → Ev 174 58 [some (.inr (.inr 92)), some (.inl c1), some (.inl c2), some (.inl c3), some (.inl c4), none, some (.inl v6), none, none, none] [] g (some (.inl r)) g' := by
  intro n58
  induction n58 with
  | zero => intro v6 g r g' h; cases h
  | succ n58 ih58 =>
    intro v6 g r g' h
    rw [Md_lost_l58] at h
    refine ev_runs 1 (58, [some (.inr (.inr 92)), some (.inl c1), some (.inl c2), some (.inl c3), some (.inl c4), none, some (.inl v6), none, none, none], [], g) (60, [some (.inr (.inr 92)), some (.inl c1), some (.inl c2), some (.inl c3), some (.inl c4), none, some (.inl v6), none, none, none], [.inl v6], g) rfl ?_
    by_cases hc : v6 = 0
    · rw [if_pos hc] at h
      refine es (117, [some (.inr (.inr 92)), some (.inl c1), some (.inl c2), some (.inl c3), some (.inl c4), none, some (.inl v6), none, none, none], [], g) (congrArg some (if_pos hc)) ?_
      exact ev_le (L := [some (.inr (.inr 92)), some (.inl c1), some (.inl c2), none, some (.inl c4), none, none, none, none, none]) (by simp [Lle]) (hK58_117 g r g' h)
    · rw [if_neg hc] at h
      refine es (63, [some (.inr (.inr 92)), some (.inl c1), some (.inl c2), some (.inl c3), some (.inl c4), none, some (.inl v6), none, none, none], [], g) (congrArg some (if_neg hc)) ?_
      refine ev_runs 4 (63, [some (.inr (.inr 92)), some (.inl c1), some (.inl c2), some (.inl c3), some (.inl c4), none, some (.inl v6), none, none, none], [], g) (69, [some (.inr (.inr 92)), some (.inl c1), some (.inl c2), some (.inl c3), some (.inl c4), none, some (.inl 0), some (.inl 0), none, none], [], g) rfl ?_
      refine ev_le (L := [some (.inr (.inr 92)), some (.inl c1), some (.inl c2), some (.inl c3), some (.inl c4), none, some (.inl 0), some (.inl 0), none, none]) (by simp [Lle]) ?_
      refine ev_Md_lost_l69 c1 c2 c3 c4 _ ?_ fu 0 0 g r g' h
      · intro x7 g8 r g' h
        refine ev_runs 1 (114, [some (.inr (.inr 92)), some (.inl c1), some (.inl c2), some (.inl c3), some (.inl c4), none, some (.inl x7), none, none, none], [], g8) (58, [some (.inr (.inr 92)), some (.inl c1), some (.inl c2), some (.inl c3), some (.inl c4), none, some (.inl x7), none, none, none], [], g8) rfl ?_
        exact ev_le (L := [some (.inr (.inr 92)), some (.inl c1), some (.inl c2), some (.inl c3), some (.inl c4), none, some (.inl x7), none, none, none]) (by simp [Lle]) (ih58 x7 g8 r g' h)
set_option maxRecDepth 100000 in
set_option maxHeartbeats 4000000 in
theorem ev_Md_lost_l126 (c1 : Int) (c2 : Int) (c4 : Int) (c8 : Int) (K126_180 : Int → Gx → Option (Int × Gx)) (hK126_180 : ∀ (x7 : Int) (g : Gx) (r : Int) (g' : Gx), K126_180 x7 g = some (r, g') → Ev 174 180 [some (.inr (.inr 92)), none, none, none, some (.inl c4), none, none, some (.inl x7), some (.inl c8), none] [] g (some (.inl r)) g') : ∀ (n126 : Nat) (v7 v9 : Int) (g : Gx) (r : Int) (g' : Gx), Md_lost_l126 c1 c2 c4 c8 K126_180 n126 v7 v9 g = some (r, g') → Ev 174 126 [some (.inr (.inr 92)), some (.inl c1), some (.inl c2), none, some (.inl c4), none, none, some (.inl v7), some (.inl c8), some (.inl v9)] [] g (some (.inl r)) g' := by
  intro n126
  induction n126 with
  | zero => intro v7 v9 g r g' h; cases h
  | succ n126 ih126 =>
    intro v7 v9 g r g' h
    rw [Md_lost_l126] at h
    refine ev_runs 2 (126, [some (.inr (.inr 92)), some (.inl c1), some (.inl c2), none, some (.inl c4), none, none, some (.inl v7), some (.inl c8), some (.inl v9)], [], g) (130, [some (.inr (.inr 92)), some (.inl c1), some (.inl c2), none, some (.inl c4), none, none, some (.inl v7), some (.inl c8), some (.inl v9)], [.inl 6, .inl v9], g) rfl ?_
    by_cases hc : 6 ≤ v9
    · rw [if_pos hc] at h
      refine es (180, [some (.inr (.inr 92)), some (.inl c1), some (.inl c2), none, some (.inl c4), none, none, some (.inl v7), some (.inl c8), some (.inl v9)], [], g) (congrArg some (if_pos hc)) ?_
      exact ev_le (L := [some (.inr (.inr 92)), none, none, none, some (.inl c4), none, none, some (.inl v7), some (.inl c8), none]) (by simp [Lle]) (hK126_180 v7 g r g' h)
    · rw [if_neg hc] at h
      refine es (133, [some (.inr (.inr 92)), some (.inl c1), some (.inl c2), none, some (.inl c4), none, none, some (.inl v7), some (.inl c8), some (.inl v9)], [], g) (congrArg some (if_neg hc)) ?_
      refine ev_runs 3 (133, [some (.inr (.inr 92)), some (.inl c1), some (.inl c2), none, some (.inl c4), none, none, some (.inl v7), some (.inl c8), some (.inl v9)], [], g) (138, [some (.inr (.inr 92)), some (.inl c1), some (.inl c2), none, some (.inl c4), none, none, some (.inl v7), some (.inl c8), some (.inl v9)], [.inl c2, .inl v9, .inl v7], g) rfl ?_
      by_cases hc : v9 = c2
      · rw [if_pos hc] at h
        refine es (170, [some (.inr (.inr 92)), some (.inl c1), some (.inl c2), none, some (.inl c4), none, none, some (.inl v7), some (.inl c8), some (.inl v9)], [.inl v7], g) (congrArg some (if_pos hc)) ?_
        refine ev_runs 5 (170, [some (.inr (.inr 92)), some (.inl c1), some (.inl c2), none, some (.inl c4), none, none, some (.inl v7), some (.inl c8), some (.inl v9)], [.inl v7], g) (126, [some (.inr (.inr 92)), some (.inl c1), some (.inl c2), none, some (.inl c4), none, none, some (.inl (jor v7 0)), some (.inl c8), some (.inl (wr (v9 + 1)))], [], g) rfl ?_
        exact ev_le (L := [some (.inr (.inr 92)), some (.inl c1), some (.inl c2), none, some (.inl c4), none, none, some (.inl (jor v7 0)), some (.inl c8), some (.inl (wr (v9 + 1)))]) (by simp [Lle]) (ih126 (jor v7 0) (wr (v9 + 1)) g r g' h)
      · rw [if_neg hc] at h
        refine es (141, [some (.inr (.inr 92)), some (.inl c1), some (.inl c2), none, some (.inl c4), none, none, some (.inl v7), some (.inl c8), some (.inl v9)], [.inl v7], g) (congrArg some (if_neg hc)) ?_
        refine ev_runs 3 (141, [some (.inr (.inr 92)), some (.inl c1), some (.inl c2), none, some (.inl c4), none, none, some (.inl v7), some (.inl c8), some (.inl v9)], [.inl v7], g) (147, [some (.inr (.inr 92)), some (.inl c1), some (.inl c2), none, some (.inl c4), none, none, some (.inl v7), some (.inl c8), some (.inl v9)], [.inl v9, .inr (.inr 121), .inl v7], g) rfl ?_
        by_cases hc : 0 ≤ v9 ∧ v9 < 6
        · rw [if_pos hc] at h
          refine es (148, [some (.inr (.inr 92)), some (.inl c1), some (.inl c2), none, some (.inl c4), none, none, some (.inl v7), some (.inl c8), some (.inl v9)], [.inl (g 121 v9.toNat), .inl v7], g) (if_pos hc) ?_
          refine ev_runs 7 (148, [some (.inr (.inr 92)), some (.inl c1), some (.inl c2), none, some (.inl c4), none, none, some (.inl v7), some (.inl c8), some (.inl v9)], [.inl (g 121 v9.toNat), .inl v7], g) (159, [some (.inr (.inr 92)), some (.inl c1), some (.inl c2), none, some (.inl c4), none, none, some (.inl v7), some (.inl c8), some (.inl v9)], [.inl (wr ((wr (6 * c1)) + v9)), .inr (.inr 118), .inl (g 121 v9.toNat), .inl v7], g) rfl ?_
          by_cases hc : 0 ≤ (wr ((wr (6 * c1)) + v9)) ∧ (wr ((wr (6 * c1)) + v9)) < 180
          · rw [if_pos hc] at h
            refine es (160, [some (.inr (.inr 92)), some (.inl c1), some (.inl c2), none, some (.inl c4), none, none, some (.inl v7), some (.inl c8), some (.inl v9)], [.inl (g 118 (wr ((wr (6 * c1)) + v9)).toNat), .inl (g 121 v9.toNat), .inl v7], g) (if_pos hc) ?_
            by_cases hc : (g 118 (wr ((wr (6 * c1)) + v9)).toNat) ≤ (g 121 v9.toNat)
            · rw [if_pos hc] at h
              refine es (170, [some (.inr (.inr 92)), some (.inl c1), some (.inl c2), none, some (.inl c4), none, none, some (.inl v7), some (.inl c8), some (.inl v9)], [.inl v7], g) (congrArg some (if_pos hc)) ?_
              refine ev_runs 5 (170, [some (.inr (.inr 92)), some (.inl c1), some (.inl c2), none, some (.inl c4), none, none, some (.inl v7), some (.inl c8), some (.inl v9)], [.inl v7], g) (126, [some (.inr (.inr 92)), some (.inl c1), some (.inl c2), none, some (.inl c4), none, none, some (.inl (jor v7 0)), some (.inl c8), some (.inl (wr (v9 + 1)))], [], g) rfl ?_
              exact ev_le (L := [some (.inr (.inr 92)), some (.inl c1), some (.inl c2), none, some (.inl c4), none, none, some (.inl (jor v7 0)), some (.inl c8), some (.inl (wr (v9 + 1)))]) (by simp [Lle]) (ih126 (jor v7 0) (wr (v9 + 1)) g r g' h)
            · rw [if_neg hc] at h
              refine es (163, [some (.inr (.inr 92)), some (.inl c1), some (.inl c2), none, some (.inl c4), none, none, some (.inl v7), some (.inl c8), some (.inl v9)], [.inl v7], g) (congrArg some (if_neg hc)) ?_
              refine ev_runs 8 (163, [some (.inr (.inr 92)), some (.inl c1), some (.inl c2), none, some (.inl c4), none, none, some (.inl v7), some (.inl c8), some (.inl v9)], [.inl v7], g) (126, [some (.inr (.inr 92)), some (.inl c1), some (.inl c2), none, some (.inl c4), none, none, some (.inl (jor v7 (jshl 1 v9))), some (.inl c8), some (.inl (wr (v9 + 1)))], [], g) rfl ?_
              exact ev_le (L := [some (.inr (.inr 92)), some (.inl c1), some (.inl c2), none, some (.inl c4), none, none, some (.inl (jor v7 (jshl 1 v9))), some (.inl c8), some (.inl (wr (v9 + 1)))]) (by simp [Lle]) (ih126 (jor v7 (jshl 1 v9)) (wr (v9 + 1)) g r g' h)
          · rw [if_neg hc] at h; cases h
        · rw [if_neg hc] at h; cases h
set_option maxRecDepth 100000 in
set_option maxHeartbeats 4000000 in
theorem ev_Md_lost_l183 (c4 : Int) (c7 : Int) (K183_208 : Int → Gx → Option (Int × Gx)) (hK183_208 : ∀ (x8 : Int) (g : Gx) (r : Int) (g' : Gx), K183_208 x8 g = some (r, g') → Ev 174 208 [none, none, none, none, some (.inl c4), none, none, some (.inl c7), some (.inl x8), none] [] g (some (.inl r)) g') : ∀ (n183 : Nat) (v8 v9 : Int) (g : Gx) (r : Int) (g' : Gx), Md_lost_l183 c4 c7 K183_208 n183 v8 v9 g = some (r, g') → Ev 174 183 [some (.inr (.inr 92)), none, none, none, some (.inl c4), none, none, some (.inl c7), some (.inl v8), some (.inl v9)] [] g (some (.inl r)) g' := by
  intro n183
  induction n183 with
  | zero => intro v8 v9 g r g' h; cases h
  | succ n183 ih183 =>
    intro v8 v9 g r g' h
    rw [Md_lost_l183] at h
    refine ev_runs 2 (183, [some (.inr (.inr 92)), none, none, none, some (.inl c4), none, none, some (.inl c7), some (.inl v8), some (.inl v9)], [], g) (187, [some (.inr (.inr 92)), none, none, none, some (.inl c4), none, none, some (.inl c7), some (.inl v8), some (.inl v9)], [.inl 36, .inl v9], g) rfl ?_
    by_cases hc : 36 ≤ v9
    · rw [if_pos hc] at h
      refine es (208, [some (.inr (.inr 92)), none, none, none, some (.inl c4), none, none, some (.inl c7), some (.inl v8), some (.inl v9)], [], g) (congrArg some (if_pos hc)) ?_
      exact ev_le (L := [none, none, none, none, some (.inl c4), none, none, some (.inl c7), some (.inl v8), none]) (by simp [Lle]) (hK183_208 v8 g r g' h)
    · rw [if_neg hc] at h
      refine es (190, [some (.inr (.inr 92)), none, none, none, some (.inl c4), none, none, some (.inl c7), some (.inl v8), some (.inl v9)], [], g) (congrArg some (if_neg hc)) ?_
      refine ev_runs 4 (190, [some (.inr (.inr 92)), none, none, none, some (.inl c4), none, none, some (.inl c7), some (.inl v8), some (.inl v9)], [], g) (198, [some (.inr (.inr 92)), none, none, none, some (.inl c4), none, none, some (.inl c7), some (.inl v8), some (.inl v9)], [.inl v9, .inr (.inr 122), .inl v8], g) rfl ?_
      by_cases hc : 0 ≤ v9 ∧ v9 < 36
      · rw [if_pos hc] at h
        refine es (199, [some (.inr (.inr 92)), none, none, none, some (.inl c4), none, none, some (.inl c7), some (.inl v8), some (.inl v9)], [.inl (g 122 v9.toNat), .inl v8], g) (if_pos hc) ?_
        refine ev_runs 4 (199, [some (.inr (.inr 92)), none, none, none, some (.inl c4), none, none, some (.inl c7), some (.inl v8), some (.inl v9)], [.inl (g 122 v9.toNat), .inl v8], g) (183, [some (.inr (.inr 92)), none, none, none, some (.inl c4), none, none, some (.inl c7), some (.inl (wr (v8 + (g 122 v9.toNat)))), some (.inl (wr (v9 + 1)))], [], g) rfl ?_
        exact ev_le (L := [some (.inr (.inr 92)), none, none, none, some (.inl c4), none, none, some (.inl c7), some (.inl (wr (v8 + (g 122 v9.toNat)))), some (.inl (wr (v9 + 1)))]) (by simp [Lle]) (ih183 (wr (v8 + (g 122 v9.toNat))) (wr (v9 + 1)) g r g' h)
      · rw [if_neg hc] at h; cases h
set_option maxRecDepth 100000 in
set_option maxHeartbeats 4000000 in
theorem ev_Md_lost (a1 a2 a3 a4 : Int) (g : Gx) (r : Int) (g' : Gx) (h : Md_lost a1 a2 a3 a4 g = some (r, g')) : Ev 174 0 [some (.inr (.inr 92)), some (.inl a1), some (.inl a2), some (.inl a3), some (.inl a4), none, none, none, none, none] [] g (some (.inl r)) g' := by
  rw [Md_lost] at h
  refine ev_runs 1 (0, [some (.inr (.inr 92)), some (.inl a1), some (.inl a2), some (.inl a3), some (.inl a4), none, none, none, none, none], [], g) (1, [some (.inr (.inr 92)), some (.inl a1), some (.inl a2), some (.inl a3), some (.inl a4), none, none, none, none, none], [.inl a1], g) rfl ?_
  refine ec 87 4 [.inl a1] [] rfl (ev_Md_isHistory a1 g _ rfl) ?_
  show Ev 174 4 [some (.inr (.inr 92)), some (.inl a1), some (.inl a2), some (.inl a3), some (.inl a4), none, none, none, none, none] [.inl (Md_isHistory a1)] g _ _
  by_cases hc : (Md_isHistory a1) = 0
  · rw [if_pos hc] at h
    refine es (29, [some (.inr (.inr 92)), some (.inl a1), some (.inl a2), some (.inl a3), some (.inl a4), none, none, none, none, none], [], g) (congrArg some (if_pos hc)) ?_
    refine ev_runs 1 (29, [some (.inr (.inr 92)), some (.inl a1), some (.inl a2), some (.inl a3), some (.inl a4), none, none, none, none, none], [], g) (31, [some (.inr (.inr 92)), some (.inl a1), some (.inl a2), some (.inl a3), some (.inl a4), none, none, none, none, none], [.inl (-2)], g) rfl ?_
    cases h
    exact er rfl
  · rw [if_neg hc] at h
    refine es (7, [some (.inr (.inr 92)), some (.inl a1), some (.inl a2), some (.inl a3), some (.inl a4), none, none, none, none, none], [], g) (congrArg some (if_neg hc)) ?_
    refine ev_runs 1 (7, [some (.inr (.inr 92)), some (.inl a1), some (.inl a2), some (.inl a3), some (.inl a4), none, none, none, none, none], [], g) (8, [some (.inr (.inr 92)), some (.inl a1), some (.inl a2), some (.inl a3), some (.inl a4), none, none, none, none, none], [.inl a2], g) rfl ?_
    refine ec 98 11 [.inl a2] [] rfl (ev_Md_isOne a2 g _ rfl) ?_
    show Ev 174 11 [some (.inr (.inr 92)), some (.inl a1), some (.inl a2), some (.inl a3), some (.inl a4), none, none, none, none, none] [.inl (Md_isOne a2)] g _ _
    by_cases hc : (Md_isOne a2) = 0
    · rw [if_pos hc] at h
      refine es (29, [some (.inr (.inr 92)), some (.inl a1), some (.inl a2), some (.inl a3), some (.inl a4), none, none, none, none, none], [], g) (congrArg some (if_pos hc)) ?_
      refine ev_runs 1 (29, [some (.inr (.inr 92)), some (.inl a1), some (.inl a2), some (.inl a3), some (.inl a4), none, none, none, none, none], [], g) (31, [some (.inr (.inr 92)), some (.inl a1), some (.inl a2), some (.inl a3), some (.inl a4), none, none, none, none, none], [.inl (-2)], g) rfl ?_
      cases h
      exact er rfl
    · rw [if_neg hc] at h
      refine es (14, [some (.inr (.inr 92)), some (.inl a1), some (.inl a2), some (.inl a3), some (.inl a4), none, none, none, none, none], [], g) (congrArg some (if_neg hc)) ?_
      refine ev_runs 1 (14, [some (.inr (.inr 92)), some (.inl a1), some (.inl a2), some (.inl a3), some (.inl a4), none, none, none, none, none], [], g) (15, [some (.inr (.inr 92)), some (.inl a1), some (.inl a2), some (.inl a3), some (.inl a4), none, none, none, none, none], [.inl a3], g) rfl ?_
      by_cases hc : a3 < 0
      · rw [if_pos hc] at h
        refine es (29, [some (.inr (.inr 92)), some (.inl a1), some (.inl a2), some (.inl a3), some (.inl a4), none, none, none, none, none], [], g) (congrArg some (if_pos hc)) ?_
        refine ev_runs 1 (29, [some (.inr (.inr 92)), some (.inl a1), some (.inl a2), some (.inl a3), some (.inl a4), none, none, none, none, none], [], g) (31, [some (.inr (.inr 92)), some (.inl a1), some (.inl a2), some (.inl a3), some (.inl a4), none, none, none, none, none], [.inl (-2)], g) rfl ?_
        cases h
        exact er rfl
      · rw [if_neg hc] at h
        refine es (18, [some (.inr (.inr 92)), some (.inl a1), some (.inl a2), some (.inl a3), some (.inl a4), none, none, none, none, none], [], g) (congrArg some (if_neg hc)) ?_
        refine ev_runs 4 (18, [some (.inr (.inr 92)), some (.inl a1), some (.inl a2), some (.inl a3), some (.inl a4), none, none, none, none, none], [], g) (23, [some (.inr (.inr 92)), some (.inl a1), some (.inl a2), some (.inl a3), some (.inl a4), none, none, none, none, none], [.inr (.inl 1), .inr (.inl 0), .inr (.inl a4)], g) rfl ?_
        refine ec 4 26 [.inr (.inl a4), .inr (.inl 0), .inr (.inl 1)] [] rfl (ev_Md_in a4 0 1 g _ rfl) ?_
        show Ev 174 26 [some (.inr (.inr 92)), some (.inl a1), some (.inl a2), some (.inl a3), some (.inl a4), none, none, none, none, none] [.inl (Md_in a4 0 1)] g _ _
        by_cases hc : ¬ (Md_in a4 0 1) = 0
        · rw [if_pos hc] at h
          refine es (32, [some (.inr (.inr 92)), some (.inl a1), some (.inl a2), some (.inl a3), some (.inl a4), none, none, none, none, none], [], g) (congrArg some (if_pos hc)) ?_
          refine ev_runs 2 (32, [some (.inr (.inr 92)), some (.inl a1), some (.inl a2), some (.inl a3), some (.inl a4), none, none, none, none, none], [], g) (34, [some (.inr (.inr 92)), some (.inl a1), some (.inl a2), some (.inl a3), some (.inl a4), none, none, none, none, none], [.inl a1, .inr (.inr 92)], g) rfl ?_
          obtain ⟨q1, hq, h⟩ := Option.bind_eq_some_iff.mp h
          refine ec 88 37 [.inr (.inr 92), .inl a1] [] rfl (ev_Md_lacksOne a1 g q1.1 q1.2 hq) ?_
          show Ev 174 37 [some (.inr (.inr 92)), some (.inl a1), some (.inl a2), some (.inl a3), some (.inl a4), none, none, none, none, none] [.inl q1.1] q1.2 _ _
          refine ev_runs 2 (37, [some (.inr (.inr 92)), some (.inl a1), some (.inl a2), some (.inl a3), some (.inl a4), none, none, none, none, none], [.inl q1.1], q1.2) (41, [some (.inr (.inr 92)), some (.inl a1), some (.inl a2), some (.inl a3), some (.inl a4), some (.inl q1.1), none, none, none, none], [.inl q1.1], q1.2) rfl ?_
          by_cases hc : q1.1 = 0
          · rw [if_pos hc] at h
            refine es (47, [some (.inr (.inr 92)), some (.inl a1), some (.inl a2), some (.inl a3), some (.inl a4), some (.inl q1.1), none, none, none, none], [], q1.2) (congrArg some (if_pos hc)) ?_
            refine ev_runs 1 (47, [some (.inr (.inr 92)), some (.inl a1), some (.inl a2), some (.inl a3), some (.inl a4), some (.inl q1.1), none, none, none, none], [], q1.2) (48, [some (.inr (.inr 92)), some (.inl a1), some (.inl a2), some (.inl a3), some (.inl a4), some (.inl q1.1), none, none, none, none], [.inr (.inr 92)], q1.2) rfl ?_
            obtain ⟨g2, hq, h⟩ := Option.bind_eq_some_iff.mp h
            refine ec 101 51 [.inr (.inr 92)] [] rfl (ev_Md_findLooks q1.2 g2 hq) ?_
            show Ev 174 51 [some (.inr (.inr 92)), some (.inl a1), some (.inl a2), some (.inl a3), some (.inl a4), some (.inl q1.1), none, none, none, none] [] g2 _ _
            refine ev_runs 1 (51, [some (.inr (.inr 92)), some (.inl a1), some (.inl a2), some (.inl a3), some (.inl a4), some (.inl q1.1), none, none, none, none], [], g2) (52, [some (.inr (.inr 92)), some (.inl a1), some (.inl a2), some (.inl a3), some (.inl a4), some (.inl q1.1), none, none, none, none], [.inr (.inr 92)], g2) rfl ?_
            obtain ⟨g3, hq, h⟩ := Option.bind_eq_some_iff.mp h
            refine ec 148 55 [.inr (.inr 92)] [] rfl (ev_Md_begins g2 g3 hq) ?_
            show Ev 174 55 [some (.inr (.inr 92)), some (.inl a1), some (.inl a2), some (.inl a3), some (.inl a4), some (.inl q1.1), none, none, none, none] [] g3 _ _
            refine ev_runs 2 (55, [some (.inr (.inr 92)), some (.inl a1), some (.inl a2), some (.inl a3), some (.inl a4), some (.inl q1.1), none, none, none, none], [], g3) (58, [some (.inr (.inr 92)), some (.inl a1), some (.inl a2), some (.inl a3), some (.inl a4), some (.inl q1.1), some (.inl 1), none, none, none], [], g3) rfl ?_
            refine ev_le (L := [some (.inr (.inr 92)), some (.inl a1), some (.inl a2), some (.inl a3), some (.inl a4), none, some (.inl 1), none, none, none]) (by simp [Lle]) ?_
            refine ev_Md_lost_l58 a1 a2 a3 a4 _ ?_ fu 1 g3 r g' h
            · intro g9 r g' h
              refine ev_runs 6 (117, [some (.inr (.inr 92)), some (.inl a1), some (.inl a2), none, some (.inl a4), none, none, none, none, none], [], g9) (126, [some (.inr (.inr 92)), some (.inl a1), some (.inl a2), none, some (.inl a4), none, none, some (.inl 0), some (.inl 0), some (.inl 0)], [], g9) rfl ?_
              refine ev_le (L := [some (.inr (.inr 92)), some (.inl a1), some (.inl a2), none, some (.inl a4), none, none, some (.inl 0), some (.inl 0), some (.inl 0)]) (by simp [Lle]) ?_
              refine ev_Md_lost_l126 a1 a2 a4 0 _ ?_ fu 0 0 g9 r g' h
              · intro x10 g11 r g' h
                refine ev_runs 2 (180, [some (.inr (.inr 92)), none, none, none, some (.inl a4), none, none, some (.inl x10), some (.inl 0), none], [], g11) (183, [some (.inr (.inr 92)), none, none, none, some (.inl a4), none, none, some (.inl x10), some (.inl 0), some (.inl 0)], [], g11) rfl ?_
                refine ev_le (L := [some (.inr (.inr 92)), none, none, none, some (.inl a4), none, none, some (.inl x10), some (.inl 0), some (.inl 0)]) (by simp [Lle]) ?_
                refine ev_Md_lost_l183 a4 x10 _ ?_ fu 0 0 g11 r g' h
                · intro x12 g13 r g' h
                  refine ev_runs 1 (208, [none, none, none, none, some (.inl a4), none, none, some (.inl x10), some (.inl x12), none], [], g13) (210, [none, none, none, none, some (.inl a4), none, none, some (.inl x10), some (.inl x12), none], [.inl a4], g13) rfl ?_
                  by_cases hc : ¬ a4 = 0
                  · rw [if_pos hc] at h
                    refine es (218, [none, none, none, none, some (.inl a4), none, none, some (.inl x10), some (.inl x12), none], [], g13) (congrArg some (if_pos hc)) ?_
                    refine ev_runs 1 (218, [none, none, none, none, some (.inl a4), none, none, some (.inl x10), some (.inl x12), none], [], g13) (220, [none, none, none, none, some (.inl a4), none, none, some (.inl x10), some (.inl x12), none], [.inl x12], g13) rfl ?_
                    cases h
                    exact er rfl
                  · rw [if_neg hc] at h
                    refine es (213, [none, none, none, none, some (.inl a4), none, none, some (.inl x10), some (.inl x12), none], [], g13) (congrArg some (if_neg hc)) ?_
                    refine ev_runs 2 (213, [none, none, none, none, some (.inl a4), none, none, some (.inl x10), some (.inl x12), none], [], g13) (220, [none, none, none, none, some (.inl a4), none, none, some (.inl x10), some (.inl x12), none], [.inl x10], g13) rfl ?_
                    cases h
                    exact er rfl
          · rw [if_neg hc] at h
            refine es (44, [some (.inr (.inr 92)), some (.inl a1), some (.inl a2), some (.inl a3), some (.inl a4), some (.inl q1.1), none, none, none, none], [], q1.2) (congrArg some (if_neg hc)) ?_
            refine ev_runs 1 (44, [some (.inr (.inr 92)), some (.inl a1), some (.inl a2), some (.inl a3), some (.inl a4), some (.inl q1.1), none, none, none, none], [], q1.2) (46, [some (.inr (.inr 92)), some (.inl a1), some (.inl a2), some (.inl a3), some (.inl a4), some (.inl q1.1), none, none, none, none], [.inl q1.1], q1.2) rfl ?_
            cases h
            exact er rfl
        · rw [if_neg hc] at h
          refine es (29, [some (.inr (.inr 92)), some (.inl a1), some (.inl a2), some (.inl a3), some (.inl a4), none, none, none, none, none], [], g) (congrArg some (if_neg hc)) ?_
          refine ev_runs 1 (29, [some (.inr (.inr 92)), some (.inl a1), some (.inl a2), some (.inl a3), some (.inl a4), none, none, none, none, none], [], g) (31, [some (.inr (.inr 92)), some (.inl a1), some (.inl a2), some (.inl a3), some (.inl a4), none, none, none, none, none], [.inl (-2)], g) rfl ?_
          cases h
          exact er rfl
set_option maxRecDepth 100000 in
set_option maxHeartbeats 4000000 in
theorem ev_Pg_length (a1 : Int) (g : Gx) (r : Int) (h : Pg_length a1 g = r) : Ev 175 0 [some (.inr (.inr 69)), some (.inl a1)] [] g (some (.inl r)) g := by
  rw [Pg_length] at h
  refine ev_runs 5 (0, [some (.inr (.inr 69)), some (.inl a1)], [], g) (7, [some (.inr (.inr 69)), some (.inl a1)], [.inl (wr (a1 + 1)), .inr (.inr 76)], g) rfl ?_
  refine ec 13 10 [.inr (.inr 76), .inl (wr (a1 + 1))] [] rfl (ev_Row_at rfl rfl _ _) ?_
  show Ev 175 10 [some (.inr (.inr 69)), some (.inl a1)] [.inl (rat g 77 9 (wr (a1 + 1)))] g _ _
  refine ev_runs 3 (10, [some (.inr (.inr 69)), some (.inl a1)], [.inl (rat g 77 9 (wr (a1 + 1)))], g) (15, [some (.inr (.inr 69)), some (.inl a1)], [.inl a1, .inr (.inr 76), .inl (rat g 77 9 (wr (a1 + 1)))], g) rfl ?_
  refine ec 13 18 [.inr (.inr 76), .inl a1] [.inl (rat g 77 9 (wr (a1 + 1)))] rfl (ev_Row_at rfl rfl _ _) ?_
  show Ev 175 18 [some (.inr (.inr 69)), some (.inl a1)] [.inl (rat g 77 9 a1), .inl (rat g 77 9 (wr (a1 + 1)))] g _ _
  refine ev_runs 1 (18, [some (.inr (.inr 69)), some (.inl a1)], [.inl (rat g 77 9 a1), .inl (rat g 77 9 (wr (a1 + 1)))], g) (19, [some (.inr (.inr 69)), some (.inl a1)], [.inl (wr ((rat g 77 9 (wr (a1 + 1))) - (rat g 77 9 a1)))], g) rfl ?_
  subst h
  exact er rfl
set_option maxRecDepth 100000 in
set_option maxHeartbeats 4000000 in
theorem ev_Pg_act (a1 a2 a3 : Int) (g : Gx) (r : Int) (h : Pg_act a1 a2 a3 g = r) : Ev 176 0 [some (.inr (.inr 69)), some (.inl a1), some (.inl a2), some (.inl a3), none, none, none] [] g (some (.inl r)) g := by
  rw [Pg_act] at h
  refine ev_runs 3 (0, [some (.inr (.inr 69)), some (.inl a1), some (.inl a2), some (.inl a3), none, none, none], [], g) (5, [some (.inr (.inr 69)), some (.inl a1), some (.inl a2), some (.inl a3), none, none, none], [.inl a1, .inr (.inr 76)], g) rfl ?_
  refine ec 13 8 [.inr (.inr 76), .inl a1] [] rfl (ev_Row_at rfl rfl _ _) ?_
  show Ev 176 8 [some (.inr (.inr 69)), some (.inl a1), some (.inl a2), some (.inl a3), none, none, none] [.inl (rat g 77 9 a1)] g _ _
  refine ev_runs 6 (8, [some (.inr (.inr 69)), some (.inl a1), some (.inl a2), some (.inl a3), none, none, none], [.inl (rat g 77 9 a1)], g) (18, [some (.inr (.inr 69)), some (.inl a1), some (.inl a2), some (.inl a3), some (.inl (wr ((rat g 77 9 a1) + a2))), none, none], [.inl (wr ((rat g 77 9 a1) + a2)), .inr (.inr 72)], g) rfl ?_
  refine ec 13 21 [.inr (.inr 72), .inl (wr ((rat g 77 9 a1) + a2))] [] rfl (ev_Row_at rfl rfl _ _) ?_
  show Ev 176 21 [some (.inr (.inr 69)), some (.inl a1), some (.inl a2), some (.inl a3), some (.inl (wr ((rat g 77 9 a1) + a2))), none, none] [.inl (rat g 73 80 (wr ((rat g 77 9 a1) + a2)))] g _ _
  refine ev_runs 4 (21, [some (.inr (.inr 69)), some (.inl a1), some (.inl a2), some (.inl a3), some (.inl (wr ((rat g 77 9 a1) + a2))), none, none], [.inl (rat g 73 80 (wr ((rat g 77 9 a1) + a2)))], g) (29, [some (.inr (.inr 69)), some (.inl a1), some (.inl a2), some (.inl a3), some (.inl (wr ((rat g 77 9 a1) + a2))), some (.inl (rat g 73 80 (wr ((rat g 77 9 a1) + a2)))), none], [.inl (wr ((rat g 77 9 a1) + a2)), .inr (.inr 70)], g) rfl ?_
  refine ec 13 32 [.inr (.inr 70), .inl (wr ((rat g 77 9 a1) + a2))] [] rfl (ev_Row_at rfl rfl _ _) ?_
  show Ev 176 32 [some (.inr (.inr 69)), some (.inl a1), some (.inl a2), some (.inl a3), some (.inl (wr ((rat g 77 9 a1) + a2))), some (.inl (rat g 73 80 (wr ((rat g 77 9 a1) + a2)))), none] [.inl (rat g 71 80 (wr ((rat g 77 9 a1) + a2)))] g _ _
  refine ev_runs 1 (32, [some (.inr (.inr 69)), some (.inl a1), some (.inl a2), some (.inl a3), some (.inl (wr ((rat g 77 9 a1) + a2))), some (.inl (rat g 73 80 (wr ((rat g 77 9 a1) + a2)))), none], [.inl (rat g 71 80 (wr ((rat g 77 9 a1) + a2)))], g) (35, [some (.inr (.inr 69)), some (.inl a1), some (.inl a2), some (.inl a3), some (.inl (wr ((rat g 77 9 a1) + a2))), some (.inl (rat g 73 80 (wr ((rat g 77 9 a1) + a2)))), none], [.inl 10000, .inl (rat g 71 80 (wr ((rat g 77 9 a1) + a2)))], g) rfl ?_
  obtain ⟨y1, hy1, h⟩ := lett_inv h
  have hjy1 : Ev 176 63 [some (.inr (.inr 69)), none, none, none, some (.inl (wr ((rat g 77 9 a1) + a2))), none, none] [.inl y1] g (some (.inl r)) g := by
    refine ev_runs 4 (63, [some (.inr (.inr 69)), none, none, none, some (.inl (wr ((rat g 77 9 a1) + a2))), none, none], [.inl y1], g) (71, [some (.inr (.inr 69)), none, none, none, some (.inl (wr ((rat g 77 9 a1) + a2))), none, some (.inl y1)], [.inl (wr ((rat g 77 9 a1) + a2)), .inr (.inr 70)], g) rfl ?_
    refine ec 13 74 [.inr (.inr 70), .inl (wr ((rat g 77 9 a1) + a2))] [] rfl (ev_Row_at rfl rfl _ _) ?_
    show Ev 176 74 [some (.inr (.inr 69)), none, none, none, some (.inl (wr ((rat g 77 9 a1) + a2))), none, some (.inl y1)] [.inl (rat g 71 80 (wr ((rat g 77 9 a1) + a2)))] g _ _
    refine ev_runs 5 (74, [some (.inr (.inr 69)), none, none, none, some (.inl (wr ((rat g 77 9 a1) + a2))), none, some (.inl y1)], [.inl (rat g 71 80 (wr ((rat g 77 9 a1) + a2)))], g) (83, [some (.inr (.inr 69)), none, none, none, some (.inl (wr ((rat g 77 9 a1) + a2))), none, some (.inl y1)], [.inl (wr ((rat g 77 9 a1) + a2)), .inr (.inr 74), .inl (wr ((rat g 71 80 (wr ((rat g 77 9 a1) + a2))) + y1))], g) rfl ?_
    refine ec 13 86 [.inr (.inr 74), .inl (wr ((rat g 77 9 a1) + a2))] [.inl (wr ((rat g 71 80 (wr ((rat g 77 9 a1) + a2))) + y1))] rfl (ev_Row_at rfl rfl _ _) ?_
    show Ev 176 86 [some (.inr (.inr 69)), none, none, none, some (.inl (wr ((rat g 77 9 a1) + a2))), none, some (.inl y1)] [.inl (rat g 75 80 (wr ((rat g 77 9 a1) + a2))), .inl (wr ((rat g 71 80 (wr ((rat g 77 9 a1) + a2))) + y1))] g _ _
    refine ev_runs 1 (86, [some (.inr (.inr 69)), none, none, none, some (.inl (wr ((rat g 77 9 a1) + a2))), none, some (.inl y1)], [.inl (rat g 75 80 (wr ((rat g 77 9 a1) + a2))), .inl (wr ((rat g 71 80 (wr ((rat g 77 9 a1) + a2))) + y1))], g) (87, [some (.inr (.inr 69)), none, none, none, some (.inl (wr ((rat g 77 9 a1) + a2))), none, some (.inl y1)], [.inl (wr ((wr ((rat g 71 80 (wr ((rat g 77 9 a1) + a2))) + y1)) + (rat g 75 80 (wr ((rat g 77 9 a1) + a2)))))], g) rfl ?_
    subst h
    exact er rfl
  by_cases hc : ¬ (rat g 71 80 (wr ((rat g 77 9 a1) + a2))) = 10000
  · rw [if_pos hc] at hy1
    refine es (52, [some (.inr (.inr 69)), some (.inl a1), some (.inl a2), some (.inl a3), some (.inl (wr ((rat g 77 9 a1) + a2))), some (.inl (rat g 73 80 (wr ((rat g 77 9 a1) + a2)))), none], [], g) (congrArg some (if_pos hc)) ?_
    refine ev_runs 7 (52, [some (.inr (.inr 69)), some (.inl a1), some (.inl a2), some (.inl a3), some (.inl (wr ((rat g 77 9 a1) + a2))), some (.inl (rat g 73 80 (wr ((rat g 77 9 a1) + a2)))), none], [], g) (63, [some (.inr (.inr 69)), some (.inl a1), some (.inl a2), some (.inl a3), some (.inl (wr ((rat g 77 9 a1) + a2))), some (.inl (rat g 73 80 (wr ((rat g 77 9 a1) + a2)))), none], [.inl (wr ((wr (1000 * (rat g 73 80 (wr ((rat g 77 9 a1) + a2))))) + (wr (100 * a3))))], g) rfl ?_
    rw [hy1] at hjy1
    exact ev_le (L := [some (.inr (.inr 69)), none, none, none, some (.inl (wr ((rat g 77 9 a1) + a2))), none, none]) (by simp [Lle]) hjy1
  · rw [if_neg hc] at hy1
    refine es (38, [some (.inr (.inr 69)), some (.inl a1), some (.inl a2), some (.inl a3), some (.inl (wr ((rat g 77 9 a1) + a2))), some (.inl (rat g 73 80 (wr ((rat g 77 9 a1) + a2)))), none], [], g) (congrArg some (if_neg hc)) ?_
    refine ev_runs 8 (38, [some (.inr (.inr 69)), some (.inl a1), some (.inl a2), some (.inl a3), some (.inl (wr ((rat g 77 9 a1) + a2))), some (.inl (rat g 73 80 (wr ((rat g 77 9 a1) + a2)))), none], [], g) (63, [some (.inr (.inr 69)), some (.inl a1), some (.inl a2), some (.inl a3), some (.inl (wr ((rat g 77 9 a1) + a2))), some (.inl (rat g 73 80 (wr ((rat g 77 9 a1) + a2)))), none], [.inl (wr ((wr (1000 * a3)) + (wr (100 * (rat g 73 80 (wr ((rat g 77 9 a1) + a2)))))))], g) rfl ?_
    rw [hy1] at hjy1
    exact ev_le (L := [some (.inr (.inr 69)), none, none, none, some (.inl (wr ((rat g 77 9 a1) + a2))), none, none]) (by simp [Lle]) hjy1
set_option maxRecDepth 100000 in
set_option maxHeartbeats 4000000 in
theorem ev_Pg_rowsBeginningAs_l30 (c1 : Int) (c2 : Int) (c3 : Int) (c4 : Int) (c5 : Int) (c6 : Int) (K30_63 : Int → Gx → Option (Int × Gx)) (hK30_63 : ∀ (x7 : Int) (g : Gx) (r : Int) (g' : Gx), K30_63 x7 g = some (r, g') → Ev 177 63 [some (.inr (.inr 69)), some (.inl c1), some (.inl c2), some (.inl c3), some (.inl c4), some (.inl c5), none, some (.inl x7)] [] g (some (.inl r)) g') : ∀ (n30 : Nat) (v7 : Int) (g : Gx) (r : Int) (g' : Gx), Pg_rowsBeginningAs_l30 c1 c2 c3 c4 c5 c6 K30_63 n30 v7 g = some (r, g') → Ev 177 30 [some (.inr (.inr 69)), some (.inl c1), some (.inl c2), some (.inl c3), some (.inl c4), some (.inl c5), some (.inl c6), some (.inl v7)] [] g (some (.inl r)) g' := by
  intro n30
  induction n30 with
  | zero => intro v7 g r g' h; cases h
  | succ n30 ih30 =>
    intro v7 g r g' h
    rw [Pg_rowsBeginningAs_l30] at h
    refine ev_runs 2 (30, [some (.inr (.inr 69)), some (.inl c1), some (.inl c2), some (.inl c3), some (.inl c4), some (.inl c5), some (.inl c6), some (.inl v7)], [], g) (34, [some (.inr (.inr 69)), some (.inl c1), some (.inl c2), some (.inl c3), some (.inl c4), some (.inl c5), some (.inl c6), some (.inl v7)], [.inl c6, .inl v7], g) rfl ?_
    by_cases hc : c6 ≤ v7
    · rw [if_pos hc] at h
      refine es (63, [some (.inr (.inr 69)), some (.inl c1), some (.inl c2), some (.inl c3), some (.inl c4), some (.inl c5), some (.inl c6), some (.inl v7)], [], g) (congrArg some (if_pos hc)) ?_
      exact ev_le (L := [some (.inr (.inr 69)), some (.inl c1), some (.inl c2), some (.inl c3), some (.inl c4), some (.inl c5), none, some (.inl v7)]) (by simp [Lle]) (hK30_63 v7 g r g' h)
    · rw [if_neg hc] at h
      refine es (37, [some (.inr (.inr 69)), some (.inl c1), some (.inl c2), some (.inl c3), some (.inl c4), some (.inl c5), some (.inl c6), some (.inl v7)], [], g) (congrArg some (if_neg hc)) ?_
      refine ev_runs 4 (37, [some (.inr (.inr 69)), some (.inl c1), some (.inl c2), some (.inl c3), some (.inl c4), some (.inl c5), some (.inl c6), some (.inl v7)], [], g) (43, [some (.inr (.inr 69)), some (.inl c1), some (.inl c2), some (.inl c3), some (.inl c4), some (.inl c5), some (.inl c6), some (.inl v7)], [.inl c3, .inl v7, .inl c5, .inr (.inr 69)], g) rfl ?_
      refine ec 176 46 [.inr (.inr 69), .inl c5, .inl v7, .inl c3] [] rfl (ev_Pg_act c5 v7 c3 g _ rfl) ?_
      show Ev 177 46 [some (.inr (.inr 69)), some (.inl c1), some (.inl c2), some (.inl c3), some (.inl c4), some (.inl c5), some (.inl c6), some (.inl v7)] [.inl (Pg_act c5 v7 c3 g)] g _ _
      refine ev_runs 4 (46, [some (.inr (.inr 69)), some (.inl c1), some (.inl c2), some (.inl c3), some (.inl c4), some (.inl c5), some (.inl c6), some (.inl v7)], [.inl (Pg_act c5 v7 c3 g)], g) (51, [some (.inr (.inr 69)), some (.inl c1), some (.inl c2), some (.inl c3), some (.inl c4), some (.inl c5), some (.inl c6), some (.inl v7)], [.inl c3, .inl v7, .inl c1, .inr (.inr 69), .inl (Pg_act c5 v7 c3 g)], g) rfl ?_
      refine ec 176 54 [.inr (.inr 69), .inl c1, .inl v7, .inl c3] [.inl (Pg_act c5 v7 c3 g)] rfl (ev_Pg_act c1 v7 c3 g _ rfl) ?_
      show Ev 177 54 [some (.inr (.inr 69)), some (.inl c1), some (.inl c2), some (.inl c3), some (.inl c4), some (.inl c5), some (.inl c6), some (.inl v7)] [.inl (Pg_act c1 v7 c3 g), .inl (Pg_act c5 v7 c3 g)] g _ _
      by_cases hc : ¬ (Pg_act c5 v7 c3 g) = (Pg_act c1 v7 c3 g)
      · rw [if_pos hc] at h
        refine es (63, [some (.inr (.inr 69)), some (.inl c1), some (.inl c2), some (.inl c3), some (.inl c4), some (.inl c5), some (.inl c6), some (.inl v7)], [], g) (congrArg some (if_pos hc)) ?_
        exact ev_le (L := [some (.inr (.inr 69)), some (.inl c1), some (.inl c2), some (.inl c3), some (.inl c4), some (.inl c5), none, some (.inl v7)]) (by simp [Lle]) (hK30_63 v7 g r g' h)
      · rw [if_neg hc] at h
        refine es (57, [some (.inr (.inr 69)), some (.inl c1), some (.inl c2), some (.inl c3), some (.inl c4), some (.inl c5), some (.inl c6), some (.inl v7)], [], g) (congrArg some (if_neg hc)) ?_
        refine ev_runs 2 (57, [some (.inr (.inr 69)), some (.inl c1), some (.inl c2), some (.inl c3), some (.inl c4), some (.inl c5), some (.inl c6), some (.inl v7)], [], g) (30, [some (.inr (.inr 69)), some (.inl c1), some (.inl c2), some (.inl c3), some (.inl c4), some (.inl c5), some (.inl c6), some (.inl (wr (v7 + 1)))], [], g) rfl ?_
        exact ev_le (L := [some (.inr (.inr 69)), some (.inl c1), some (.inl c2), some (.inl c3), some (.inl c4), some (.inl c5), some (.inl c6), some (.inl (wr (v7 + 1)))]) (by simp [Lle]) (ih30 (wr (v7 + 1)) g r g' h)
set_option maxRecDepth 100000 in
set_option maxHeartbeats 4000000 in
theorem ev_Pg_rowsBeginningAs_l6 (c1 : Int) (c2 : Int) (c3 : Int) (K6_88 : Int → Gx → Option (Int × Gx)) (hK6_88 : ∀ (x4 : Int) (g : Gx) (r : Int) (g' : Gx), K6_88 x4 g = some (r, g') → Ev 177 88 [none, none, none, none, some (.inl x4), none, none, none] [] g (some (.inl r)) g') : ∀ (n6 : Nat) (v4 v5 : Int) (g : Gx) (r : Int) (g' : Gx), Pg_rowsBeginningAs_l6 c1 c2 c3 K6_88 n6 v4 v5 g = some (r, g') → Ev 177 6 [some (.inr (.inr 69)), some (.inl c1), some (.inl c2), some (.inl c3), some (.inl v4), some (.inl v5), none, none] [] g (some (.inl r)) g' := by
  intro n6
  induction n6 with
  | zero => intro v4 v5 g r g' h; cases h
  | succ n6 ih6 =>
    intro v4 v5 g r g' h
    rw [Pg_rowsBeginningAs_l6] at h
    refine ev_runs 3 (6, [some (.inr (.inr 69)), some (.inl c1), some (.inl c2), some (.inl c3), some (.inl v4), some (.inl v5), none, none], [], g) (12, [some (.inr (.inr 69)), some (.inl c1), some (.inl c2), some (.inl c3), some (.inl v4), some (.inl v5), none, none], [.inl (g 69 7), .inl v5], g) rfl ?_
    by_cases hc : (g 69 7) ≤ v5
    · rw [if_pos hc] at h
      refine es (88, [some (.inr (.inr 69)), some (.inl c1), some (.inl c2), some (.inl c3), some (.inl v4), some (.inl v5), none, none], [], g) (congrArg some (if_pos hc)) ?_
      exact ev_le (L := [none, none, none, none, some (.inl v4), none, none, none]) (by simp [Lle]) (hK6_88 v4 g r g' h)
    · rw [if_neg hc] at h
      refine es (15, [some (.inr (.inr 69)), some (.inl c1), some (.inl c2), some (.inl c3), some (.inl v4), some (.inl v5), none, none], [], g) (congrArg some (if_neg hc)) ?_
      refine ev_runs 3 (15, [some (.inr (.inr 69)), some (.inl c1), some (.inl c2), some (.inl c3), some (.inl v4), some (.inl v5), none, none], [], g) (19, [some (.inr (.inr 69)), some (.inl c1), some (.inl c2), some (.inl c3), some (.inl v4), some (.inl v5), none, none], [.inl v5, .inr (.inr 69), .inl c2], g) rfl ?_
      refine ec 175 22 [.inr (.inr 69), .inl v5] [.inl c2] rfl (ev_Pg_length v5 g _ rfl) ?_
      show Ev 177 22 [some (.inr (.inr 69)), some (.inl c1), some (.inl c2), some (.inl c3), some (.inl v4), some (.inl v5), none, none] [.inl (Pg_length v5 g), .inl c2] g _ _
      refine ev_runs 4 (22, [some (.inr (.inr 69)), some (.inl c1), some (.inl c2), some (.inl c3), some (.inl v4), some (.inl v5), none, none], [.inl (Pg_length v5 g), .inl c2], g) (30, [some (.inr (.inr 69)), some (.inl c1), some (.inl c2), some (.inl c3), some (.inl v4), some (.inl v5), some (.inl (imin c2 (Pg_length v5 g))), some (.inl 0)], [], g) rfl ?_
      refine ev_le (L := [some (.inr (.inr 69)), some (.inl c1), some (.inl c2), some (.inl c3), some (.inl v4), some (.inl v5), some (.inl (imin c2 (Pg_length v5 g))), some (.inl 0)]) (by simp [Lle]) ?_
      refine ev_Pg_rowsBeginningAs_l30 c1 c2 c3 v4 v5 (imin c2 (Pg_length v5 g)) _ ?_ fu 0 g r g' h
      · intro x1 g2 r g' h
        refine ev_runs 3 (63, [some (.inr (.inr 69)), some (.inl c1), some (.inl c2), some (.inl c3), some (.inl v4), some (.inl v5), none, some (.inl x1)], [], g2) (68, [some (.inr (.inr 69)), some (.inl c1), some (.inl c2), some (.inl c3), some (.inl v4), some (.inl v5), none, some (.inl x1)], [.inl c2, .inl x1, .inl v4], g2) rfl ?_
        by_cases hc : ¬ x1 = c2
        · rw [if_pos hc] at h
          refine es (78, [some (.inr (.inr 69)), some (.inl c1), some (.inl c2), some (.inl c3), some (.inl v4), some (.inl v5), none, some (.inl x1)], [.inl v4], g2) (congrArg some (if_pos hc)) ?_
          refine ev_runs 5 (78, [some (.inr (.inr 69)), some (.inl c1), some (.inl c2), some (.inl c3), some (.inl v4), some (.inl v5), none, some (.inl x1)], [.inl v4], g2) (6, [some (.inr (.inr 69)), some (.inl c1), some (.inl c2), some (.inl c3), some (.inl (jor v4 0)), some (.inl (wr (v5 + 1))), none, some (.inl x1)], [], g2) rfl ?_
          exact ev_le (L := [some (.inr (.inr 69)), some (.inl c1), some (.inl c2), some (.inl c3), some (.inl (jor v4 0)), some (.inl (wr (v5 + 1))), none, none]) (by simp [Lle]) (ih6 (jor v4 0) (wr (v5 + 1)) g2 r g' h)
        · rw [if_neg hc] at h
          refine es (71, [some (.inr (.inr 69)), some (.inl c1), some (.inl c2), some (.inl c3), some (.inl v4), some (.inl v5), none, some (.inl x1)], [.inl v4], g2) (congrArg some (if_neg hc)) ?_
          refine ev_runs 8 (71, [some (.inr (.inr 69)), some (.inl c1), some (.inl c2), some (.inl c3), some (.inl v4), some (.inl v5), none, some (.inl x1)], [.inl v4], g2) (6, [some (.inr (.inr 69)), some (.inl c1), some (.inl c2), some (.inl c3), some (.inl (jor v4 (jshl 1 v5))), some (.inl (wr (v5 + 1))), none, some (.inl x1)], [], g2) rfl ?_
          exact ev_le (L := [some (.inr (.inr 69)), some (.inl c1), some (.inl c2), some (.inl c3), some (.inl (jor v4 (jshl 1 v5))), some (.inl (wr (v5 + 1))), none, none]) (by simp [Lle]) (ih6 (jor v4 (jshl 1 v5)) (wr (v5 + 1)) g2 r g' h)
set_option maxRecDepth 100000 in
set_option maxHeartbeats 4000000 in
theorem ev_Pg_rowsBeginningAs (a1 a2 a3 : Int) (g : Gx) (r : Int) (g' : Gx) (h : Pg_rowsBeginningAs a1 a2 a3 g = some (r, g')) : Ev 177 0 [some (.inr (.inr 69)), some (.inl a1), some (.inl a2), some (.inl a3), none, none, none, none] [] g (some (.inl r)) g' := by
  rw [Pg_rowsBeginningAs] at h
  refine ev_runs 4 (0, [some (.inr (.inr 69)), some (.inl a1), some (.inl a2), some (.inl a3), none, none, none, none], [], g) (6, [some (.inr (.inr 69)), some (.inl a1), some (.inl a2), some (.inl a3), some (.inl 0), some (.inl 0), none, none], [], g) rfl ?_
  refine ev_le (L := [some (.inr (.inr 69)), some (.inl a1), some (.inl a2), some (.inl a3), some (.inl 0), some (.inl 0), none, none]) (by simp [Lle]) ?_
  refine ev_Pg_rowsBeginningAs_l6 a1 a2 a3 _ ?_ fu 0 0 g r g' h
  · intro x3 g4 r g' h
    refine ev_runs 1 (88, [none, none, none, none, some (.inl x3), none, none, none], [], g4) (90, [none, none, none, none, some (.inl x3), none, none, none], [.inl x3], g4) rfl ?_
    cases h
    exact er rfl
set_option maxRecDepth 100000 in
set_option maxHeartbeats 4000000 in
theorem ev_Pg_looksBeginningAs_l36 (c1 : Int) (c2 : Int) (c3 : Int) (c4 : Int) (c5 : Int) (c6 : Int) (K36_71 : Int → Gx → Option (Int × Gx)) (hK36_71 : ∀ (x7 : Int) (g : Gx) (r : Int) (g' : Gx), K36_71 x7 g = some (r, g') → Ev 178 71 [some (.inr (.inr 69)), some (.inl c1), some (.inl c2), some (.inl c3), some (.inl c4), some (.inl c5), none, some (.inl x7)] [] g (some (.inl r)) g') : ∀ (n36 : Nat) (v7 : Int) (g : Gx) (r : Int) (g' : Gx), Pg_looksBeginningAs_l36 c1 c2 c3 c4 c5 c6 K36_71 n36 v7 g = some (r, g') → Ev 178 36 [some (.inr (.inr 69)), some (.inl c1), some (.inl c2), some (.inl c3), some (.inl c4), some (.inl c5), some (.inl c6), some (.inl v7)] [] g (some (.inl r)) g' := by
  intro n36
  induction n36 with
  | zero => intro v7 g r g' h; cases h
  | succ n36 ih36 =>
    intro v7 g r g' h
    rw [Pg_looksBeginningAs_l36] at h
    refine ev_runs 2 (36, [some (.inr (.inr 69)), some (.inl c1), some (.inl c2), some (.inl c3), some (.inl c4), some (.inl c5), some (.inl c6), some (.inl v7)], [], g) (40, [some (.inr (.inr 69)), some (.inl c1), some (.inl c2), some (.inl c3), some (.inl c4), some (.inl c5), some (.inl c6), some (.inl v7)], [.inl c6, .inl v7], g) rfl ?_
    by_cases hc : c6 ≤ v7
    · rw [if_pos hc] at h
      refine es (71, [some (.inr (.inr 69)), some (.inl c1), some (.inl c2), some (.inl c3), some (.inl c4), some (.inl c5), some (.inl c6), some (.inl v7)], [], g) (congrArg some (if_pos hc)) ?_
      exact ev_le (L := [some (.inr (.inr 69)), some (.inl c1), some (.inl c2), some (.inl c3), some (.inl c4), some (.inl c5), none, some (.inl v7)]) (by simp [Lle]) (hK36_71 v7 g r g' h)
    · rw [if_neg hc] at h
      refine es (43, [some (.inr (.inr 69)), some (.inl c1), some (.inl c2), some (.inl c3), some (.inl c4), some (.inl c5), some (.inl c6), some (.inl v7)], [], g) (congrArg some (if_neg hc)) ?_
      refine ev_runs 4 (43, [some (.inr (.inr 69)), some (.inl c1), some (.inl c2), some (.inl c3), some (.inl c4), some (.inl c5), some (.inl c6), some (.inl v7)], [], g) (51, [some (.inr (.inr 69)), some (.inl c1), some (.inl c2), some (.inl c3), some (.inl c4), some (.inl c5), some (.inl c6), some (.inl v7)], [.inl v7, .inl c5, .inr (.inr 50)], g) rfl ?_
      refine ec 96 54 [.inr (.inr 50), .inl c5, .inl v7] [] rfl (ev_Lk_act c5 v7 g _ rfl) ?_
      show Ev 178 54 [some (.inr (.inr 69)), some (.inl c1), some (.inl c2), some (.inl c3), some (.inl c4), some (.inl c5), some (.inl c6), some (.inl v7)] [.inl (Lk_act c5 v7 g)] g _ _
      refine ev_runs 4 (54, [some (.inr (.inr 69)), some (.inl c1), some (.inl c2), some (.inl c3), some (.inl c4), some (.inl c5), some (.inl c6), some (.inl v7)], [.inl (Lk_act c5 v7 g)], g) (59, [some (.inr (.inr 69)), some (.inl c1), some (.inl c2), some (.inl c3), some (.inl c4), some (.inl c5), some (.inl c6), some (.inl v7)], [.inl c3, .inl v7, .inl c1, .inr (.inr 69), .inl (Lk_act c5 v7 g)], g) rfl ?_
      refine ec 176 62 [.inr (.inr 69), .inl c1, .inl v7, .inl c3] [.inl (Lk_act c5 v7 g)] rfl (ev_Pg_act c1 v7 c3 g _ rfl) ?_
      show Ev 178 62 [some (.inr (.inr 69)), some (.inl c1), some (.inl c2), some (.inl c3), some (.inl c4), some (.inl c5), some (.inl c6), some (.inl v7)] [.inl (Pg_act c1 v7 c3 g), .inl (Lk_act c5 v7 g)] g _ _
      by_cases hc : ¬ (Lk_act c5 v7 g) = (Pg_act c1 v7 c3 g)
      · rw [if_pos hc] at h
        refine es (71, [some (.inr (.inr 69)), some (.inl c1), some (.inl c2), some (.inl c3), some (.inl c4), some (.inl c5), some (.inl c6), some (.inl v7)], [], g) (congrArg some (if_pos hc)) ?_
        exact ev_le (L := [some (.inr (.inr 69)), some (.inl c1), some (.inl c2), some (.inl c3), some (.inl c4), some (.inl c5), none, some (.inl v7)]) (by simp [Lle]) (hK36_71 v7 g r g' h)
      · rw [if_neg hc] at h
        refine es (65, [some (.inr (.inr 69)), some (.inl c1), some (.inl c2), some (.inl c3), some (.inl c4), some (.inl c5), some (.inl c6), some (.inl v7)], [], g) (congrArg some (if_neg hc)) ?_
        refine ev_runs 2 (65, [some (.inr (.inr 69)), some (.inl c1), some (.inl c2), some (.inl c3), some (.inl c4), some (.inl c5), some (.inl c6), some (.inl v7)], [], g) (36, [some (.inr (.inr 69)), some (.inl c1), some (.inl c2), some (.inl c3), some (.inl c4), some (.inl c5), some (.inl c6), some (.inl (wr (v7 + 1)))], [], g) rfl ?_
        exact ev_le (L := [some (.inr (.inr 69)), some (.inl c1), some (.inl c2), some (.inl c3), some (.inl c4), some (.inl c5), some (.inl c6), some (.inl (wr (v7 + 1)))]) (by simp [Lle]) (ih36 (wr (v7 + 1)) g r g' h)
set_option maxRecDepth 100000 in
set_option maxHeartbeats 4000000 in
theorem ev_Pg_looksBeginningAs_l6 (c1 : Int) (c2 : Int) (c3 : Int) (K6_96 : Int → Gx → Option (Int × Gx)) (hK6_96 : ∀ (x4 : Int) (g : Gx) (r : Int) (g' : Gx), K6_96 x4 g = some (r, g') → Ev 178 96 [none, none, none, none, some (.inl x4), none, none, none] [] g (some (.inl r)) g') : ∀ (n6 : Nat) (v4 v5 : Int) (g : Gx) (r : Int) (g' : Gx), Pg_looksBeginningAs_l6 c1 c2 c3 K6_96 n6 v4 v5 g = some (r, g') → Ev 178 6 [some (.inr (.inr 69)), some (.inl c1), some (.inl c2), some (.inl c3), some (.inl v4), some (.inl v5), none, none] [] g (some (.inl r)) g' := by
  intro n6
  induction n6 with
  | zero => intro v4 v5 g r g' h; cases h
  | succ n6 ih6 =>
    intro v4 v5 g r g' h
    rw [Pg_looksBeginningAs_l6] at h
    refine ev_runs 3 (6, [some (.inr (.inr 69)), some (.inl c1), some (.inl c2), some (.inl c3), some (.inl v4), some (.inl v5), none, none], [], g) (12, [some (.inr (.inr 69)), some (.inl c1), some (.inl c2), some (.inl c3), some (.inl v4), some (.inl v5), none, none], [.inr (.inr 33), .inl v5], g) rfl ?_
    refine ec 74 15 [.inr (.inr 33)] [.inl v5] rfl (ev_Hi_size g _ rfl) ?_
    show Ev 178 15 [some (.inr (.inr 69)), some (.inl c1), some (.inl c2), some (.inl c3), some (.inl v4), some (.inl v5), none, none] [.inl (Hi_size g), .inl v5] g _ _
    by_cases hc : (Hi_size g) ≤ v5
    · rw [if_pos hc] at h
      refine es (96, [some (.inr (.inr 69)), some (.inl c1), some (.inl c2), some (.inl c3), some (.inl v4), some (.inl v5), none, none], [], g) (congrArg some (if_pos hc)) ?_
      exact ev_le (L := [none, none, none, none, some (.inl v4), none, none, none]) (by simp [Lle]) (hK6_96 v4 g r g' h)
    · rw [if_neg hc] at h
      refine es (18, [some (.inr (.inr 69)), some (.inl c1), some (.inl c2), some (.inl c3), some (.inl v4), some (.inl v5), none, none], [], g) (congrArg some (if_neg hc)) ?_
      refine ev_runs 4 (18, [some (.inr (.inr 69)), some (.inl c1), some (.inl c2), some (.inl c3), some (.inl v4), some (.inl v5), none, none], [], g) (25, [some (.inr (.inr 69)), some (.inl c1), some (.inl c2), some (.inl c3), some (.inl v4), some (.inl v5), none, none], [.inl v5, .inr (.inr 50), .inl c2], g) rfl ?_
      refine ec 95 28 [.inr (.inr 50), .inl v5] [.inl c2] rfl (ev_Lk_length v5 g _ rfl) ?_
      show Ev 178 28 [some (.inr (.inr 69)), some (.inl c1), some (.inl c2), some (.inl c3), some (.inl v4), some (.inl v5), none, none] [.inl (Lk_length v5 g), .inl c2] g _ _
      refine ev_runs 4 (28, [some (.inr (.inr 69)), some (.inl c1), some (.inl c2), some (.inl c3), some (.inl v4), some (.inl v5), none, none], [.inl (Lk_length v5 g), .inl c2], g) (36, [some (.inr (.inr 69)), some (.inl c1), some (.inl c2), some (.inl c3), some (.inl v4), some (.inl v5), some (.inl (imin c2 (Lk_length v5 g))), some (.inl 0)], [], g) rfl ?_
      refine ev_le (L := [some (.inr (.inr 69)), some (.inl c1), some (.inl c2), some (.inl c3), some (.inl v4), some (.inl v5), some (.inl (imin c2 (Lk_length v5 g))), some (.inl 0)]) (by simp [Lle]) ?_
      refine ev_Pg_looksBeginningAs_l36 c1 c2 c3 v4 v5 (imin c2 (Lk_length v5 g)) _ ?_ fu 0 g r g' h
      · intro x1 g2 r g' h
        refine ev_runs 3 (71, [some (.inr (.inr 69)), some (.inl c1), some (.inl c2), some (.inl c3), some (.inl v4), some (.inl v5), none, some (.inl x1)], [], g2) (76, [some (.inr (.inr 69)), some (.inl c1), some (.inl c2), some (.inl c3), some (.inl v4), some (.inl v5), none, some (.inl x1)], [.inl c2, .inl x1, .inl v4], g2) rfl ?_
        by_cases hc : ¬ x1 = c2
        · rw [if_pos hc] at h
          refine es (86, [some (.inr (.inr 69)), some (.inl c1), some (.inl c2), some (.inl c3), some (.inl v4), some (.inl v5), none, some (.inl x1)], [.inl v4], g2) (congrArg some (if_pos hc)) ?_
          refine ev_runs 5 (86, [some (.inr (.inr 69)), some (.inl c1), some (.inl c2), some (.inl c3), some (.inl v4), some (.inl v5), none, some (.inl x1)], [.inl v4], g2) (6, [some (.inr (.inr 69)), some (.inl c1), some (.inl c2), some (.inl c3), some (.inl (jor v4 0)), some (.inl (wr (v5 + 1))), none, some (.inl x1)], [], g2) rfl ?_
          exact ev_le (L := [some (.inr (.inr 69)), some (.inl c1), some (.inl c2), some (.inl c3), some (.inl (jor v4 0)), some (.inl (wr (v5 + 1))), none, none]) (by simp [Lle]) (ih6 (jor v4 0) (wr (v5 + 1)) g2 r g' h)
        · rw [if_neg hc] at h
          refine es (79, [some (.inr (.inr 69)), some (.inl c1), some (.inl c2), some (.inl c3), some (.inl v4), some (.inl v5), none, some (.inl x1)], [.inl v4], g2) (congrArg some (if_neg hc)) ?_
          refine ev_runs 8 (79, [some (.inr (.inr 69)), some (.inl c1), some (.inl c2), some (.inl c3), some (.inl v4), some (.inl v5), none, some (.inl x1)], [.inl v4], g2) (6, [some (.inr (.inr 69)), some (.inl c1), some (.inl c2), some (.inl c3), some (.inl (jor v4 (jshl 1 v5))), some (.inl (wr (v5 + 1))), none, some (.inl x1)], [], g2) rfl ?_
          exact ev_le (L := [some (.inr (.inr 69)), some (.inl c1), some (.inl c2), some (.inl c3), some (.inl (jor v4 (jshl 1 v5))), some (.inl (wr (v5 + 1))), none, none]) (by simp [Lle]) (ih6 (jor v4 (jshl 1 v5)) (wr (v5 + 1)) g2 r g' h)
set_option maxRecDepth 100000 in
set_option maxHeartbeats 4000000 in
theorem ev_Pg_looksBeginningAs (a1 a2 a3 : Int) (g : Gx) (r : Int) (g' : Gx) (h : Pg_looksBeginningAs a1 a2 a3 g = some (r, g')) : Ev 178 0 [some (.inr (.inr 69)), some (.inl a1), some (.inl a2), some (.inl a3), none, none, none, none] [] g (some (.inl r)) g' := by
  rw [Pg_looksBeginningAs] at h
  refine ev_runs 4 (0, [some (.inr (.inr 69)), some (.inl a1), some (.inl a2), some (.inl a3), none, none, none, none], [], g) (6, [some (.inr (.inr 69)), some (.inl a1), some (.inl a2), some (.inl a3), some (.inl 0), some (.inl 0), none, none], [], g) rfl ?_
  refine ev_le (L := [some (.inr (.inr 69)), some (.inl a1), some (.inl a2), some (.inl a3), some (.inl 0), some (.inl 0), none, none]) (by simp [Lle]) ?_
  refine ev_Pg_looksBeginningAs_l6 a1 a2 a3 _ ?_ fu 0 0 g r g' h
  · intro x3 g4 r g' h
    refine ev_runs 1 (96, [none, none, none, none, some (.inl x3), none, none, none], [], g4) (98, [none, none, none, none, some (.inl x3), none, none, none], [.inl x3], g4) rfl ?_
    cases h
    exact er rfl
