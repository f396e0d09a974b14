/-! The small machine does what the functions say. Printed by wip/gen/gen_parts.py. -/
set_option maxRecDepth 100000 in
set_option maxHeartbeats 4000000 in
theorem ev_Law_law_l18 (K18_1156 : Gx → Option (Int × Gx)) (hK18_1156 : ∀ (g : Gx) (r : Int) (g' : Gx), K18_1156 g = some (r, g') → Ev 259 1156 [none, none, none, none] [] g (some (.inl r)) g') : ∀ (n18 : Nat) (v3 : Int) (g : Gx) (r : Int) (g' : Gx), Law_law_l18 K18_1156 n18 v3 g = some (r, g') → Ev 259 18 [some (.inr (.inr 1000)), some (.inr (.inr 0)), some (.inr (.inr 92)), some (.inl v3)] [] g (some (.inl r)) g' := by
  intro n18
  induction n18 with
  | zero => intro v3 g r g' h; cases h
  | succ n18 ih18 =>
    intro v3 g r g' h
    rw [Law_law_l18] at h
    refine ev_runs 5 (18, [some (.inr (.inr 1000)), some (.inr (.inr 0)), some (.inr (.inr 92)), some (.inl v3)], [], g) (24, [some (.inr (.inr 1000)), some (.inr (.inr 0)), some (.inr (.inr 92)), some (.inl v3)], [.inl (wr ((g 1001 0) - 6)), .inl v3], g) rfl ?_
    by_cases hc : (wr ((g 1001 0) - 6)) < v3
    · rw [if_pos hc] at h
      refine es (1156, [some (.inr (.inr 1000)), some (.inr (.inr 0)), some (.inr (.inr 92)), some (.inl v3)], [], g) (congrArg some (if_pos hc)) ?_
      exact ev_le (L := [none, none, none, none]) (by simp [Lle]) (hK18_1156 g r g' h)
    · rw [if_neg hc] at h
      refine es (27, [some (.inr (.inr 1000)), some (.inr (.inr 0)), some (.inr (.inr 92)), some (.inl v3)], [], g) (congrArg some (if_neg hc)) ?_
      refine ev_runs 2 (27, [some (.inr (.inr 1000)), some (.inr (.inr 0)), some (.inr (.inr 92)), some (.inl v3)], [], g) (29, [some (.inr (.inr 1000)), some (.inr (.inr 0)), some (.inr (.inr 92)), some (.inl v3)], [.inl v3, .inr (.inr 1000)], g) rfl ?_
      by_cases hc : (1000 : Nat) = 1000 ∧ 0 ≤ v3 ∧ v3 < (g 1001 0)
      · rw [if_pos hc] at h
        refine es (30, [some (.inr (.inr 1000)), some (.inr (.inr 0)), some (.inr (.inr 92)), some (.inl v3)], [.inl (g 1000 v3.toNat)], g) (if_pos hc) ?_
        refine ev_runs 2 (30, [some (.inr (.inr 1000)), some (.inr (.inr 0)), some (.inr (.inr 92)), some (.inl v3)], [.inl (g 1000 v3.toNat)], g) (33, [some (.inr (.inr 1000)), some (.inr (.inr 0)), some (.inr (.inr 92)), some (.inl v3)], [.inl (jand (g 1000 v3.toNat) 63)], g) rfl ?_
        by_cases hd : (jand (g 1000 v3.toNat) 63) < 0 ∨ 32 < (jand (g 1000 v3.toNat) 63)
        · rw [if_pos hd] at h
          refine ev_sw (tgt := 1150) rfl (if_pos hd) ?_
          show Ev 259 1150 [some (.inr (.inr 1000)), some (.inr (.inr 0)), some (.inr (.inr 92)), some (.inl v3)] [] g _ _
          refine ev_runs 2 (1150, [some (.inr (.inr 1000)), some (.inr (.inr 0)), some (.inr (.inr 92)), some (.inl v3)], [], g) (18, [some (.inr (.inr 1000)), some (.inr (.inr 0)), some (.inr (.inr 92)), some (.inl (wr (v3 + 6)))], [], g) rfl ?_
          exact ev_le (L := [some (.inr (.inr 1000)), some (.inr (.inr 0)), some (.inr (.inr 92)), some (.inl (wr (v3 + 6)))]) (by simp [Lle]) (ih18 (wr (v3 + 6)) g r g' h)
        rw [if_neg hd] at h
        by_cases hx0 : (jand (g 1000 v3.toNat) 63) = 0
        · rw [if_pos hx0] at h
          refine ev_sw (tgt := 180) rfl (by rw [hx0]; rfl) ?_
          show Ev 259 180 [some (.inr (.inr 1000)), some (.inr (.inr 0)), some (.inr (.inr 92)), some (.inl v3)] [] g _ _
          refine ev_runs 5 (180, [some (.inr (.inr 1000)), some (.inr (.inr 0)), some (.inr (.inr 92)), some (.inl v3)], [], g) (185, [some (.inr (.inr 1000)), some (.inr (.inr 0)), some (.inr (.inr 92)), some (.inl v3)], [.inl (wr (v3 + 1)), .inr (.inr 1000), .inr (.inr 0)], g) rfl ?_
          by_cases hc : (1000 : Nat) = 1000 ∧ 0 ≤ (wr (v3 + 1)) ∧ (wr (v3 + 1)) < (g 1001 0)
          · rw [if_pos hc] at h
            refine es (186, [some (.inr (.inr 1000)), some (.inr (.inr 0)), some (.inr (.inr 92)), some (.inl v3)], [.inl (g 1000 (wr (v3 + 1)).toNat), .inr (.inr 0)], g) (if_pos hc) ?_
            refine ev_runs 4 (186, [some (.inr (.inr 1000)), some (.inr (.inr 0)), some (.inr (.inr 92)), some (.inl v3)], [.inl (g 1000 (wr (v3 + 1)).toNat), .inr (.inr 0)], g) (190, [some (.inr (.inr 1000)), some (.inr (.inr 0)), some (.inr (.inr 92)), some (.inl v3)], [.inl (wr (v3 + 2)), .inr (.inr 1000), .inl (g 1000 (wr (v3 + 1)).toNat), .inr (.inr 0)], g) rfl ?_
            by_cases hc : (1000 : Nat) = 1000 ∧ 0 ≤ (wr (v3 + 2)) ∧ (wr (v3 + 2)) < (g 1001 0)
            · rw [if_pos hc] at h
              refine es (191, [some (.inr (.inr 1000)), some (.inr (.inr 0)), some (.inr (.inr 92)), some (.inl v3)], [.inl (g 1000 (wr (v3 + 2)).toNat), .inl (g 1000 (wr (v3 + 1)).toNat), .inr (.inr 0)], g) (if_pos hc) ?_
              obtain ⟨q1, hq, h⟩ := lett_inv h
              refine ec 3 194 [.inr (.inr 0), .inl (g 1000 (wr (v3 + 1)).toNat), .inl (g 1000 (wr (v3 + 2)).toNat)] [] rfl (ev_Op_type (g 1000 (wr (v3 + 1)).toNat) (g 1000 (wr (v3 + 2)).toNat) g q1.1 q1.2 hq.symm) ?_
              show Ev 259 194 [some (.inr (.inr 1000)), some (.inr (.inr 0)), some (.inr (.inr 92)), some (.inl v3)] [.inl q1.1] q1.2 _ _
              refine ev_runs 5 (194, [some (.inr (.inr 1000)), some (.inr (.inr 0)), some (.inr (.inr 92)), some (.inl v3)], [.inl q1.1], q1.2) (199, [some (.inr (.inr 1000)), some (.inr (.inr 0)), some (.inr (.inr 92)), some (.inl v3)], [.inl (wr (v3 + 1)), .inr (.inr 1000), .inr (.inr 92), .inl q1.1], q1.2) rfl ?_
              by_cases hc : (1000 : Nat) = 1000 ∧ 0 ≤ (wr (v3 + 1)) ∧ (wr (v3 + 1)) < (q1.2 1001 0)
              · rw [if_pos hc] at h
                refine es (200, [some (.inr (.inr 1000)), some (.inr (.inr 0)), some (.inr (.inr 92)), some (.inl v3)], [.inl (q1.2 1000 (wr (v3 + 1)).toNat), .inr (.inr 92), .inl q1.1], q1.2) (if_pos hc) ?_
                refine ev_runs 4 (200, [some (.inr (.inr 1000)), some (.inr (.inr 0)), some (.inr (.inr 92)), some (.inl v3)], [.inl (q1.2 1000 (wr (v3 + 1)).toNat), .inr (.inr 92), .inl q1.1], q1.2) (204, [some (.inr (.inr 1000)), some (.inr (.inr 0)), some (.inr (.inr 92)), some (.inl v3)], [.inl (wr (v3 + 2)), .inr (.inr 1000), .inl (q1.2 1000 (wr (v3 + 1)).toNat), .inr (.inr 92), .inl q1.1], q1.2) rfl ?_
                by_cases hc : (1000 : Nat) = 1000 ∧ 0 ≤ (wr (v3 + 2)) ∧ (wr (v3 + 2)) < (q1.2 1001 0)
                · rw [if_pos hc] at h
                  refine es (205, [some (.inr (.inr 1000)), some (.inr (.inr 0)), some (.inr (.inr 92)), some (.inl v3)], [.inl (q1.2 1000 (wr (v3 + 2)).toNat), .inl (q1.2 1000 (wr (v3 + 1)).toNat), .inr (.inr 92), .inl q1.1], q1.2) (if_pos hc) ?_
                  obtain ⟨q2, hq, h⟩ := Option.bind_eq_some_iff.mp h
                  refine ec 6 208 [.inr (.inr 92), .inl (q1.2 1000 (wr (v3 + 1)).toNat), .inl (q1.2 1000 (wr (v3 + 2)).toNat)] [.inl q1.1] rfl (ev_Md_type (q1.2 1000 (wr (v3 + 1)).toNat) (q1.2 1000 (wr (v3 + 2)).toNat) q1.2 q2.1 q2.2 hq) ?_
                  show Ev 259 208 [some (.inr (.inr 1000)), some (.inr (.inr 0)), some (.inr (.inr 92)), some (.inl v3)] [.inl q2.1, .inl q1.1] q2.2 _ _
                  by_cases hc : q1.1 = q2.1
                  · rw [if_pos hc] at h
                    refine es (1150, [some (.inr (.inr 1000)), some (.inr (.inr 0)), some (.inr (.inr 92)), some (.inl v3)], [], q2.2) (congrArg some (if_pos hc)) ?_
                    refine ev_runs 2 (1150, [some (.inr (.inr 1000)), some (.inr (.inr 0)), some (.inr (.inr 92)), some (.inl v3)], [], q2.2) (18, [some (.inr (.inr 1000)), some (.inr (.inr 0)), some (.inr (.inr 92)), some (.inl (wr (v3 + 6)))], [], q2.2) rfl ?_
                    exact ev_le (L := [some (.inr (.inr 1000)), some (.inr (.inr 0)), some (.inr (.inr 92)), some (.inl (wr (v3 + 6)))]) (by simp [Lle]) (ih18 (wr (v3 + 6)) q2.2 r g' h)
                  · rw [if_neg hc] at h
                    refine es (211, [some (.inr (.inr 1000)), some (.inr (.inr 0)), some (.inr (.inr 92)), some (.inl v3)], [], q2.2) (congrArg some (if_neg hc)) ?_
                    refine ev_runs 1 (211, [some (.inr (.inr 1000)), some (.inr (.inr 0)), some (.inr (.inr 92)), some (.inl v3)], [], q2.2) (212, [some (.inr (.inr 1000)), some (.inr (.inr 0)), some (.inr (.inr 92)), some (.inl v3)], [.inl 0], q2.2) rfl ?_
                    cases h
                    exact er rfl
                · rw [if_neg hc] at h; cases h
              · rw [if_neg hc] at h; cases h
            · rw [if_neg hc] at h; cases h
          · rw [if_neg hc] at h; cases h
        rw [if_neg hx0] at h
        by_cases hx1 : (jand (g 1000 v3.toNat) 63) = 1
        · rw [if_pos hx1] at h
          refine ev_sw (tgt := 213) rfl (by rw [hx1]; rfl) ?_
          show Ev 259 213 [some (.inr (.inr 1000)), some (.inr (.inr 0)), some (.inr (.inr 92)), some (.inl v3)] [] g _ _
          refine ev_runs 5 (213, [some (.inr (.inr 1000)), some (.inr (.inr 0)), some (.inr (.inr 92)), some (.inl v3)], [], g) (218, [some (.inr (.inr 1000)), some (.inr (.inr 0)), some (.inr (.inr 92)), some (.inl v3)], [.inl (wr (v3 + 1)), .inr (.inr 1000), .inr (.inr 0)], g) rfl ?_
          by_cases hc : (1000 : Nat) = 1000 ∧ 0 ≤ (wr (v3 + 1)) ∧ (wr (v3 + 1)) < (g 1001 0)
          · rw [if_pos hc] at h
            refine es (219, [some (.inr (.inr 1000)), some (.inr (.inr 0)), some (.inr (.inr 92)), some (.inl v3)], [.inl (g 1000 (wr (v3 + 1)).toNat), .inr (.inr 0)], g) (if_pos hc) ?_
            obtain ⟨q3, hq, h⟩ := lett_inv h
            refine ec 8 222 [.inr (.inr 0), .inl (g 1000 (wr (v3 + 1)).toNat)] [] rfl (ev_Op_wipe (g 1000 (wr (v3 + 1)).toNat) g q3.1 q3.2 hq.symm) ?_
            show Ev 259 222 [some (.inr (.inr 1000)), some (.inr (.inr 0)), some (.inr (.inr 92)), some (.inl v3)] [.inl q3.1] q3.2 _ _
            refine ev_runs 5 (222, [some (.inr (.inr 1000)), some (.inr (.inr 0)), some (.inr (.inr 92)), some (.inl v3)], [.inl q3.1], q3.2) (227, [some (.inr (.inr 1000)), some (.inr (.inr 0)), some (.inr (.inr 92)), some (.inl v3)], [.inl (wr (v3 + 1)), .inr (.inr 1000), .inr (.inr 92), .inl q3.1], q3.2) rfl ?_
            by_cases hc : (1000 : Nat) = 1000 ∧ 0 ≤ (wr (v3 + 1)) ∧ (wr (v3 + 1)) < (q3.2 1001 0)
            · rw [if_pos hc] at h
              refine es (228, [some (.inr (.inr 1000)), some (.inr (.inr 0)), some (.inr (.inr 92)), some (.inl v3)], [.inl (q3.2 1000 (wr (v3 + 1)).toNat), .inr (.inr 92), .inl q3.1], q3.2) (if_pos hc) ?_
              obtain ⟨q4, hq, h⟩ := Option.bind_eq_some_iff.mp h
              refine ec 9 231 [.inr (.inr 92), .inl (q3.2 1000 (wr (v3 + 1)).toNat)] [.inl q3.1] rfl (ev_Md_wipe (q3.2 1000 (wr (v3 + 1)).toNat) q3.2 q4.1 q4.2 hq) ?_
              show Ev 259 231 [some (.inr (.inr 1000)), some (.inr (.inr 0)), some (.inr (.inr 92)), some (.inl v3)] [.inl q4.1, .inl q3.1] q4.2 _ _
              by_cases hc : q3.1 = q4.1
              · rw [if_pos hc] at h
                refine es (1150, [some (.inr (.inr 1000)), some (.inr (.inr 0)), some (.inr (.inr 92)), some (.inl v3)], [], q4.2) (congrArg some (if_pos hc)) ?_
                refine ev_runs 2 (1150, [some (.inr (.inr 1000)), some (.inr (.inr 0)), some (.inr (.inr 92)), some (.inl v3)], [], q4.2) (18, [some (.inr (.inr 1000)), some (.inr (.inr 0)), some (.inr (.inr 92)), some (.inl (wr (v3 + 6)))], [], q4.2) rfl ?_
                exact ev_le (L := [some (.inr (.inr 1000)), some (.inr (.inr 0)), some (.inr (.inr 92)), some (.inl (wr (v3 + 6)))]) (by simp [Lle]) (ih18 (wr (v3 + 6)) q4.2 r g' h)
              · rw [if_neg hc] at h
                refine es (234, [some (.inr (.inr 1000)), some (.inr (.inr 0)), some (.inr (.inr 92)), some (.inl v3)], [], q4.2) (congrArg some (if_neg hc)) ?_
                refine ev_runs 1 (234, [some (.inr (.inr 1000)), some (.inr (.inr 0)), some (.inr (.inr 92)), some (.inl v3)], [], q4.2) (235, [some (.inr (.inr 1000)), some (.inr (.inr 0)), some (.inr (.inr 92)), some (.inl v3)], [.inl 0], q4.2) rfl ?_
                cases h
                exact er rfl
            · rw [if_neg hc] at h; cases h
          · rw [if_neg hc] at h; cases h
        rw [if_neg hx1] at h
        by_cases hx2 : (jand (g 1000 v3.toNat) 63) = 2
        · rw [if_pos hx2] at h
          refine ev_sw (tgt := 236) rfl (by rw [hx2]; rfl) ?_
          show Ev 259 236 [some (.inr (.inr 1000)), some (.inr (.inr 0)), some (.inr (.inr 92)), some (.inl v3)] [] g _ _
          refine ev_runs 5 (236, [some (.inr (.inr 1000)), some (.inr (.inr 0)), some (.inr (.inr 92)), some (.inl v3)], [], g) (241, [some (.inr (.inr 1000)), some (.inr (.inr 0)), some (.inr (.inr 92)), some (.inl v3)], [.inl (wr (v3 + 1)), .inr (.inr 1000), .inr (.inr 0)], g) rfl ?_
          by_cases hc : (1000 : Nat) = 1000 ∧ 0 ≤ (wr (v3 + 1)) ∧ (wr (v3 + 1)) < (g 1001 0)
          · rw [if_pos hc] at h
            refine es (242, [some (.inr (.inr 1000)), some (.inr (.inr 0)), some (.inr (.inr 92)), some (.inl v3)], [.inl (g 1000 (wr (v3 + 1)).toNat), .inr (.inr 0)], g) (if_pos hc) ?_
            obtain ⟨q5, hq, h⟩ := Option.bind_eq_some_iff.mp h
            refine ec 35 245 [.inr (.inr 0), .inl (g 1000 (wr (v3 + 1)).toNat)] [] rfl (ev_Op_fault (g 1000 (wr (v3 + 1)).toNat) g q5.1 q5.2 hq) ?_
            show Ev 259 245 [some (.inr (.inr 1000)), some (.inr (.inr 0)), some (.inr (.inr 92)), some (.inl v3)] [.inl q5.1] q5.2 _ _
            refine ev_runs 5 (245, [some (.inr (.inr 1000)), some (.inr (.inr 0)), some (.inr (.inr 92)), some (.inl v3)], [.inl q5.1], q5.2) (250, [some (.inr (.inr 1000)), some (.inr (.inr 0)), some (.inr (.inr 92)), some (.inl v3)], [.inl (wr (v3 + 1)), .inr (.inr 1000), .inr (.inr 92), .inl q5.1], q5.2) rfl ?_
            by_cases hc : (1000 : Nat) = 1000 ∧ 0 ≤ (wr (v3 + 1)) ∧ (wr (v3 + 1)) < (q5.2 1001 0)
            · rw [if_pos hc] at h
              refine es (251, [some (.inr (.inr 1000)), some (.inr (.inr 0)), some (.inr (.inr 92)), some (.inl v3)], [.inl (q5.2 1000 (wr (v3 + 1)).toNat), .inr (.inr 92), .inl q5.1], q5.2) (if_pos hc) ?_
              obtain ⟨q6, hq, h⟩ := Option.bind_eq_some_iff.mp h
              refine ec 45 254 [.inr (.inr 92), .inl (q5.2 1000 (wr (v3 + 1)).toNat)] [.inl q5.1] rfl (ev_Md_fault (q5.2 1000 (wr (v3 + 1)).toNat) q5.2 q6.1 q6.2 hq) ?_
              show Ev 259 254 [some (.inr (.inr 1000)), some (.inr (.inr 0)), some (.inr (.inr 92)), some (.inl v3)] [.inl q6.1, .inl q5.1] q6.2 _ _
              by_cases hc : q5.1 = q6.1
              · rw [if_pos hc] at h
                refine es (1150, [some (.inr (.inr 1000)), some (.inr (.inr 0)), some (.inr (.inr 92)), some (.inl v3)], [], q6.2) (congrArg some (if_pos hc)) ?_
                refine ev_runs 2 (1150, [some (.inr (.inr 1000)), some (.inr (.inr 0)), some (.inr (.inr 92)), some (.inl v3)], [], q6.2) (18, [some (.inr (.inr 1000)), some (.inr (.inr 0)), some (.inr (.inr 92)), some (.inl (wr (v3 + 6)))], [], q6.2) rfl ?_
                exact ev_le (L := [some (.inr (.inr 1000)), some (.inr (.inr 0)), some (.inr (.inr 92)), some (.inl (wr (v3 + 6)))]) (by simp [Lle]) (ih18 (wr (v3 + 6)) q6.2 r g' h)
              · rw [if_neg hc] at h
                refine es (257, [some (.inr (.inr 1000)), some (.inr (.inr 0)), some (.inr (.inr 92)), some (.inl v3)], [], q6.2) (congrArg some (if_neg hc)) ?_
                refine ev_runs 1 (257, [some (.inr (.inr 1000)), some (.inr (.inr 0)), some (.inr (.inr 92)), some (.inl v3)], [], q6.2) (258, [some (.inr (.inr 1000)), some (.inr (.inr 0)), some (.inr (.inr 92)), some (.inl v3)], [.inl 0], q6.2) rfl ?_
                cases h
                exact er rfl
            · rw [if_neg hc] at h; cases h
          · rw [if_neg hc] at h; cases h
        rw [if_neg hx2] at h
        by_cases hx3 : (jand (g 1000 v3.toNat) 63) = 3
        · rw [if_pos hx3] at h
          refine ev_sw (tgt := 259) rfl (by rw [hx3]; rfl) ?_
          show Ev 259 259 [some (.inr (.inr 1000)), some (.inr (.inr 0)), some (.inr (.inr 92)), some (.inl v3)] [] g _ _
          refine ev_runs 5 (259, [some (.inr (.inr 1000)), some (.inr (.inr 0)), some (.inr (.inr 92)), some (.inl v3)], [], g) (264, [some (.inr (.inr 1000)), some (.inr (.inr 0)), some (.inr (.inr 92)), some (.inl v3)], [.inl (wr (v3 + 1)), .inr (.inr 1000), .inr (.inr 0)], g) rfl ?_
          by_cases hc : (1000 : Nat) = 1000 ∧ 0 ≤ (wr (v3 + 1)) ∧ (wr (v3 + 1)) < (g 1001 0)
          · rw [if_pos hc] at h
            refine es (265, [some (.inr (.inr 1000)), some (.inr (.inr 0)), some (.inr (.inr 92)), some (.inl v3)], [.inl (g 1000 (wr (v3 + 1)).toNat), .inr (.inr 0)], g) (if_pos hc) ?_
            obtain ⟨q7, hq, h⟩ := Option.bind_eq_some_iff.mp h
            refine ec 49 268 [.inr (.inr 0), .inl (g 1000 (wr (v3 + 1)).toNat)] [] rfl (ev_Op_plan (g 1000 (wr (v3 + 1)).toNat) g q7.1 q7.2 hq) ?_
            show Ev 259 268 [some (.inr (.inr 1000)), some (.inr (.inr 0)), some (.inr (.inr 92)), some (.inl v3)] [.inl q7.1] q7.2 _ _
            refine ev_runs 5 (268, [some (.inr (.inr 1000)), some (.inr (.inr 0)), some (.inr (.inr 92)), some (.inl v3)], [.inl q7.1], q7.2) (273, [some (.inr (.inr 1000)), some (.inr (.inr 0)), some (.inr (.inr 92)), some (.inl v3)], [.inl (wr (v3 + 1)), .inr (.inr 1000), .inr (.inr 92), .inl q7.1], q7.2) rfl ?_
            by_cases hc : (1000 : Nat) = 1000 ∧ 0 ≤ (wr (v3 + 1)) ∧ (wr (v3 + 1)) < (q7.2 1001 0)
            · rw [if_pos hc] at h
              refine es (274, [some (.inr (.inr 1000)), some (.inr (.inr 0)), some (.inr (.inr 92)), some (.inl v3)], [.inl (q7.2 1000 (wr (v3 + 1)).toNat), .inr (.inr 92), .inl q7.1], q7.2) (if_pos hc) ?_
              obtain ⟨q8, hq, h⟩ := Option.bind_eq_some_iff.mp h
              refine ec 50 277 [.inr (.inr 92), .inl (q7.2 1000 (wr (v3 + 1)).toNat)] [.inl q7.1] rfl (ev_Md_plan (q7.2 1000 (wr (v3 + 1)).toNat) q7.2 q8.1 q8.2 hq) ?_
              show Ev 259 277 [some (.inr (.inr 1000)), some (.inr (.inr 0)), some (.inr (.inr 92)), some (.inl v3)] [.inl q8.1, .inl q7.1] q8.2 _ _
              by_cases hc : q7.1 = q8.1
              · rw [if_pos hc] at h
                refine es (1150, [some (.inr (.inr 1000)), some (.inr (.inr 0)), some (.inr (.inr 92)), some (.inl v3)], [], q8.2) (congrArg some (if_pos hc)) ?_
                refine ev_runs 2 (1150, [some (.inr (.inr 1000)), some (.inr (.inr 0)), some (.inr (.inr 92)), some (.inl v3)], [], q8.2) (18, [some (.inr (.inr 1000)), some (.inr (.inr 0)), some (.inr (.inr 92)), some (.inl (wr (v3 + 6)))], [], q8.2) rfl ?_
                exact ev_le (L := [some (.inr (.inr 1000)), some (.inr (.inr 0)), some (.inr (.inr 92)), some (.inl (wr (v3 + 6)))]) (by simp [Lle]) (ih18 (wr (v3 + 6)) q8.2 r g' h)
              · rw [if_neg hc] at h
                refine es (280, [some (.inr (.inr 1000)), some (.inr (.inr 0)), some (.inr (.inr 92)), some (.inl v3)], [], q8.2) (congrArg some (if_neg hc)) ?_
                refine ev_runs 1 (280, [some (.inr (.inr 1000)), some (.inr (.inr 0)), some (.inr (.inr 92)), some (.inl v3)], [], q8.2) (281, [some (.inr (.inr 1000)), some (.inr (.inr 0)), some (.inr (.inr 92)), some (.inl v3)], [.inl 0], q8.2) rfl ?_
                cases h
                exact er rfl
            · rw [if_neg hc] at h; cases h
          · rw [if_neg hc] at h; cases h
        rw [if_neg hx3] at h
        by_cases hx4 : (jand (g 1000 v3.toNat) 63) = 4
        · rw [if_pos hx4] at h
          refine ev_sw (tgt := 282) rfl (by rw [hx4]; rfl) ?_
          show Ev 259 282 [some (.inr (.inr 1000)), some (.inr (.inr 0)), some (.inr (.inr 92)), some (.inl v3)] [] g _ _
          refine ev_runs 5 (282, [some (.inr (.inr 1000)), some (.inr (.inr 0)), some (.inr (.inr 92)), some (.inl v3)], [], g) (287, [some (.inr (.inr 1000)), some (.inr (.inr 0)), some (.inr (.inr 92)), some (.inl v3)], [.inl (wr (v3 + 1)), .inr (.inr 1000), .inr (.inr 0)], g) rfl ?_
          by_cases hc : (1000 : Nat) = 1000 ∧ 0 ≤ (wr (v3 + 1)) ∧ (wr (v3 + 1)) < (g 1001 0)
          · rw [if_pos hc] at h
            refine es (288, [some (.inr (.inr 1000)), some (.inr (.inr 0)), some (.inr (.inr 92)), some (.inl v3)], [.inl (g 1000 (wr (v3 + 1)).toNat), .inr (.inr 0)], g) (if_pos hc) ?_
            obtain ⟨q9, hq, h⟩ := lett_inv h
            refine ec 51 291 [.inr (.inr 0), .inl (g 1000 (wr (v3 + 1)).toNat)] [] rfl (ev_Op_tell (g 1000 (wr (v3 + 1)).toNat) g q9.1 q9.2 hq.symm) ?_
            show Ev 259 291 [some (.inr (.inr 1000)), some (.inr (.inr 0)), some (.inr (.inr 92)), some (.inl v3)] [.inl q9.1] q9.2 _ _
            refine ev_runs 5 (291, [some (.inr (.inr 1000)), some (.inr (.inr 0)), some (.inr (.inr 92)), some (.inl v3)], [.inl q9.1], q9.2) (296, [some (.inr (.inr 1000)), some (.inr (.inr 0)), some (.inr (.inr 92)), some (.inl v3)], [.inl (wr (v3 + 1)), .inr (.inr 1000), .inr (.inr 92), .inl q9.1], q9.2) rfl ?_
            by_cases hc : (1000 : Nat) = 1000 ∧ 0 ≤ (wr (v3 + 1)) ∧ (wr (v3 + 1)) < (q9.2 1001 0)
            · rw [if_pos hc] at h
              refine es (297, [some (.inr (.inr 1000)), some (.inr (.inr 0)), some (.inr (.inr 92)), some (.inl v3)], [.inl (q9.2 1000 (wr (v3 + 1)).toNat), .inr (.inr 92), .inl q9.1], q9.2) (if_pos hc) ?_
              obtain ⟨q10, hq, h⟩ := lett_inv h
              refine ec 52 300 [.inr (.inr 92), .inl (q9.2 1000 (wr (v3 + 1)).toNat)] [.inl q9.1] rfl (ev_Md_tell (q9.2 1000 (wr (v3 + 1)).toNat) q9.2 q10.1 q10.2 hq.symm) ?_
              show Ev 259 300 [some (.inr (.inr 1000)), some (.inr (.inr 0)), some (.inr (.inr 92)), some (.inl v3)] [.inl q10.1, .inl q9.1] q10.2 _ _
              by_cases hc : q9.1 = q10.1
              · rw [if_pos hc] at h
                refine es (1150, [some (.inr (.inr 1000)), some (.inr (.inr 0)), some (.inr (.inr 92)), some (.inl v3)], [], q10.2) (congrArg some (if_pos hc)) ?_
                refine ev_runs 2 (1150, [some (.inr (.inr 1000)), some (.inr (.inr 0)), some (.inr (.inr 92)), some (.inl v3)], [], q10.2) (18, [some (.inr (.inr 1000)), some (.inr (.inr 0)), some (.inr (.inr 92)), some (.inl (wr (v3 + 6)))], [], q10.2) rfl ?_
                exact ev_le (L := [some (.inr (.inr 1000)), some (.inr (.inr 0)), some (.inr (.inr 92)), some (.inl (wr (v3 + 6)))]) (by simp [Lle]) (ih18 (wr (v3 + 6)) q10.2 r g' h)
              · rw [if_neg hc] at h
                refine es (303, [some (.inr (.inr 1000)), some (.inr (.inr 0)), some (.inr (.inr 92)), some (.inl v3)], [], q10.2) (congrArg some (if_neg hc)) ?_
                refine ev_runs 1 (303, [some (.inr (.inr 1000)), some (.inr (.inr 0)), some (.inr (.inr 92)), some (.inl v3)], [], q10.2) (304, [some (.inr (.inr 1000)), some (.inr (.inr 0)), some (.inr (.inr 92)), some (.inl v3)], [.inl 0], q10.2) rfl ?_
                cases h
                exact er rfl
            · rw [if_neg hc] at h; cases h
          · rw [if_neg hc] at h; cases h
        rw [if_neg hx4] at h
        by_cases hx5 : (jand (g 1000 v3.toNat) 63) = 5
        · rw [if_pos hx5] at h
          refine ev_sw (tgt := 305) rfl (by rw [hx5]; rfl) ?_
          show Ev 259 305 [some (.inr (.inr 1000)), some (.inr (.inr 0)), some (.inr (.inr 92)), some (.inl v3)] [] g _ _
          refine ev_runs 1 (305, [some (.inr (.inr 1000)), some (.inr (.inr 0)), some (.inr (.inr 92)), some (.inl v3)], [], g) (306, [some (.inr (.inr 1000)), some (.inr (.inr 0)), some (.inr (.inr 92)), some (.inl v3)], [.inr (.inr 0)], g) rfl ?_
          obtain ⟨q11, hq, h⟩ := Option.bind_eq_some_iff.mp h
          refine ec 76 309 [.inr (.inr 0)] [] rfl (ev_Op_histories g q11.1 q11.2 hq) ?_
          show Ev 259 309 [some (.inr (.inr 1000)), some (.inr (.inr 0)), some (.inr (.inr 92)), some (.inl v3)] [.inl q11.1] q11.2 _ _
          refine ev_runs 1 (309, [some (.inr (.inr 1000)), some (.inr (.inr 0)), some (.inr (.inr 92)), some (.inl v3)], [.inl q11.1], q11.2) (310, [some (.inr (.inr 1000)), some (.inr (.inr 0)), some (.inr (.inr 92)), some (.inl v3)], [.inr (.inr 92), .inl q11.1], q11.2) rfl ?_
          obtain ⟨q12, hq, h⟩ := Option.bind_eq_some_iff.mp h
          refine ec 82 313 [.inr (.inr 92)] [.inl q11.1] rfl (ev_Md_histories q11.2 q12.1 q12.2 hq) ?_
          show Ev 259 313 [some (.inr (.inr 1000)), some (.inr (.inr 0)), some (.inr (.inr 92)), some (.inl v3)] [.inl q12.1, .inl q11.1] q12.2 _ _
          by_cases hc : q11.1 = q12.1
          · rw [if_pos hc] at h
            refine es (1150, [some (.inr (.inr 1000)), some (.inr (.inr 0)), some (.inr (.inr 92)), some (.inl v3)], [], q12.2) (congrArg some (if_pos hc)) ?_
            refine ev_runs 2 (1150, [some (.inr (.inr 1000)), some (.inr (.inr 0)), some (.inr (.inr 92)), some (.inl v3)], [], q12.2) (18, [some (.inr (.inr 1000)), some (.inr (.inr 0)), some (.inr (.inr 92)), some (.inl (wr (v3 + 6)))], [], q12.2) rfl ?_
            exact ev_le (L := [some (.inr (.inr 1000)), some (.inr (.inr 0)), some (.inr (.inr 92)), some (.inl (wr (v3 + 6)))]) (by simp [Lle]) (ih18 (wr (v3 + 6)) q12.2 r g' h)
          · rw [if_neg hc] at h
            refine es (316, [some (.inr (.inr 1000)), some (.inr (.inr 0)), some (.inr (.inr 92)), some (.inl v3)], [], q12.2) (congrArg some (if_neg hc)) ?_
            refine ev_runs 1 (316, [some (.inr (.inr 1000)), some (.inr (.inr 0)), some (.inr (.inr 92)), some (.inl v3)], [], q12.2) (317, [some (.inr (.inr 1000)), some (.inr (.inr 0)), some (.inr (.inr 92)), some (.inl v3)], [.inl 0], q12.2) rfl ?_
            cases h
            exact er rfl
        rw [if_neg hx5] at h
        by_cases hx6 : (jand (g 1000 v3.toNat) 63) = 6
        · rw [if_pos hx6] at h
          refine ev_sw (tgt := 318) rfl (by rw [hx6]; rfl) ?_
          show Ev 259 318 [some (.inr (.inr 1000)), some (.inr (.inr 0)), some (.inr (.inr 92)), some (.inl v3)] [] g _ _
          refine ev_runs 5 (318, [some (.inr (.inr 1000)), some (.inr (.inr 0)), some (.inr (.inr 92)), some (.inl v3)], [], g) (323, [some (.inr (.inr 1000)), some (.inr (.inr 0)), some (.inr (.inr 92)), some (.inl v3)], [.inl (wr (v3 + 1)), .inr (.inr 1000), .inr (.inr 0)], g) rfl ?_
          by_cases hc : (1000 : Nat) = 1000 ∧ 0 ≤ (wr (v3 + 1)) ∧ (wr (v3 + 1)) < (g 1001 0)
          · rw [if_pos hc] at h
            refine es (324, [some (.inr (.inr 1000)), some (.inr (.inr 0)), some (.inr (.inr 92)), some (.inl v3)], [.inl (g 1000 (wr (v3 + 1)).toNat), .inr (.inr 0)], g) (if_pos hc) ?_
            refine ev_runs 4 (324, [some (.inr (.inr 1000)), some (.inr (.inr 0)), some (.inr (.inr 92)), some (.inl v3)], [.inl (g 1000 (wr (v3 + 1)).toNat), .inr (.inr 0)], g) (328, [some (.inr (.inr 1000)), some (.inr (.inr 0)), some (.inr (.inr 92)), some (.inl v3)], [.inl (wr (v3 + 2)), .inr (.inr 1000), .inl (g 1000 (wr (v3 + 1)).toNat), .inr (.inr 0)], g) rfl ?_
            by_cases hc : (1000 : Nat) = 1000 ∧ 0 ≤ (wr (v3 + 2)) ∧ (wr (v3 + 2)) < (g 1001 0)
            · rw [if_pos hc] at h
              refine es (329, [some (.inr (.inr 1000)), some (.inr (.inr 0)), some (.inr (.inr 92)), some (.inl v3)], [.inl (g 1000 (wr (v3 + 2)).toNat), .inl (g 1000 (wr (v3 + 1)).toNat), .inr (.inr 0)], g) (if_pos hc) ?_
              obtain ⟨q13, hq, h⟩ := Option.bind_eq_some_iff.mp h
              refine ec 86 332 [.inr (.inr 0), .inl (g 1000 (wr (v3 + 1)).toNat), .inl (g 1000 (wr (v3 + 2)).toNat)] [] rfl (ev_Op_said (g 1000 (wr (v3 + 1)).toNat) (g 1000 (wr (v3 + 2)).toNat) g q13.1 q13.2 hq) ?_
              show Ev 259 332 [some (.inr (.inr 1000)), some (.inr (.inr 0)), some (.inr (.inr 92)), some (.inl v3)] [.inl q13.1] q13.2 _ _
              refine ev_runs 5 (332, [some (.inr (.inr 1000)), some (.inr (.inr 0)), some (.inr (.inr 92)), some (.inl v3)], [.inl q13.1], q13.2) (337, [some (.inr (.inr 1000)), some (.inr (.inr 0)), some (.inr (.inr 92)), some (.inl v3)], [.inl (wr (v3 + 1)), .inr (.inr 1000), .inr (.inr 92), .inl q13.1], q13.2) rfl ?_
              by_cases hc : (1000 : Nat) = 1000 ∧ 0 ≤ (wr (v3 + 1)) ∧ (wr (v3 + 1)) < (q13.2 1001 0)
              · rw [if_pos hc] at h
                refine es (338, [some (.inr (.inr 1000)), some (.inr (.inr 0)), some (.inr (.inr 92)), some (.inl v3)], [.inl (q13.2 1000 (wr (v3 + 1)).toNat), .inr (.inr 92), .inl q13.1], q13.2) (if_pos hc) ?_
                refine ev_runs 4 (338, [some (.inr (.inr 1000)), some (.inr (.inr 0)), some (.inr (.inr 92)), some (.inl v3)], [.inl (q13.2 1000 (wr (v3 + 1)).toNat), .inr (.inr 92), .inl q13.1], q13.2) (342, [some (.inr (.inr 1000)), some (.inr (.inr 0)), some (.inr (.inr 92)), some (.inl v3)], [.inl (wr (v3 + 2)), .inr (.inr 1000), .inl (q13.2 1000 (wr (v3 + 1)).toNat), .inr (.inr 92), .inl q13.1], q13.2) rfl ?_
                by_cases hc : (1000 : Nat) = 1000 ∧ 0 ≤ (wr (v3 + 2)) ∧ (wr (v3 + 2)) < (q13.2 1001 0)
                · rw [if_pos hc] at h
                  refine es (343, [some (.inr (.inr 1000)), some (.inr (.inr 0)), some (.inr (.inr 92)), some (.inl v3)], [.inl (q13.2 1000 (wr (v3 + 2)).toNat), .inl (q13.2 1000 (wr (v3 + 1)).toNat), .inr (.inr 92), .inl q13.1], q13.2) (if_pos hc) ?_
                  obtain ⟨q14, hq, h⟩ := Option.bind_eq_some_iff.mp h
                  refine ec 90 346 [.inr (.inr 92), .inl (q13.2 1000 (wr (v3 + 1)).toNat), .inl (q13.2 1000 (wr (v3 + 2)).toNat)] [.inl q13.1] rfl (ev_Md_said (q13.2 1000 (wr (v3 + 1)).toNat) (q13.2 1000 (wr (v3 + 2)).toNat) q13.2 q14.1 q14.2 hq) ?_
                  show Ev 259 346 [some (.inr (.inr 1000)), some (.inr (.inr 0)), some (.inr (.inr 92)), some (.inl v3)] [.inl q14.1, .inl q13.1] q14.2 _ _
                  by_cases hc : q13.1 = q14.1
                  · rw [if_pos hc] at h
                    refine es (1150, [some (.inr (.inr 1000)), some (.inr (.inr 0)), some (.inr (.inr 92)), some (.inl v3)], [], q14.2) (congrArg some (if_pos hc)) ?_
                    refine ev_runs 2 (1150, [some (.inr (.inr 1000)), some (.inr (.inr 0)), some (.inr (.inr 92)), some (.inl v3)], [], q14.2) (18, [some (.inr (.inr 1000)), some (.inr (.inr 0)), some (.inr (.inr 92)), some (.inl (wr (v3 + 6)))], [], q14.2) rfl ?_
                    exact ev_le (L := [some (.inr (.inr 1000)), some (.inr (.inr 0)), some (.inr (.inr 92)), some (.inl (wr (v3 + 6)))]) (by simp [Lle]) (ih18 (wr (v3 + 6)) q14.2 r g' h)
                  · rw [if_neg hc] at h
                    refine es (349, [some (.inr (.inr 1000)), some (.inr (.inr 0)), some (.inr (.inr 92)), some (.inl v3)], [], q14.2) (congrArg some (if_neg hc)) ?_
                    refine ev_runs 1 (349, [some (.inr (.inr 1000)), some (.inr (.inr 0)), some (.inr (.inr 92)), some (.inl v3)], [], q14.2) (350, [some (.inr (.inr 1000)), some (.inr (.inr 0)), some (.inr (.inr 92)), some (.inl v3)], [.inl 0], q14.2) rfl ?_
                    cases h
                    exact er rfl
                · rw [if_neg hc] at h; cases h
              · rw [if_neg hc] at h; cases h
            · rw [if_neg hc] at h; cases h
          · rw [if_neg hc] at h; cases h
        rw [if_neg hx6] at h
        by_cases hx7 : (jand (g 1000 v3.toNat) 63) = 7
        · rw [if_pos hx7] at h
          refine ev_sw (tgt := 351) rfl (by rw [hx7]; rfl) ?_
          show Ev 259 351 [some (.inr (.inr 1000)), some (.inr (.inr 0)), some (.inr (.inr 92)), some (.inl v3)] [] g _ _
          refine ev_runs 5 (351, [some (.inr (.inr 1000)), some (.inr (.inr 0)), some (.inr (.inr 92)), some (.inl v3)], [], g) (356, [some (.inr (.inr 1000)), some (.inr (.inr 0)), some (.inr (.inr 92)), some (.inl v3)], [.inl (wr (v3 + 1)), .inr (.inr 1000), .inr (.inr 0)], g) rfl ?_
          by_cases hc : (1000 : Nat) = 1000 ∧ 0 ≤ (wr (v3 + 1)) ∧ (wr (v3 + 1)) < (g 1001 0)
          · rw [if_pos hc] at h
            refine es (357, [some (.inr (.inr 1000)), some (.inr (.inr 0)), some (.inr (.inr 92)), some (.inl v3)], [.inl (g 1000 (wr (v3 + 1)).toNat), .inr (.inr 0)], g) (if_pos hc) ?_
            refine ev_runs 4 (357, [some (.inr (.inr 1000)), some (.inr (.inr 0)), some (.inr (.inr 92)), some (.inl v3)], [.inl (g 1000 (wr (v3 + 1)).toNat), .inr (.inr 0)], g) (361, [some (.inr (.inr 1000)), some (.inr (.inr 0)), some (.inr (.inr 92)), some (.inl v3)], [.inl (wr (v3 + 2)), .inr (.inr 1000), .inl (g 1000 (wr (v3 + 1)).toNat), .inr (.inr 0)], g) rfl ?_
            by_cases hc : (1000 : Nat) = 1000 ∧ 0 ≤ (wr (v3 + 2)) ∧ (wr (v3 + 2)) < (g 1001 0)
            · rw [if_pos hc] at h
              refine es (362, [some (.inr (.inr 1000)), some (.inr (.inr 0)), some (.inr (.inr 92)), some (.inl v3)], [.inl (g 1000 (wr (v3 + 2)).toNat), .inl (g 1000 (wr (v3 + 1)).toNat), .inr (.inr 0)], g) (if_pos hc) ?_
              refine ev_runs 4 (362, [some (.inr (.inr 1000)), some (.inr (.inr 0)), some (.inr (.inr 92)), some (.inl v3)], [.inl (g 1000 (wr (v3 + 2)).toNat), .inl (g 1000 (wr (v3 + 1)).toNat), .inr (.inr 0)], g) (366, [some (.inr (.inr 1000)), some (.inr (.inr 0)), some (.inr (.inr 92)), some (.inl v3)], [.inl (wr (v3 + 3)), .inr (.inr 1000), .inl (g 1000 (wr (v3 + 2)).toNat), .inl (g 1000 (wr (v3 + 1)).toNat), .inr (.inr 0)], g) rfl ?_
              by_cases hc : (1000 : Nat) = 1000 ∧ 0 ≤ (wr (v3 + 3)) ∧ (wr (v3 + 3)) < (g 1001 0)
              · rw [if_pos hc] at h
                refine es (367, [some (.inr (.inr 1000)), some (.inr (.inr 0)), some (.inr (.inr 92)), some (.inl v3)], [.inl (g 1000 (wr (v3 + 3)).toNat), .inl (g 1000 (wr (v3 + 2)).toNat), .inl (g 1000 (wr (v3 + 1)).toNat), .inr (.inr 0)], g) (if_pos hc) ?_
                obtain ⟨q15, hq, h⟩ := Option.bind_eq_some_iff.mp h
                refine ec 97 370 [.inr (.inr 0), .inl (g 1000 (wr (v3 + 1)).toNat), .inl (g 1000 (wr (v3 + 2)).toNat), .inl (g 1000 (wr (v3 + 3)).toNat)] [] rfl (ev_Op_look (g 1000 (wr (v3 + 1)).toNat) (g 1000 (wr (v3 + 2)).toNat) (g 1000 (wr (v3 + 3)).toNat) g q15.1 q15.2 hq) ?_
                show Ev 259 370 [some (.inr (.inr 1000)), some (.inr (.inr 0)), some (.inr (.inr 92)), some (.inl v3)] [.inl q15.1] q15.2 _ _
                refine ev_runs 5 (370, [some (.inr (.inr 1000)), some (.inr (.inr 0)), some (.inr (.inr 92)), some (.inl v3)], [.inl q15.1], q15.2) (375, [some (.inr (.inr 1000)), some (.inr (.inr 0)), some (.inr (.inr 92)), some (.inl v3)], [.inl (wr (v3 + 1)), .inr (.inr 1000), .inr (.inr 92), .inl q15.1], q15.2) rfl ?_
                by_cases hc : (1000 : Nat) = 1000 ∧ 0 ≤ (wr (v3 + 1)) ∧ (wr (v3 + 1)) < (q15.2 1001 0)
                · rw [if_pos hc] at h
                  refine es (376, [some (.inr (.inr 1000)), some (.inr (.inr 0)), some (.inr (.inr 92)), some (.inl v3)], [.inl (q15.2 1000 (wr (v3 + 1)).toNat), .inr (.inr 92), .inl q15.1], q15.2) (if_pos hc) ?_
                  refine ev_runs 4 (376, [some (.inr (.inr 1000)), some (.inr (.inr 0)), some (.inr (.inr 92)), some (.inl v3)], [.inl (q15.2 1000 (wr (v3 + 1)).toNat), .inr (.inr 92), .inl q15.1], q15.2) (380, [some (.inr (.inr 1000)), some (.inr (.inr 0)), some (.inr (.inr 92)), some (.inl v3)], [.inl (wr (v3 + 2)), .inr (.inr 1000), .inl (q15.2 1000 (wr (v3 + 1)).toNat), .inr (.inr 92), .inl q15.1], q15.2) rfl ?_
                  by_cases hc : (1000 : Nat) = 1000 ∧ 0 ≤ (wr (v3 + 2)) ∧ (wr (v3 + 2)) < (q15.2 1001 0)
                  · rw [if_pos hc] at h
                    refine es (381, [some (.inr (.inr 1000)), some (.inr (.inr 0)), some (.inr (.inr 92)), some (.inl v3)], [.inl (q15.2 1000 (wr (v3 + 2)).toNat), .inl (q15.2 1000 (wr (v3 + 1)).toNat), .inr (.inr 92), .inl q15.1], q15.2) (if_pos hc) ?_
                    refine ev_runs 4 (381, [some (.inr (.inr 1000)), some (.inr (.inr 0)), some (.inr (.inr 92)), some (.inl v3)], [.inl (q15.2 1000 (wr (v3 + 2)).toNat), .inl (q15.2 1000 (wr (v3 + 1)).toNat), .inr (.inr 92), .inl q15.1], q15.2) (385, [some (.inr (.inr 1000)), some (.inr (.inr 0)), some (.inr (.inr 92)), some (.inl v3)], [.inl (wr (v3 + 3)), .inr (.inr 1000), .inl (q15.2 1000 (wr (v3 + 2)).toNat), .inl (q15.2 1000 (wr (v3 + 1)).toNat), .inr (.inr 92), .inl q15.1], q15.2) rfl ?_
                    by_cases hc : (1000 : Nat) = 1000 ∧ 0 ≤ (wr (v3 + 3)) ∧ (wr (v3 + 3)) < (q15.2 1001 0)
                    · rw [if_pos hc] at h
                      refine es (386, [some (.inr (.inr 1000)), some (.inr (.inr 0)), some (.inr (.inr 92)), some (.inl v3)], [.inl (q15.2 1000 (wr (v3 + 3)).toNat), .inl (q15.2 1000 (wr (v3 + 2)).toNat), .inl (q15.2 1000 (wr (v3 + 1)).toNat), .inr (.inr 92), .inl q15.1], q15.2) (if_pos hc) ?_
                      obtain ⟨q16, hq, h⟩ := Option.bind_eq_some_iff.mp h
                      refine ec 103 389 [.inr (.inr 92), .inl (q15.2 1000 (wr (v3 + 1)).toNat), .inl (q15.2 1000 (wr (v3 + 2)).toNat), .inl (q15.2 1000 (wr (v3 + 3)).toNat)] [.inl q15.1] rfl (ev_Md_look (q15.2 1000 (wr (v3 + 1)).toNat) (q15.2 1000 (wr (v3 + 2)).toNat) (q15.2 1000 (wr (v3 + 3)).toNat) q15.2 q16.1 q16.2 hq) ?_
                      show Ev 259 389 [some (.inr (.inr 1000)), some (.inr (.inr 0)), some (.inr (.inr 92)), some (.inl v3)] [.inl q16.1, .inl q15.1] q16.2 _ _
                      by_cases hc : q15.1 = q16.1
                      · rw [if_pos hc] at h
                        refine es (1150, [some (.inr (.inr 1000)), some (.inr (.inr 0)), some (.inr (.inr 92)), some (.inl v3)], [], q16.2) (congrArg some (if_pos hc)) ?_
                        refine ev_runs 2 (1150, [some (.inr (.inr 1000)), some (.inr (.inr 0)), some (.inr (.inr 92)), some (.inl v3)], [], q16.2) (18, [some (.inr (.inr 1000)), some (.inr (.inr 0)), some (.inr (.inr 92)), some (.inl (wr (v3 + 6)))], [], q16.2) rfl ?_
                        exact ev_le (L := [some (.inr (.inr 1000)), some (.inr (.inr 0)), some (.inr (.inr 92)), some (.inl (wr (v3 + 6)))]) (by simp [Lle]) (ih18 (wr (v3 + 6)) q16.2 r g' h)
                      · rw [if_neg hc] at h
                        refine es (392, [some (.inr (.inr 1000)), some (.inr (.inr 0)), some (.inr (.inr 92)), some (.inl v3)], [], q16.2) (congrArg some (if_neg hc)) ?_
                        refine ev_runs 1 (392, [some (.inr (.inr 1000)), some (.inr (.inr 0)), some (.inr (.inr 92)), some (.inl v3)], [], q16.2) (393, [some (.inr (.inr 1000)), some (.inr (.inr 0)), some (.inr (.inr 92)), some (.inl v3)], [.inl 0], q16.2) rfl ?_
                        cases h
                        exact er rfl
                    · rw [if_neg hc] at h; cases h
                  · rw [if_neg hc] at h; cases h
                · rw [if_neg hc] at h; cases h
              · rw [if_neg hc] at h; cases h
            · rw [if_neg hc] at h; cases h
          · rw [if_neg hc] at h; cases h
        rw [if_neg hx7] at h
        by_cases hx8 : (jand (g 1000 v3.toNat) 63) = 8
        · rw [if_pos hx8] at h
          refine ev_sw (tgt := 394) rfl (by rw [hx8]; rfl) ?_
          show Ev 259 394 [some (.inr (.inr 1000)), some (.inr (.inr 0)), some (.inr (.inr 92)), some (.inl v3)] [] g _ _
          refine ev_runs 5 (394, [some (.inr (.inr 1000)), some (.inr (.inr 0)), some (.inr (.inr 92)), some (.inl v3)], [], g) (399, [some (.inr (.inr 1000)), some (.inr (.inr 0)), some (.inr (.inr 92)), some (.inl v3)], [.inl (wr (v3 + 1)), .inr (.inr 1000), .inr (.inr 0)], g) rfl ?_
          by_cases hc : (1000 : Nat) = 1000 ∧ 0 ≤ (wr (v3 + 1)) ∧ (wr (v3 + 1)) < (g 1001 0)
          · rw [if_pos hc] at h
            refine es (400, [some (.inr (.inr 1000)), some (.inr (.inr 0)), some (.inr (.inr 92)), some (.inl v3)], [.inl (g 1000 (wr (v3 + 1)).toNat), .inr (.inr 0)], g) (if_pos hc) ?_
            obtain ⟨q17, hq, h⟩ := Option.bind_eq_some_iff.mp h
            refine ec 109 403 [.inr (.inr 0), .inl (g 1000 (wr (v3 + 1)).toNat)] [] rfl (ev_Op_looks (g 1000 (wr (v3 + 1)).toNat) g q17.1 q17.2 hq) ?_
            show Ev 259 403 [some (.inr (.inr 1000)), some (.inr (.inr 0)), some (.inr (.inr 92)), some (.inl v3)] [.inl q17.1] q17.2 _ _
            refine ev_runs 5 (403, [some (.inr (.inr 1000)), some (.inr (.inr 0)), some (.inr (.inr 92)), some (.inl v3)], [.inl q17.1], q17.2) (408, [some (.inr (.inr 1000)), some (.inr (.inr 0)), some (.inr (.inr 92)), some (.inl v3)], [.inl (wr (v3 + 1)), .inr (.inr 1000), .inr (.inr 92), .inl q17.1], q17.2) rfl ?_
            by_cases hc : (1000 : Nat) = 1000 ∧ 0 ≤ (wr (v3 + 1)) ∧ (wr (v3 + 1)) < (q17.2 1001 0)
            · rw [if_pos hc] at h
              refine es (409, [some (.inr (.inr 1000)), some (.inr (.inr 0)), some (.inr (.inr 92)), some (.inl v3)], [.inl (q17.2 1000 (wr (v3 + 1)).toNat), .inr (.inr 92), .inl q17.1], q17.2) (if_pos hc) ?_
              obtain ⟨q18, hq, h⟩ := Option.bind_eq_some_iff.mp h
              refine ec 113 412 [.inr (.inr 92), .inl (q17.2 1000 (wr (v3 + 1)).toNat)] [.inl q17.1] rfl (ev_Md_looks (q17.2 1000 (wr (v3 + 1)).toNat) q17.2 q18.1 q18.2 hq) ?_
              show Ev 259 412 [some (.inr (.inr 1000)), some (.inr (.inr 0)), some (.inr (.inr 92)), some (.inl v3)] [.inl q18.1, .inl q17.1] q18.2 _ _
              by_cases hc : q17.1 = q18.1
              · rw [if_pos hc] at h
                refine es (1150, [some (.inr (.inr 1000)), some (.inr (.inr 0)), some (.inr (.inr 92)), some (.inl v3)], [], q18.2) (congrArg some (if_pos hc)) ?_
                refine ev_runs 2 (1150, [some (.inr (.inr 1000)), some (.inr (.inr 0)), some (.inr (.inr 92)), some (.inl v3)], [], q18.2) (18, [some (.inr (.inr 1000)), some (.inr (.inr 0)), some (.inr (.inr 92)), some (.inl (wr (v3 + 6)))], [], q18.2) rfl ?_
                exact ev_le (L := [some (.inr (.inr 1000)), some (.inr (.inr 0)), some (.inr (.inr 92)), some (.inl (wr (v3 + 6)))]) (by simp [Lle]) (ih18 (wr (v3 + 6)) q18.2 r g' h)
              · rw [if_neg hc] at h
                refine es (415, [some (.inr (.inr 1000)), some (.inr (.inr 0)), some (.inr (.inr 92)), some (.inl v3)], [], q18.2) (congrArg some (if_neg hc)) ?_
                refine ev_runs 1 (415, [some (.inr (.inr 1000)), some (.inr (.inr 0)), some (.inr (.inr 92)), some (.inl v3)], [], q18.2) (416, [some (.inr (.inr 1000)), some (.inr (.inr 0)), some (.inr (.inr 92)), some (.inl v3)], [.inl 0], q18.2) rfl ?_
                cases h
                exact er rfl
            · rw [if_neg hc] at h; cases h
          · rw [if_neg hc] at h; cases h
        rw [if_neg hx8] at h
        by_cases hx9 : (jand (g 1000 v3.toNat) 63) = 9
        · rw [if_pos hx9] at h
          refine ev_sw (tgt := 417) rfl (by rw [hx9]; rfl) ?_
          show Ev 259 417 [some (.inr (.inr 1000)), some (.inr (.inr 0)), some (.inr (.inr 92)), some (.inl v3)] [] g _ _
          refine ev_runs 5 (417, [some (.inr (.inr 1000)), some (.inr (.inr 0)), some (.inr (.inr 92)), some (.inl v3)], [], g) (422, [some (.inr (.inr 1000)), some (.inr (.inr 0)), some (.inr (.inr 92)), some (.inl v3)], [.inl (wr (v3 + 1)), .inr (.inr 1000), .inr (.inr 0)], g) rfl ?_
          by_cases hc : (1000 : Nat) = 1000 ∧ 0 ≤ (wr (v3 + 1)) ∧ (wr (v3 + 1)) < (g 1001 0)
          · rw [if_pos hc] at h
            refine es (423, [some (.inr (.inr 1000)), some (.inr (.inr 0)), some (.inr (.inr 92)), some (.inl v3)], [.inl (g 1000 (wr (v3 + 1)).toNat), .inr (.inr 0)], g) (if_pos hc) ?_
            refine ev_runs 4 (423, [some (.inr (.inr 1000)), some (.inr (.inr 0)), some (.inr (.inr 92)), some (.inl v3)], [.inl (g 1000 (wr (v3 + 1)).toNat), .inr (.inr 0)], g) (427, [some (.inr (.inr 1000)), some (.inr (.inr 0)), some (.inr (.inr 92)), some (.inl v3)], [.inl (wr (v3 + 2)), .inr (.inr 1000), .inl (g 1000 (wr (v3 + 1)).toNat), .inr (.inr 0)], g) rfl ?_
            by_cases hc : (1000 : Nat) = 1000 ∧ 0 ≤ (wr (v3 + 2)) ∧ (wr (v3 + 2)) < (g 1001 0)
            · rw [if_pos hc] at h
              refine es (428, [some (.inr (.inr 1000)), some (.inr (.inr 0)), some (.inr (.inr 92)), some (.inl v3)], [.inl (g 1000 (wr (v3 + 2)).toNat), .inl (g 1000 (wr (v3 + 1)).toNat), .inr (.inr 0)], g) (if_pos hc) ?_
              obtain ⟨q19, hq, h⟩ := Option.bind_eq_some_iff.mp h
              refine ec 115 431 [.inr (.inr 0), .inl (g 1000 (wr (v3 + 1)).toNat), .inl (g 1000 (wr (v3 + 2)).toNat)] [] rfl (ev_Op_parts (g 1000 (wr (v3 + 1)).toNat) (g 1000 (wr (v3 + 2)).toNat) g q19.1 q19.2 hq) ?_
              show Ev 259 431 [some (.inr (.inr 1000)), some (.inr (.inr 0)), some (.inr (.inr 92)), some (.inl v3)] [.inl q19.1] q19.2 _ _
              refine ev_runs 5 (431, [some (.inr (.inr 1000)), some (.inr (.inr 0)), some (.inr (.inr 92)), some (.inl v3)], [.inl q19.1], q19.2) (436, [some (.inr (.inr 1000)), some (.inr (.inr 0)), some (.inr (.inr 92)), some (.inl v3)], [.inl (wr (v3 + 1)), .inr (.inr 1000), .inr (.inr 92), .inl q19.1], q19.2) rfl ?_
              by_cases hc : (1000 : Nat) = 1000 ∧ 0 ≤ (wr (v3 + 1)) ∧ (wr (v3 + 1)) < (q19.2 1001 0)
              · rw [if_pos hc] at h
                refine es (437, [some (.inr (.inr 1000)), some (.inr (.inr 0)), some (.inr (.inr 92)), some (.inl v3)], [.inl (q19.2 1000 (wr (v3 + 1)).toNat), .inr (.inr 92), .inl q19.1], q19.2) (if_pos hc) ?_
                refine ev_runs 4 (437, [some (.inr (.inr 1000)), some (.inr (.inr 0)), some (.inr (.inr 92)), some (.inl v3)], [.inl (q19.2 1000 (wr (v3 + 1)).toNat), .inr (.inr 92), .inl q19.1], q19.2) (441, [some (.inr (.inr 1000)), some (.inr (.inr 0)), some (.inr (.inr 92)), some (.inl v3)], [.inl (wr (v3 + 2)), .inr (.inr 1000), .inl (q19.2 1000 (wr (v3 + 1)).toNat), .inr (.inr 92), .inl q19.1], q19.2) rfl ?_
                by_cases hc : (1000 : Nat) = 1000 ∧ 0 ≤ (wr (v3 + 2)) ∧ (wr (v3 + 2)) < (q19.2 1001 0)
                · rw [if_pos hc] at h
                  refine es (442, [some (.inr (.inr 1000)), some (.inr (.inr 0)), some (.inr (.inr 92)), some (.inl v3)], [.inl (q19.2 1000 (wr (v3 + 2)).toNat), .inl (q19.2 1000 (wr (v3 + 1)).toNat), .inr (.inr 92), .inl q19.1], q19.2) (if_pos hc) ?_
                  obtain ⟨q20, hq, h⟩ := Option.bind_eq_some_iff.mp h
                  refine ec 117 445 [.inr (.inr 92), .inl (q19.2 1000 (wr (v3 + 1)).toNat), .inl (q19.2 1000 (wr (v3 + 2)).toNat)] [.inl q19.1] rfl (ev_Md_parts (q19.2 1000 (wr (v3 + 1)).toNat) (q19.2 1000 (wr (v3 + 2)).toNat) q19.2 q20.1 q20.2 hq) ?_
                  show Ev 259 445 [some (.inr (.inr 1000)), some (.inr (.inr 0)), some (.inr (.inr 92)), some (.inl v3)] [.inl q20.1, .inl q19.1] q20.2 _ _
                  by_cases hc : q19.1 = q20.1
                  · rw [if_pos hc] at h
                    refine es (1150, [some (.inr (.inr 1000)), some (.inr (.inr 0)), some (.inr (.inr 92)), some (.inl v3)], [], q20.2) (congrArg some (if_pos hc)) ?_
                    refine ev_runs 2 (1150, [some (.inr (.inr 1000)), some (.inr (.inr 0)), some (.inr (.inr 92)), some (.inl v3)], [], q20.2) (18, [some (.inr (.inr 1000)), some (.inr (.inr 0)), some (.inr (.inr 92)), some (.inl (wr (v3 + 6)))], [], q20.2) rfl ?_
                    exact ev_le (L := [some (.inr (.inr 1000)), some (.inr (.inr 0)), some (.inr (.inr 92)), some (.inl (wr (v3 + 6)))]) (by simp [Lle]) (ih18 (wr (v3 + 6)) q20.2 r g' h)
                  · rw [if_neg hc] at h
                    refine es (448, [some (.inr (.inr 1000)), some (.inr (.inr 0)), some (.inr (.inr 92)), some (.inl v3)], [], q20.2) (congrArg some (if_neg hc)) ?_
                    refine ev_runs 1 (448, [some (.inr (.inr 1000)), some (.inr (.inr 0)), some (.inr (.inr 92)), some (.inl v3)], [], q20.2) (449, [some (.inr (.inr 1000)), some (.inr (.inr 0)), some (.inr (.inr 92)), some (.inl v3)], [.inl 0], q20.2) rfl ?_
                    cases h
                    exact er rfl
                · rw [if_neg hc] at h; cases h
              · rw [if_neg hc] at h; cases h
            · rw [if_neg hc] at h; cases h
          · rw [if_neg hc] at h; cases h
        rw [if_neg hx9] at h
        by_cases hx10 : (jand (g 1000 v3.toNat) 63) = 10
        · rw [if_pos hx10] at h
          refine ev_sw (tgt := 450) rfl (by rw [hx10]; rfl) ?_
          show Ev 259 450 [some (.inr (.inr 1000)), some (.inr (.inr 0)), some (.inr (.inr 92)), some (.inl v3)] [] g _ _
          refine ev_runs 1 (450, [some (.inr (.inr 1000)), some (.inr (.inr 0)), some (.inr (.inr 92)), some (.inl v3)], [], g) (451, [some (.inr (.inr 1000)), some (.inr (.inr 0)), some (.inr (.inr 92)), some (.inl v3)], [.inr (.inr 0)], g) rfl ?_
          obtain ⟨q21, hq, h⟩ := Option.bind_eq_some_iff.mp h
          refine ec 125 454 [.inr (.inr 0)] [] rfl (ev_Op_sound g q21.1 q21.2 hq) ?_
          show Ev 259 454 [some (.inr (.inr 1000)), some (.inr (.inr 0)), some (.inr (.inr 92)), some (.inl v3)] [.inl q21.1] q21.2 _ _
          refine ev_runs 1 (454, [some (.inr (.inr 1000)), some (.inr (.inr 0)), some (.inr (.inr 92)), some (.inl v3)], [.inl q21.1], q21.2) (455, [some (.inr (.inr 1000)), some (.inr (.inr 0)), some (.inr (.inr 92)), some (.inl v3)], [.inr (.inr 92), .inl q21.1], q21.2) rfl ?_
          obtain ⟨q22, hq, h⟩ := Option.bind_eq_some_iff.mp h
          refine ec 127 458 [.inr (.inr 92)] [.inl q21.1] rfl (ev_Md_sound q21.2 q22.1 q22.2 hq) ?_
          show Ev 259 458 [some (.inr (.inr 1000)), some (.inr (.inr 0)), some (.inr (.inr 92)), some (.inl v3)] [.inl q22.1, .inl q21.1] q22.2 _ _
          by_cases hc : q21.1 = q22.1
          · rw [if_pos hc] at h
            refine es (1150, [some (.inr (.inr 1000)), some (.inr (.inr 0)), some (.inr (.inr 92)), some (.inl v3)], [], q22.2) (congrArg some (if_pos hc)) ?_
            refine ev_runs 2 (1150, [some (.inr (.inr 1000)), some (.inr (.inr 0)), some (.inr (.inr 92)), some (.inl v3)], [], q22.2) (18, [some (.inr (.inr 1000)), some (.inr (.inr 0)), some (.inr (.inr 92)), some (.inl (wr (v3 + 6)))], [], q22.2) rfl ?_
            exact ev_le (L := [some (.inr (.inr 1000)), some (.inr (.inr 0)), some (.inr (.inr 92)), some (.inl (wr (v3 + 6)))]) (by simp [Lle]) (ih18 (wr (v3 + 6)) q22.2 r g' h)
          · rw [if_neg hc] at h
            refine es (461, [some (.inr (.inr 1000)), some (.inr (.inr 0)), some (.inr (.inr 92)), some (.inl v3)], [], q22.2) (congrArg some (if_neg hc)) ?_
            refine ev_runs 1 (461, [some (.inr (.inr 1000)), some (.inr (.inr 0)), some (.inr (.inr 92)), some (.inl v3)], [], q22.2) (462, [some (.inr (.inr 1000)), some (.inr (.inr 0)), some (.inr (.inr 92)), some (.inl v3)], [.inl 0], q22.2) rfl ?_
            cases h
            exact er rfl
        rw [if_neg hx10] at h
        by_cases hx11 : (jand (g 1000 v3.toNat) 63) = 11
        · rw [if_pos hx11] at h
          refine ev_sw (tgt := 463) rfl (by rw [hx11]; rfl) ?_
          show Ev 259 463 [some (.inr (.inr 1000)), some (.inr (.inr 0)), some (.inr (.inr 92)), some (.inl v3)] [] g _ _
          refine ev_runs 5 (463, [some (.inr (.inr 1000)), some (.inr (.inr 0)), some (.inr (.inr 92)), some (.inl v3)], [], g) (468, [some (.inr (.inr 1000)), some (.inr (.inr 0)), some (.inr (.inr 92)), some (.inl v3)], [.inl (wr (v3 + 1)), .inr (.inr 1000), .inr (.inr 0)], g) rfl ?_
          by_cases hc : (1000 : Nat) = 1000 ∧ 0 ≤ (wr (v3 + 1)) ∧ (wr (v3 + 1)) < (g 1001 0)
          · rw [if_pos hc] at h
            refine es (469, [some (.inr (.inr 1000)), some (.inr (.inr 0)), some (.inr (.inr 92)), some (.inl v3)], [.inl (g 1000 (wr (v3 + 1)).toNat), .inr (.inr 0)], g) (if_pos hc) ?_
            obtain ⟨q23, hq, h⟩ := Option.bind_eq_some_iff.mp h
            refine ec 129 472 [.inr (.inr 0), .inl (g 1000 (wr (v3 + 1)).toNat)] [] rfl (ev_Op_moment (g 1000 (wr (v3 + 1)).toNat) g q23.1 q23.2 hq) ?_
            show Ev 259 472 [some (.inr (.inr 1000)), some (.inr (.inr 0)), some (.inr (.inr 92)), some (.inl v3)] [.inl q23.1] q23.2 _ _
            refine ev_runs 5 (472, [some (.inr (.inr 1000)), some (.inr (.inr 0)), some (.inr (.inr 92)), some (.inl v3)], [.inl q23.1], q23.2) (477, [some (.inr (.inr 1000)), some (.inr (.inr 0)), some (.inr (.inr 92)), some (.inl v3)], [.inl (wr (v3 + 1)), .inr (.inr 1000), .inr (.inr 92), .inl q23.1], q23.2) rfl ?_
            by_cases hc : (1000 : Nat) = 1000 ∧ 0 ≤ (wr (v3 + 1)) ∧ (wr (v3 + 1)) < (q23.2 1001 0)
            · rw [if_pos hc] at h
              refine es (478, [some (.inr (.inr 1000)), some (.inr (.inr 0)), some (.inr (.inr 92)), some (.inl v3)], [.inl (q23.2 1000 (wr (v3 + 1)).toNat), .inr (.inr 92), .inl q23.1], q23.2) (if_pos hc) ?_
              obtain ⟨q24, hq, h⟩ := Option.bind_eq_some_iff.mp h
              refine ec 131 481 [.inr (.inr 92), .inl (q23.2 1000 (wr (v3 + 1)).toNat)] [.inl q23.1] rfl (ev_Md_moment (q23.2 1000 (wr (v3 + 1)).toNat) q23.2 q24.1 q24.2 hq) ?_
              show Ev 259 481 [some (.inr (.inr 1000)), some (.inr (.inr 0)), some (.inr (.inr 92)), some (.inl v3)] [.inl q24.1, .inl q23.1] q24.2 _ _
              by_cases hc : q23.1 = q24.1
              · rw [if_pos hc] at h
                refine es (1150, [some (.inr (.inr 1000)), some (.inr (.inr 0)), some (.inr (.inr 92)), some (.inl v3)], [], q24.2) (congrArg some (if_pos hc)) ?_
                refine ev_runs 2 (1150, [some (.inr (.inr 1000)), some (.inr (.inr 0)), some (.inr (.inr 92)), some (.inl v3)], [], q24.2) (18, [some (.inr (.inr 1000)), some (.inr (.inr 0)), some (.inr (.inr 92)), some (.inl (wr (v3 + 6)))], [], q24.2) rfl ?_
                exact ev_le (L := [some (.inr (.inr 1000)), some (.inr (.inr 0)), some (.inr (.inr 92)), some (.inl (wr (v3 + 6)))]) (by simp [Lle]) (ih18 (wr (v3 + 6)) q24.2 r g' h)
              · rw [if_neg hc] at h
                refine es (484, [some (.inr (.inr 1000)), some (.inr (.inr 0)), some (.inr (.inr 92)), some (.inl v3)], [], q24.2) (congrArg some (if_neg hc)) ?_
                refine ev_runs 1 (484, [some (.inr (.inr 1000)), some (.inr (.inr 0)), some (.inr (.inr 92)), some (.inl v3)], [], q24.2) (485, [some (.inr (.inr 1000)), some (.inr (.inr 0)), some (.inr (.inr 92)), some (.inl v3)], [.inl 0], q24.2) rfl ?_
                cases h
                exact er rfl
            · rw [if_neg hc] at h; cases h
          · rw [if_neg hc] at h; cases h
        rw [if_neg hx11] at h
        by_cases hx12 : (jand (g 1000 v3.toNat) 63) = 12
        · rw [if_pos hx12] at h
          refine ev_sw (tgt := 486) rfl (by rw [hx12]; rfl) ?_
          show Ev 259 486 [some (.inr (.inr 1000)), some (.inr (.inr 0)), some (.inr (.inr 92)), some (.inl v3)] [] g _ _
          refine ev_runs 1 (486, [some (.inr (.inr 1000)), some (.inr (.inr 0)), some (.inr (.inr 92)), some (.inl v3)], [], g) (487, [some (.inr (.inr 1000)), some (.inr (.inr 0)), some (.inr (.inr 92)), some (.inl v3)], [.inr (.inr 0)], g) rfl ?_
          obtain ⟨q25, hq, h⟩ := Option.bind_eq_some_iff.mp h
          refine ec 136 490 [.inr (.inr 0)] [] rfl (ev_Op_mended g q25.1 q25.2 hq) ?_
          show Ev 259 490 [some (.inr (.inr 1000)), some (.inr (.inr 0)), some (.inr (.inr 92)), some (.inl v3)] [.inl q25.1] q25.2 _ _
          refine ev_runs 1 (490, [some (.inr (.inr 1000)), some (.inr (.inr 0)), some (.inr (.inr 92)), some (.inl v3)], [.inl q25.1], q25.2) (491, [some (.inr (.inr 1000)), some (.inr (.inr 0)), some (.inr (.inr 92)), some (.inl v3)], [.inr (.inr 92), .inl q25.1], q25.2) rfl ?_
          obtain ⟨q26, hq, h⟩ := Option.bind_eq_some_iff.mp h
          refine ec 138 494 [.inr (.inr 92)] [.inl q25.1] rfl (ev_Md_mended q25.2 q26.1 q26.2 hq) ?_
          show Ev 259 494 [some (.inr (.inr 1000)), some (.inr (.inr 0)), some (.inr (.inr 92)), some (.inl v3)] [.inl q26.1, .inl q25.1] q26.2 _ _
          by_cases hc : q25.1 = q26.1
          · rw [if_pos hc] at h
            refine es (1150, [some (.inr (.inr 1000)), some (.inr (.inr 0)), some (.inr (.inr 92)), some (.inl v3)], [], q26.2) (congrArg some (if_pos hc)) ?_
            refine ev_runs 2 (1150, [some (.inr (.inr 1000)), some (.inr (.inr 0)), some (.inr (.inr 92)), some (.inl v3)], [], q26.2) (18, [some (.inr (.inr 1000)), some (.inr (.inr 0)), some (.inr (.inr 92)), some (.inl (wr (v3 + 6)))], [], q26.2) rfl ?_
            exact ev_le (L := [some (.inr (.inr 1000)), some (.inr (.inr 0)), some (.inr (.inr 92)), some (.inl (wr (v3 + 6)))]) (by simp [Lle]) (ih18 (wr (v3 + 6)) q26.2 r g' h)
          · rw [if_neg hc] at h
            refine es (497, [some (.inr (.inr 1000)), some (.inr (.inr 0)), some (.inr (.inr 92)), some (.inl v3)], [], q26.2) (congrArg some (if_neg hc)) ?_
            refine ev_runs 1 (497, [some (.inr (.inr 1000)), some (.inr (.inr 0)), some (.inr (.inr 92)), some (.inl v3)], [], q26.2) (498, [some (.inr (.inr 1000)), some (.inr (.inr 0)), some (.inr (.inr 92)), some (.inl v3)], [.inl 0], q26.2) rfl ?_
            cases h
            exact er rfl
        rw [if_neg hx12] at h
        by_cases hx13 : (jand (g 1000 v3.toNat) 63) = 13
        · rw [if_pos hx13] at h
          refine ev_sw (tgt := 499) rfl (by rw [hx13]; rfl) ?_
          show Ev 259 499 [some (.inr (.inr 1000)), some (.inr (.inr 0)), some (.inr (.inr 92)), some (.inl v3)] [] g _ _
          refine ev_runs 5 (499, [some (.inr (.inr 1000)), some (.inr (.inr 0)), some (.inr (.inr 92)), some (.inl v3)], [], g) (504, [some (.inr (.inr 1000)), some (.inr (.inr 0)), some (.inr (.inr 92)), some (.inl v3)], [.inl (wr (v3 + 1)), .inr (.inr 1000), .inr (.inr 0)], g) rfl ?_
          by_cases hc : (1000 : Nat) = 1000 ∧ 0 ≤ (wr (v3 + 1)) ∧ (wr (v3 + 1)) < (g 1001 0)
          · rw [if_pos hc] at h
            refine es (505, [some (.inr (.inr 1000)), some (.inr (.inr 0)), some (.inr (.inr 92)), some (.inl v3)], [.inl (g 1000 (wr (v3 + 1)).toNat), .inr (.inr 0)], g) (if_pos hc) ?_
            refine ev_runs 4 (505, [some (.inr (.inr 1000)), some (.inr (.inr 0)), some (.inr (.inr 92)), some (.inl v3)], [.inl (g 1000 (wr (v3 + 1)).toNat), .inr (.inr 0)], g) (509, [some (.inr (.inr 1000)), some (.inr (.inr 0)), some (.inr (.inr 92)), some (.inl v3)], [.inl (wr (v3 + 2)), .inr (.inr 1000), .inl (g 1000 (wr (v3 + 1)).toNat), .inr (.inr 0)], g) rfl ?_
            by_cases hc : (1000 : Nat) = 1000 ∧ 0 ≤ (wr (v3 + 2)) ∧ (wr (v3 + 2)) < (g 1001 0)
            · rw [if_pos hc] at h
              refine es (510, [some (.inr (.inr 1000)), some (.inr (.inr 0)), some (.inr (.inr 92)), some (.inl v3)], [.inl (g 1000 (wr (v3 + 2)).toNat), .inl (g 1000 (wr (v3 + 1)).toNat), .inr (.inr 0)], g) (if_pos hc) ?_
              refine ev_runs 4 (510, [some (.inr (.inr 1000)), some (.inr (.inr 0)), some (.inr (.inr 92)), some (.inl v3)], [.inl (g 1000 (wr (v3 + 2)).toNat), .inl (g 1000 (wr (v3 + 1)).toNat), .inr (.inr 0)], g) (514, [some (.inr (.inr 1000)), some (.inr (.inr 0)), some (.inr (.inr 92)), some (.inl v3)], [.inl (wr (v3 + 3)), .inr (.inr 1000), .inl (g 1000 (wr (v3 + 2)).toNat), .inl (g 1000 (wr (v3 + 1)).toNat), .inr (.inr 0)], g) rfl ?_
              by_cases hc : (1000 : Nat) = 1000 ∧ 0 ≤ (wr (v3 + 3)) ∧ (wr (v3 + 3)) < (g 1001 0)
              · rw [if_pos hc] at h
                refine es (515, [some (.inr (.inr 1000)), some (.inr (.inr 0)), some (.inr (.inr 92)), some (.inl v3)], [.inl (g 1000 (wr (v3 + 3)).toNat), .inl (g 1000 (wr (v3 + 2)).toNat), .inl (g 1000 (wr (v3 + 1)).toNat), .inr (.inr 0)], g) (if_pos hc) ?_
                obtain ⟨q27, hq, h⟩ := Option.bind_eq_some_iff.mp h
                refine ec 147 518 [.inr (.inr 0), .inl (g 1000 (wr (v3 + 1)).toNat), .inl (g 1000 (wr (v3 + 2)).toNat), .inl (g 1000 (wr (v3 + 3)).toNat)] [] rfl (ev_Op_run (g 1000 (wr (v3 + 1)).toNat) (g 1000 (wr (v3 + 2)).toNat) (g 1000 (wr (v3 + 3)).toNat) g q27.1 q27.2 hq) ?_
                show Ev 259 518 [some (.inr (.inr 1000)), some (.inr (.inr 0)), some (.inr (.inr 92)), some (.inl v3)] [.inl q27.1] q27.2 _ _
                refine ev_runs 5 (518, [some (.inr (.inr 1000)), some (.inr (.inr 0)), some (.inr (.inr 92)), some (.inl v3)], [.inl q27.1], q27.2) (523, [some (.inr (.inr 1000)), some (.inr (.inr 0)), some (.inr (.inr 92)), some (.inl v3)], [.inl (wr (v3 + 1)), .inr (.inr 1000), .inr (.inr 92), .inl q27.1], q27.2) rfl ?_
                by_cases hc : (1000 : Nat) = 1000 ∧ 0 ≤ (wr (v3 + 1)) ∧ (wr (v3 + 1)) < (q27.2 1001 0)
                · rw [if_pos hc] at h
                  refine es (524, [some (.inr (.inr 1000)), some (.inr (.inr 0)), some (.inr (.inr 92)), some (.inl v3)], [.inl (q27.2 1000 (wr (v3 + 1)).toNat), .inr (.inr 92), .inl q27.1], q27.2) (if_pos hc) ?_
                  refine ev_runs 4 (524, [some (.inr (.inr 1000)), some (.inr (.inr 0)), some (.inr (.inr 92)), some (.inl v3)], [.inl (q27.2 1000 (wr (v3 + 1)).toNat), .inr (.inr 92), .inl q27.1], q27.2) (528, [some (.inr (.inr 1000)), some (.inr (.inr 0)), some (.inr (.inr 92)), some (.inl v3)], [.inl (wr (v3 + 2)), .inr (.inr 1000), .inl (q27.2 1000 (wr (v3 + 1)).toNat), .inr (.inr 92), .inl q27.1], q27.2) rfl ?_
                  by_cases hc : (1000 : Nat) = 1000 ∧ 0 ≤ (wr (v3 + 2)) ∧ (wr (v3 + 2)) < (q27.2 1001 0)
                  · rw [if_pos hc] at h
                    refine es (529, [some (.inr (.inr 1000)), some (.inr (.inr 0)), some (.inr (.inr 92)), some (.inl v3)], [.inl (q27.2 1000 (wr (v3 + 2)).toNat), .inl (q27.2 1000 (wr (v3 + 1)).toNat), .inr (.inr 92), .inl q27.1], q27.2) (if_pos hc) ?_
                    refine ev_runs 4 (529, [some (.inr (.inr 1000)), some (.inr (.inr 0)), some (.inr (.inr 92)), some (.inl v3)], [.inl (q27.2 1000 (wr (v3 + 2)).toNat), .inl (q27.2 1000 (wr (v3 + 1)).toNat), .inr (.inr 92), .inl q27.1], q27.2) (533, [some (.inr (.inr 1000)), some (.inr (.inr 0)), some (.inr (.inr 92)), some (.inl v3)], [.inl (wr (v3 + 3)), .inr (.inr 1000), .inl (q27.2 1000 (wr (v3 + 2)).toNat), .inl (q27.2 1000 (wr (v3 + 1)).toNat), .inr (.inr 92), .inl q27.1], q27.2) rfl ?_
                    by_cases hc : (1000 : Nat) = 1000 ∧ 0 ≤ (wr (v3 + 3)) ∧ (wr (v3 + 3)) < (q27.2 1001 0)
                    · rw [if_pos hc] at h
                      refine es (534, [some (.inr (.inr 1000)), some (.inr (.inr 0)), some (.inr (.inr 92)), some (.inl v3)], [.inl (q27.2 1000 (wr (v3 + 3)).toNat), .inl (q27.2 1000 (wr (v3 + 2)).toNat), .inl (q27.2 1000 (wr (v3 + 1)).toNat), .inr (.inr 92), .inl q27.1], q27.2) (if_pos hc) ?_
                      obtain ⟨q28, hq, h⟩ := Option.bind_eq_some_iff.mp h
                      refine ec 153 537 [.inr (.inr 92), .inl (q27.2 1000 (wr (v3 + 1)).toNat), .inl (q27.2 1000 (wr (v3 + 2)).toNat), .inl (q27.2 1000 (wr (v3 + 3)).toNat)] [.inl q27.1] rfl (ev_Md_run (q27.2 1000 (wr (v3 + 1)).toNat) (q27.2 1000 (wr (v3 + 2)).toNat) (q27.2 1000 (wr (v3 + 3)).toNat) q27.2 q28.1 q28.2 hq) ?_
                      show Ev 259 537 [some (.inr (.inr 1000)), some (.inr (.inr 0)), some (.inr (.inr 92)), some (.inl v3)] [.inl q28.1, .inl q27.1] q28.2 _ _
                      by_cases hc : q27.1 = q28.1
                      · rw [if_pos hc] at h
                        refine es (1150, [some (.inr (.inr 1000)), some (.inr (.inr 0)), some (.inr (.inr 92)), some (.inl v3)], [], q28.2) (congrArg some (if_pos hc)) ?_
                        refine ev_runs 2 (1150, [some (.inr (.inr 1000)), some (.inr (.inr 0)), some (.inr (.inr 92)), some (.inl v3)], [], q28.2) (18, [some (.inr (.inr 1000)), some (.inr (.inr 0)), some (.inr (.inr 92)), some (.inl (wr (v3 + 6)))], [], q28.2) rfl ?_
                        exact ev_le (L := [some (.inr (.inr 1000)), some (.inr (.inr 0)), some (.inr (.inr 92)), some (.inl (wr (v3 + 6)))]) (by simp [Lle]) (ih18 (wr (v3 + 6)) q28.2 r g' h)
                      · rw [if_neg hc] at h
                        refine es (540, [some (.inr (.inr 1000)), some (.inr (.inr 0)), some (.inr (.inr 92)), some (.inl v3)], [], q28.2) (congrArg some (if_neg hc)) ?_
                        refine ev_runs 1 (540, [some (.inr (.inr 1000)), some (.inr (.inr 0)), some (.inr (.inr 92)), some (.inl v3)], [], q28.2) (541, [some (.inr (.inr 1000)), some (.inr (.inr 0)), some (.inr (.inr 92)), some (.inl v3)], [.inl 0], q28.2) rfl ?_
                        cases h
                        exact er rfl
                    · rw [if_neg hc] at h; cases h
                  · rw [if_neg hc] at h; cases h
                · rw [if_neg hc] at h; cases h
              · rw [if_neg hc] at h; cases h
            · rw [if_neg hc] at h; cases h
          · rw [if_neg hc] at h; cases h
        rw [if_neg hx13] at h
        by_cases hx14 : (jand (g 1000 v3.toNat) 63) = 14
        · rw [if_pos hx14] at h
          refine ev_sw (tgt := 542) rfl (by rw [hx14]; rfl) ?_
          show Ev 259 542 [some (.inr (.inr 1000)), some (.inr (.inr 0)), some (.inr (.inr 92)), some (.inl v3)] [] g _ _
          refine ev_runs 5 (542, [some (.inr (.inr 1000)), some (.inr (.inr 0)), some (.inr (.inr 92)), some (.inl v3)], [], g) (547, [some (.inr (.inr 1000)), some (.inr (.inr 0)), some (.inr (.inr 92)), some (.inl v3)], [.inl (wr (v3 + 1)), .inr (.inr 1000), .inr (.inr 0)], g) rfl ?_
          by_cases hc : (1000 : Nat) = 1000 ∧ 0 ≤ (wr (v3 + 1)) ∧ (wr (v3 + 1)) < (g 1001 0)
          · rw [if_pos hc] at h
            refine es (548, [some (.inr (.inr 1000)), some (.inr (.inr 0)), some (.inr (.inr 92)), some (.inl v3)], [.inl (g 1000 (wr (v3 + 1)).toNat), .inr (.inr 0)], g) (if_pos hc) ?_
            refine ev_runs 4 (548, [some (.inr (.inr 1000)), some (.inr (.inr 0)), some (.inr (.inr 92)), some (.inl v3)], [.inl (g 1000 (wr (v3 + 1)).toNat), .inr (.inr 0)], g) (552, [some (.inr (.inr 1000)), some (.inr (.inr 0)), some (.inr (.inr 92)), some (.inl v3)], [.inl (wr (v3 + 2)), .inr (.inr 1000), .inl (g 1000 (wr (v3 + 1)).toNat), .inr (.inr 0)], g) rfl ?_
            by_cases hc : (1000 : Nat) = 1000 ∧ 0 ≤ (wr (v3 + 2)) ∧ (wr (v3 + 2)) < (g 1001 0)
            · rw [if_pos hc] at h
              refine es (553, [some (.inr (.inr 1000)), some (.inr (.inr 0)), some (.inr (.inr 92)), some (.inl v3)], [.inl (g 1000 (wr (v3 + 2)).toNat), .inl (g 1000 (wr (v3 + 1)).toNat), .inr (.inr 0)], g) (if_pos hc) ?_
              refine ev_runs 4 (553, [some (.inr (.inr 1000)), some (.inr (.inr 0)), some (.inr (.inr 92)), some (.inl v3)], [.inl (g 1000 (wr (v3 + 2)).toNat), .inl (g 1000 (wr (v3 + 1)).toNat), .inr (.inr 0)], g) (557, [some (.inr (.inr 1000)), some (.inr (.inr 0)), some (.inr (.inr 92)), some (.inl v3)], [.inl (wr (v3 + 3)), .inr (.inr 1000), .inl (g 1000 (wr (v3 + 2)).toNat), .inl (g 1000 (wr (v3 + 1)).toNat), .inr (.inr 0)], g) rfl ?_
              by_cases hc : (1000 : Nat) = 1000 ∧ 0 ≤ (wr (v3 + 3)) ∧ (wr (v3 + 3)) < (g 1001 0)
              · rw [if_pos hc] at h
                refine es (558, [some (.inr (.inr 1000)), some (.inr (.inr 0)), some (.inr (.inr 92)), some (.inl v3)], [.inl (g 1000 (wr (v3 + 3)).toNat), .inl (g 1000 (wr (v3 + 2)).toNat), .inl (g 1000 (wr (v3 + 1)).toNat), .inr (.inr 0)], g) (if_pos hc) ?_
                obtain ⟨q29, hq, h⟩ := Option.bind_eq_some_iff.mp h
                refine ec 155 561 [.inr (.inr 0), .inl (g 1000 (wr (v3 + 1)).toNat), .inl (g 1000 (wr (v3 + 2)).toNat), .inl (g 1000 (wr (v3 + 3)).toNat)] [] rfl (ev_Op_step (g 1000 (wr (v3 + 1)).toNat) (g 1000 (wr (v3 + 2)).toNat) (g 1000 (wr (v3 + 3)).toNat) g q29.1 q29.2 hq) ?_
                show Ev 259 561 [some (.inr (.inr 1000)), some (.inr (.inr 0)), some (.inr (.inr 92)), some (.inl v3)] [.inl q29.1] q29.2 _ _
                refine ev_runs 5 (561, [some (.inr (.inr 1000)), some (.inr (.inr 0)), some (.inr (.inr 92)), some (.inl v3)], [.inl q29.1], q29.2) (566, [some (.inr (.inr 1000)), some (.inr (.inr 0)), some (.inr (.inr 92)), some (.inl v3)], [.inl (wr (v3 + 1)), .inr (.inr 1000), .inr (.inr 92), .inl q29.1], q29.2) rfl ?_
                by_cases hc : (1000 : Nat) = 1000 ∧ 0 ≤ (wr (v3 + 1)) ∧ (wr (v3 + 1)) < (q29.2 1001 0)
                · rw [if_pos hc] at h
                  refine es (567, [some (.inr (.inr 1000)), some (.inr (.inr 0)), some (.inr (.inr 92)), some (.inl v3)], [.inl (q29.2 1000 (wr (v3 + 1)).toNat), .inr (.inr 92), .inl q29.1], q29.2) (if_pos hc) ?_
                  refine ev_runs 4 (567, [some (.inr (.inr 1000)), some (.inr (.inr 0)), some (.inr (.inr 92)), some (.inl v3)], [.inl (q29.2 1000 (wr (v3 + 1)).toNat), .inr (.inr 92), .inl q29.1], q29.2) (571, [some (.inr (.inr 1000)), some (.inr (.inr 0)), some (.inr (.inr 92)), some (.inl v3)], [.inl (wr (v3 + 2)), .inr (.inr 1000), .inl (q29.2 1000 (wr (v3 + 1)).toNat), .inr (.inr 92), .inl q29.1], q29.2) rfl ?_
                  by_cases hc : (1000 : Nat) = 1000 ∧ 0 ≤ (wr (v3 + 2)) ∧ (wr (v3 + 2)) < (q29.2 1001 0)
                  · rw [if_pos hc] at h
                    refine es (572, [some (.inr (.inr 1000)), some (.inr (.inr 0)), some (.inr (.inr 92)), some (.inl v3)], [.inl (q29.2 1000 (wr (v3 + 2)).toNat), .inl (q29.2 1000 (wr (v3 + 1)).toNat), .inr (.inr 92), .inl q29.1], q29.2) (if_pos hc) ?_
                    refine ev_runs 4 (572, [some (.inr (.inr 1000)), some (.inr (.inr 0)), some (.inr (.inr 92)), some (.inl v3)], [.inl (q29.2 1000 (wr (v3 + 2)).toNat), .inl (q29.2 1000 (wr (v3 + 1)).toNat), .inr (.inr 92), .inl q29.1], q29.2) (576, [some (.inr (.inr 1000)), some (.inr (.inr 0)), some (.inr (.inr 92)), some (.inl v3)], [.inl (wr (v3 + 3)), .inr (.inr 1000), .inl (q29.2 1000 (wr (v3 + 2)).toNat), .inl (q29.2 1000 (wr (v3 + 1)).toNat), .inr (.inr 92), .inl q29.1], q29.2) rfl ?_
                    by_cases hc : (1000 : Nat) = 1000 ∧ 0 ≤ (wr (v3 + 3)) ∧ (wr (v3 + 3)) < (q29.2 1001 0)
                    · rw [if_pos hc] at h
                      refine es (577, [some (.inr (.inr 1000)), some (.inr (.inr 0)), some (.inr (.inr 92)), some (.inl v3)], [.inl (q29.2 1000 (wr (v3 + 3)).toNat), .inl (q29.2 1000 (wr (v3 + 2)).toNat), .inl (q29.2 1000 (wr (v3 + 1)).toNat), .inr (.inr 92), .inl q29.1], q29.2) (if_pos hc) ?_
                      obtain ⟨q30, hq, h⟩ := Option.bind_eq_some_iff.mp h
                      refine ec 156 580 [.inr (.inr 92), .inl (q29.2 1000 (wr (v3 + 1)).toNat), .inl (q29.2 1000 (wr (v3 + 2)).toNat), .inl (q29.2 1000 (wr (v3 + 3)).toNat)] [.inl q29.1] rfl (ev_Md_step (q29.2 1000 (wr (v3 + 1)).toNat) (q29.2 1000 (wr (v3 + 2)).toNat) (q29.2 1000 (wr (v3 + 3)).toNat) q29.2 q30.1 q30.2 hq) ?_
                      show Ev 259 580 [some (.inr (.inr 1000)), some (.inr (.inr 0)), some (.inr (.inr 92)), some (.inl v3)] [.inl q30.1, .inl q29.1] q30.2 _ _
                      by_cases hc : q29.1 = q30.1
                      · rw [if_pos hc] at h
                        refine es (1150, [some (.inr (.inr 1000)), some (.inr (.inr 0)), some (.inr (.inr 92)), some (.inl v3)], [], q30.2) (congrArg some (if_pos hc)) ?_
                        refine ev_runs 2 (1150, [some (.inr (.inr 1000)), some (.inr (.inr 0)), some (.inr (.inr 92)), some (.inl v3)], [], q30.2) (18, [some (.inr (.inr 1000)), some (.inr (.inr 0)), some (.inr (.inr 92)), some (.inl (wr (v3 + 6)))], [], q30.2) rfl ?_
                        exact ev_le (L := [some (.inr (.inr 1000)), some (.inr (.inr 0)), some (.inr (.inr 92)), some (.inl (wr (v3 + 6)))]) (by simp [Lle]) (ih18 (wr (v3 + 6)) q30.2 r g' h)
                      · rw [if_neg hc] at h
                        refine es (583, [some (.inr (.inr 1000)), some (.inr (.inr 0)), some (.inr (.inr 92)), some (.inl v3)], [], q30.2) (congrArg some (if_neg hc)) ?_
                        refine ev_runs 1 (583, [some (.inr (.inr 1000)), some (.inr (.inr 0)), some (.inr (.inr 92)), some (.inl v3)], [], q30.2) (584, [some (.inr (.inr 1000)), some (.inr (.inr 0)), some (.inr (.inr 92)), some (.inl v3)], [.inl 0], q30.2) rfl ?_
                        cases h
                        exact er rfl
                    · rw [if_neg hc] at h; cases h
                  · rw [if_neg hc] at h; cases h
                · rw [if_neg hc] at h; cases h
              · rw [if_neg hc] at h; cases h
            · rw [if_neg hc] at h; cases h
          · rw [if_neg hc] at h; cases h
        rw [if_neg hx14] at h
        by_cases hx15 : (jand (g 1000 v3.toNat) 63) = 15
        · rw [if_pos hx15] at h
          refine ev_sw (tgt := 585) rfl (by rw [hx15]; rfl) ?_
          show Ev 259 585 [some (.inr (.inr 1000)), some (.inr (.inr 0)), some (.inr (.inr 92)), some (.inl v3)] [] g _ _
          refine ev_runs 5 (585, [some (.inr (.inr 1000)), some (.inr (.inr 0)), some (.inr (.inr 92)), some (.inl v3)], [], g) (590, [some (.inr (.inr 1000)), some (.inr (.inr 0)), some (.inr (.inr 92)), some (.inl v3)], [.inl (wr (v3 + 1)), .inr (.inr 1000), .inr (.inr 0)], g) rfl ?_
          by_cases hc : (1000 : Nat) = 1000 ∧ 0 ≤ (wr (v3 + 1)) ∧ (wr (v3 + 1)) < (g 1001 0)
          · rw [if_pos hc] at h
            refine es (591, [some (.inr (.inr 1000)), some (.inr (.inr 0)), some (.inr (.inr 92)), some (.inl v3)], [.inl (g 1000 (wr (v3 + 1)).toNat), .inr (.inr 0)], g) (if_pos hc) ?_
            refine ev_runs 4 (591, [some (.inr (.inr 1000)), some (.inr (.inr 0)), some (.inr (.inr 92)), some (.inl v3)], [.inl (g 1000 (wr (v3 + 1)).toNat), .inr (.inr 0)], g) (595, [some (.inr (.inr 1000)), some (.inr (.inr 0)), some (.inr (.inr 92)), some (.inl v3)], [.inl (wr (v3 + 2)), .inr (.inr 1000), .inl (g 1000 (wr (v3 + 1)).toNat), .inr (.inr 0)], g) rfl ?_
            by_cases hc : (1000 : Nat) = 1000 ∧ 0 ≤ (wr (v3 + 2)) ∧ (wr (v3 + 2)) < (g 1001 0)
            · rw [if_pos hc] at h
              refine es (596, [some (.inr (.inr 1000)), some (.inr (.inr 0)), some (.inr (.inr 92)), some (.inl v3)], [.inl (g 1000 (wr (v3 + 2)).toNat), .inl (g 1000 (wr (v3 + 1)).toNat), .inr (.inr 0)], g) (if_pos hc) ?_
              refine ev_runs 4 (596, [some (.inr (.inr 1000)), some (.inr (.inr 0)), some (.inr (.inr 92)), some (.inl v3)], [.inl (g 1000 (wr (v3 + 2)).toNat), .inl (g 1000 (wr (v3 + 1)).toNat), .inr (.inr 0)], g) (600, [some (.inr (.inr 1000)), some (.inr (.inr 0)), some (.inr (.inr 92)), some (.inl v3)], [.inl (wr (v3 + 3)), .inr (.inr 1000), .inl (g 1000 (wr (v3 + 2)).toNat), .inl (g 1000 (wr (v3 + 1)).toNat), .inr (.inr 0)], g) rfl ?_
              by_cases hc : (1000 : Nat) = 1000 ∧ 0 ≤ (wr (v3 + 3)) ∧ (wr (v3 + 3)) < (g 1001 0)
              · rw [if_pos hc] at h
                refine es (601, [some (.inr (.inr 1000)), some (.inr (.inr 0)), some (.inr (.inr 92)), some (.inl v3)], [.inl (g 1000 (wr (v3 + 3)).toNat), .inl (g 1000 (wr (v3 + 2)).toNat), .inl (g 1000 (wr (v3 + 1)).toNat), .inr (.inr 0)], g) (if_pos hc) ?_
                obtain ⟨q31, hq, h⟩ := Option.bind_eq_some_iff.mp h
                refine ec 160 604 [.inr (.inr 0), .inl (g 1000 (wr (v3 + 1)).toNat), .inl (g 1000 (wr (v3 + 2)).toNat), .inl (g 1000 (wr (v3 + 3)).toNat)] [] rfl (ev_Op_longest (g 1000 (wr (v3 + 1)).toNat) (g 1000 (wr (v3 + 2)).toNat) (g 1000 (wr (v3 + 3)).toNat) g q31.1 q31.2 hq) ?_
                show Ev 259 604 [some (.inr (.inr 1000)), some (.inr (.inr 0)), some (.inr (.inr 92)), some (.inl v3)] [.inl q31.1] q31.2 _ _
                refine ev_runs 5 (604, [some (.inr (.inr 1000)), some (.inr (.inr 0)), some (.inr (.inr 92)), some (.inl v3)], [.inl q31.1], q31.2) (609, [some (.inr (.inr 1000)), some (.inr (.inr 0)), some (.inr (.inr 92)), some (.inl v3)], [.inl (wr (v3 + 1)), .inr (.inr 1000), .inr (.inr 92), .inl q31.1], q31.2) rfl ?_
                by_cases hc : (1000 : Nat) = 1000 ∧ 0 ≤ (wr (v3 + 1)) ∧ (wr (v3 + 1)) < (q31.2 1001 0)
                · rw [if_pos hc] at h
                  refine es (610, [some (.inr (.inr 1000)), some (.inr (.inr 0)), some (.inr (.inr 92)), some (.inl v3)], [.inl (q31.2 1000 (wr (v3 + 1)).toNat), .inr (.inr 92), .inl q31.1], q31.2) (if_pos hc) ?_
                  refine ev_runs 4 (610, [some (.inr (.inr 1000)), some (.inr (.inr 0)), some (.inr (.inr 92)), some (.inl v3)], [.inl (q31.2 1000 (wr (v3 + 1)).toNat), .inr (.inr 92), .inl q31.1], q31.2) (614, [some (.inr (.inr 1000)), some (.inr (.inr 0)), some (.inr (.inr 92)), some (.inl v3)], [.inl (wr (v3 + 2)), .inr (.inr 1000), .inl (q31.2 1000 (wr (v3 + 1)).toNat), .inr (.inr 92), .inl q31.1], q31.2) rfl ?_
                  by_cases hc : (1000 : Nat) = 1000 ∧ 0 ≤ (wr (v3 + 2)) ∧ (wr (v3 + 2)) < (q31.2 1001 0)
                  · rw [if_pos hc] at h
                    refine es (615, [some (.inr (.inr 1000)), some (.inr (.inr 0)), some (.inr (.inr 92)), some (.inl v3)], [.inl (q31.2 1000 (wr (v3 + 2)).toNat), .inl (q31.2 1000 (wr (v3 + 1)).toNat), .inr (.inr 92), .inl q31.1], q31.2) (if_pos hc) ?_
                    refine ev_runs 4 (615, [some (.inr (.inr 1000)), some (.inr (.inr 0)), some (.inr (.inr 92)), some (.inl v3)], [.inl (q31.2 1000 (wr (v3 + 2)).toNat), .inl (q31.2 1000 (wr (v3 + 1)).toNat), .inr (.inr 92), .inl q31.1], q31.2) (619, [some (.inr (.inr 1000)), some (.inr (.inr 0)), some (.inr (.inr 92)), some (.inl v3)], [.inl (wr (v3 + 3)), .inr (.inr 1000), .inl (q31.2 1000 (wr (v3 + 2)).toNat), .inl (q31.2 1000 (wr (v3 + 1)).toNat), .inr (.inr 92), .inl q31.1], q31.2) rfl ?_
                    by_cases hc : (1000 : Nat) = 1000 ∧ 0 ≤ (wr (v3 + 3)) ∧ (wr (v3 + 3)) < (q31.2 1001 0)
                    · rw [if_pos hc] at h
                      refine es (620, [some (.inr (.inr 1000)), some (.inr (.inr 0)), some (.inr (.inr 92)), some (.inl v3)], [.inl (q31.2 1000 (wr (v3 + 3)).toNat), .inl (q31.2 1000 (wr (v3 + 2)).toNat), .inl (q31.2 1000 (wr (v3 + 1)).toNat), .inr (.inr 92), .inl q31.1], q31.2) (if_pos hc) ?_
                      obtain ⟨q32, hq, h⟩ := Option.bind_eq_some_iff.mp h
                      refine ec 162 623 [.inr (.inr 92), .inl (q31.2 1000 (wr (v3 + 1)).toNat), .inl (q31.2 1000 (wr (v3 + 2)).toNat), .inl (q31.2 1000 (wr (v3 + 3)).toNat)] [.inl q31.1] rfl (ev_Md_longest (q31.2 1000 (wr (v3 + 1)).toNat) (q31.2 1000 (wr (v3 + 2)).toNat) (q31.2 1000 (wr (v3 + 3)).toNat) q31.2 q32.1 q32.2 hq) ?_
                      show Ev 259 623 [some (.inr (.inr 1000)), some (.inr (.inr 0)), some (.inr (.inr 92)), some (.inl v3)] [.inl q32.1, .inl q31.1] q32.2 _ _
                      by_cases hc : q31.1 = q32.1
                      · rw [if_pos hc] at h
                        refine es (1150, [some (.inr (.inr 1000)), some (.inr (.inr 0)), some (.inr (.inr 92)), some (.inl v3)], [], q32.2) (congrArg some (if_pos hc)) ?_
                        refine ev_runs 2 (1150, [some (.inr (.inr 1000)), some (.inr (.inr 0)), some (.inr (.inr 92)), some (.inl v3)], [], q32.2) (18, [some (.inr (.inr 1000)), some (.inr (.inr 0)), some (.inr (.inr 92)), some (.inl (wr (v3 + 6)))], [], q32.2) rfl ?_
                        exact ev_le (L := [some (.inr (.inr 1000)), some (.inr (.inr 0)), some (.inr (.inr 92)), some (.inl (wr (v3 + 6)))]) (by simp [Lle]) (ih18 (wr (v3 + 6)) q32.2 r g' h)
                      · rw [if_neg hc] at h
                        refine es (626, [some (.inr (.inr 1000)), some (.inr (.inr 0)), some (.inr (.inr 92)), some (.inl v3)], [], q32.2) (congrArg some (if_neg hc)) ?_
                        refine ev_runs 1 (626, [some (.inr (.inr 1000)), some (.inr (.inr 0)), some (.inr (.inr 92)), some (.inl v3)], [], q32.2) (627, [some (.inr (.inr 1000)), some (.inr (.inr 0)), some (.inr (.inr 92)), some (.inl v3)], [.inl 0], q32.2) rfl ?_
                        cases h
                        exact er rfl
                    · rw [if_neg hc] at h; cases h
                  · rw [if_neg hc] at h; cases h
                · rw [if_neg hc] at h; cases h
              · rw [if_neg hc] at h; cases h
            · rw [if_neg hc] at h; cases h
          · rw [if_neg hc] at h; cases h
        rw [if_neg hx15] at h
        by_cases hx16 : (jand (g 1000 v3.toNat) 63) = 16
        · rw [if_pos hx16] at h
          refine ev_sw (tgt := 628) rfl (by rw [hx16]; rfl) ?_
          show Ev 259 628 [some (.inr (.inr 1000)), some (.inr (.inr 0)), some (.inr (.inr 92)), some (.inl v3)] [] g _ _
          refine ev_runs 5 (628, [some (.inr (.inr 1000)), some (.inr (.inr 0)), some (.inr (.inr 92)), some (.inl v3)], [], g) (633, [some (.inr (.inr 1000)), some (.inr (.inr 0)), some (.inr (.inr 92)), some (.inl v3)], [.inl (wr (v3 + 1)), .inr (.inr 1000), .inr (.inr 0)], g) rfl ?_
          by_cases hc : (1000 : Nat) = 1000 ∧ 0 ≤ (wr (v3 + 1)) ∧ (wr (v3 + 1)) < (g 1001 0)
          · rw [if_pos hc] at h
            refine es (634, [some (.inr (.inr 1000)), some (.inr (.inr 0)), some (.inr (.inr 92)), some (.inl v3)], [.inl (g 1000 (wr (v3 + 1)).toNat), .inr (.inr 0)], g) (if_pos hc) ?_
            refine ev_runs 4 (634, [some (.inr (.inr 1000)), some (.inr (.inr 0)), some (.inr (.inr 92)), some (.inl v3)], [.inl (g 1000 (wr (v3 + 1)).toNat), .inr (.inr 0)], g) (638, [some (.inr (.inr 1000)), some (.inr (.inr 0)), some (.inr (.inr 92)), some (.inl v3)], [.inl (wr (v3 + 2)), .inr (.inr 1000), .inl (g 1000 (wr (v3 + 1)).toNat), .inr (.inr 0)], g) rfl ?_
            by_cases hc : (1000 : Nat) = 1000 ∧ 0 ≤ (wr (v3 + 2)) ∧ (wr (v3 + 2)) < (g 1001 0)
            · rw [if_pos hc] at h
              refine es (639, [some (.inr (.inr 1000)), some (.inr (.inr 0)), some (.inr (.inr 92)), some (.inl v3)], [.inl (g 1000 (wr (v3 + 2)).toNat), .inl (g 1000 (wr (v3 + 1)).toNat), .inr (.inr 0)], g) (if_pos hc) ?_
              obtain ⟨q33, hq, h⟩ := Option.bind_eq_some_iff.mp h
              refine ec 166 642 [.inr (.inr 0), .inl (g 1000 (wr (v3 + 1)).toNat), .inl (g 1000 (wr (v3 + 2)).toNat)] [] rfl (ev_Op_trips (g 1000 (wr (v3 + 1)).toNat) (g 1000 (wr (v3 + 2)).toNat) g q33.1 q33.2 hq) ?_
              show Ev 259 642 [some (.inr (.inr 1000)), some (.inr (.inr 0)), some (.inr (.inr 92)), some (.inl v3)] [.inl q33.1] q33.2 _ _
              refine ev_runs 5 (642, [some (.inr (.inr 1000)), some (.inr (.inr 0)), some (.inr (.inr 92)), some (.inl v3)], [.inl q33.1], q33.2) (647, [some (.inr (.inr 1000)), some (.inr (.inr 0)), some (.inr (.inr 92)), some (.inl v3)], [.inl (wr (v3 + 1)), .inr (.inr 1000), .inr (.inr 92), .inl q33.1], q33.2) rfl ?_
              by_cases hc : (1000 : Nat) = 1000 ∧ 0 ≤ (wr (v3 + 1)) ∧ (wr (v3 + 1)) < (q33.2 1001 0)
              · rw [if_pos hc] at h
                refine es (648, [some (.inr (.inr 1000)), some (.inr (.inr 0)), some (.inr (.inr 92)), some (.inl v3)], [.inl (q33.2 1000 (wr (v3 + 1)).toNat), .inr (.inr 92), .inl q33.1], q33.2) (if_pos hc) ?_
                refine ev_runs 4 (648, [some (.inr (.inr 1000)), some (.inr (.inr 0)), some (.inr (.inr 92)), some (.inl v3)], [.inl (q33.2 1000 (wr (v3 + 1)).toNat), .inr (.inr 92), .inl q33.1], q33.2) (652, [some (.inr (.inr 1000)), some (.inr (.inr 0)), some (.inr (.inr 92)), some (.inl v3)], [.inl (wr (v3 + 2)), .inr (.inr 1000), .inl (q33.2 1000 (wr (v3 + 1)).toNat), .inr (.inr 92), .inl q33.1], q33.2) rfl ?_
                by_cases hc : (1000 : Nat) = 1000 ∧ 0 ≤ (wr (v3 + 2)) ∧ (wr (v3 + 2)) < (q33.2 1001 0)
                · rw [if_pos hc] at h
                  refine es (653, [some (.inr (.inr 1000)), some (.inr (.inr 0)), some (.inr (.inr 92)), some (.inl v3)], [.inl (q33.2 1000 (wr (v3 + 2)).toNat), .inl (q33.2 1000 (wr (v3 + 1)).toNat), .inr (.inr 92), .inl q33.1], q33.2) (if_pos hc) ?_
                  obtain ⟨q34, hq, h⟩ := Option.bind_eq_some_iff.mp h
                  refine ec 169 656 [.inr (.inr 92), .inl (q33.2 1000 (wr (v3 + 1)).toNat), .inl (q33.2 1000 (wr (v3 + 2)).toNat)] [.inl q33.1] rfl (ev_Md_trips (q33.2 1000 (wr (v3 + 1)).toNat) (q33.2 1000 (wr (v3 + 2)).toNat) q33.2 q34.1 q34.2 hq) ?_
                  show Ev 259 656 [some (.inr (.inr 1000)), some (.inr (.inr 0)), some (.inr (.inr 92)), some (.inl v3)] [.inl q34.1, .inl q33.1] q34.2 _ _
                  by_cases hc : q33.1 = q34.1
                  · rw [if_pos hc] at h
                    refine es (1150, [some (.inr (.inr 1000)), some (.inr (.inr 0)), some (.inr (.inr 92)), some (.inl v3)], [], q34.2) (congrArg some (if_pos hc)) ?_
                    refine ev_runs 2 (1150, [some (.inr (.inr 1000)), some (.inr (.inr 0)), some (.inr (.inr 92)), some (.inl v3)], [], q34.2) (18, [some (.inr (.inr 1000)), some (.inr (.inr 0)), some (.inr (.inr 92)), some (.inl (wr (v3 + 6)))], [], q34.2) rfl ?_
                    exact ev_le (L := [some (.inr (.inr 1000)), some (.inr (.inr 0)), some (.inr (.inr 92)), some (.inl (wr (v3 + 6)))]) (by simp [Lle]) (ih18 (wr (v3 + 6)) q34.2 r g' h)
                  · rw [if_neg hc] at h
                    refine es (659, [some (.inr (.inr 1000)), some (.inr (.inr 0)), some (.inr (.inr 92)), some (.inl v3)], [], q34.2) (congrArg some (if_neg hc)) ?_
                    refine ev_runs 1 (659, [some (.inr (.inr 1000)), some (.inr (.inr 0)), some (.inr (.inr 92)), some (.inl v3)], [], q34.2) (660, [some (.inr (.inr 1000)), some (.inr (.inr 0)), some (.inr (.inr 92)), some (.inl v3)], [.inl 0], q34.2) rfl ?_
                    cases h
                    exact er rfl
                · rw [if_neg hc] at h; cases h
              · rw [if_neg hc] at h; cases h
            · rw [if_neg hc] at h; cases h
          · rw [if_neg hc] at h; cases h
        rw [if_neg hx16] at h
        by_cases hx17 : (jand (g 1000 v3.toNat) 63) = 17
        · rw [if_pos hx17] at h
          refine ev_sw (tgt := 661) rfl (by rw [hx17]; rfl) ?_
          show Ev 259 661 [some (.inr (.inr 1000)), some (.inr (.inr 0)), some (.inr (.inr 92)), some (.inl v3)] [] g _ _
          refine ev_runs 5 (661, [some (.inr (.inr 1000)), some (.inr (.inr 0)), some (.inr (.inr 92)), some (.inl v3)], [], g) (666, [some (.inr (.inr 1000)), some (.inr (.inr 0)), some (.inr (.inr 92)), some (.inl v3)], [.inl (wr (v3 + 1)), .inr (.inr 1000), .inr (.inr 0)], g) rfl ?_
          by_cases hc : (1000 : Nat) = 1000 ∧ 0 ≤ (wr (v3 + 1)) ∧ (wr (v3 + 1)) < (g 1001 0)
          · rw [if_pos hc] at h
            refine es (667, [some (.inr (.inr 1000)), some (.inr (.inr 0)), some (.inr (.inr 92)), some (.inl v3)], [.inl (g 1000 (wr (v3 + 1)).toNat), .inr (.inr 0)], g) (if_pos hc) ?_
            refine ev_runs 4 (667, [some (.inr (.inr 1000)), some (.inr (.inr 0)), some (.inr (.inr 92)), some (.inl v3)], [.inl (g 1000 (wr (v3 + 1)).toNat), .inr (.inr 0)], g) (671, [some (.inr (.inr 1000)), some (.inr (.inr 0)), some (.inr (.inr 92)), some (.inl v3)], [.inl (wr (v3 + 2)), .inr (.inr 1000), .inl (g 1000 (wr (v3 + 1)).toNat), .inr (.inr 0)], g) rfl ?_
            by_cases hc : (1000 : Nat) = 1000 ∧ 0 ≤ (wr (v3 + 2)) ∧ (wr (v3 + 2)) < (g 1001 0)
            · rw [if_pos hc] at h
              refine es (672, [some (.inr (.inr 1000)), some (.inr (.inr 0)), some (.inr (.inr 92)), some (.inl v3)], [.inl (g 1000 (wr (v3 + 2)).toNat), .inl (g 1000 (wr (v3 + 1)).toNat), .inr (.inr 0)], g) (if_pos hc) ?_
              refine ev_runs 4 (672, [some (.inr (.inr 1000)), some (.inr (.inr 0)), some (.inr (.inr 92)), some (.inl v3)], [.inl (g 1000 (wr (v3 + 2)).toNat), .inl (g 1000 (wr (v3 + 1)).toNat), .inr (.inr 0)], g) (676, [some (.inr (.inr 1000)), some (.inr (.inr 0)), some (.inr (.inr 92)), some (.inl v3)], [.inl (wr (v3 + 3)), .inr (.inr 1000), .inl (g 1000 (wr (v3 + 2)).toNat), .inl (g 1000 (wr (v3 + 1)).toNat), .inr (.inr 0)], g) rfl ?_
              by_cases hc : (1000 : Nat) = 1000 ∧ 0 ≤ (wr (v3 + 3)) ∧ (wr (v3 + 3)) < (g 1001 0)
              · rw [if_pos hc] at h
                refine es (677, [some (.inr (.inr 1000)), some (.inr (.inr 0)), some (.inr (.inr 92)), some (.inl v3)], [.inl (g 1000 (wr (v3 + 3)).toNat), .inl (g 1000 (wr (v3 + 2)).toNat), .inl (g 1000 (wr (v3 + 1)).toNat), .inr (.inr 0)], g) (if_pos hc) ?_
                refine ev_runs 4 (677, [some (.inr (.inr 1000)), some (.inr (.inr 0)), some (.inr (.inr 92)), some (.inl v3)], [.inl (g 1000 (wr (v3 + 3)).toNat), .inl (g 1000 (wr (v3 + 2)).toNat), .inl (g 1000 (wr (v3 + 1)).toNat), .inr (.inr 0)], g) (681, [some (.inr (.inr 1000)), some (.inr (.inr 0)), some (.inr (.inr 92)), some (.inl v3)], [.inl (wr (v3 + 4)), .inr (.inr 1000), .inl (g 1000 (wr (v3 + 3)).toNat), .inl (g 1000 (wr (v3 + 2)).toNat), .inl (g 1000 (wr (v3 + 1)).toNat), .inr (.inr 0)], g) rfl ?_
                by_cases hc : (1000 : Nat) = 1000 ∧ 0 ≤ (wr (v3 + 4)) ∧ (wr (v3 + 4)) < (g 1001 0)
                · rw [if_pos hc] at h
                  refine es (682, [some (.inr (.inr 1000)), some (.inr (.inr 0)), some (.inr (.inr 92)), some (.inl v3)], [.inl (g 1000 (wr (v3 + 4)).toNat), .inl (g 1000 (wr (v3 + 3)).toNat), .inl (g 1000 (wr (v3 + 2)).toNat), .inl (g 1000 (wr (v3 + 1)).toNat), .inr (.inr 0)], g) (if_pos hc) ?_
                  obtain ⟨q35, hq, h⟩ := Option.bind_eq_some_iff.mp h
                  refine ec 173 685 [.inr (.inr 0), .inl (g 1000 (wr (v3 + 1)).toNat), .inl (g 1000 (wr (v3 + 2)).toNat), .inl (g 1000 (wr (v3 + 3)).toNat), .inl (g 1000 (wr (v3 + 4)).toNat)] [] rfl (ev_Op_lost (g 1000 (wr (v3 + 1)).toNat) (g 1000 (wr (v3 + 2)).toNat) (g 1000 (wr (v3 + 3)).toNat) (g 1000 (wr (v3 + 4)).toNat) g q35.1 q35.2 hq) ?_
                  show Ev 259 685 [some (.inr (.inr 1000)), some (.inr (.inr 0)), some (.inr (.inr 92)), some (.inl v3)] [.inl q35.1] q35.2 _ _
                  refine ev_runs 5 (685, [some (.inr (.inr 1000)), some (.inr (.inr 0)), some (.inr (.inr 92)), some (.inl v3)], [.inl q35.1], q35.2) (690, [some (.inr (.inr 1000)), some (.inr (.inr 0)), some (.inr (.inr 92)), some (.inl v3)], [.inl (wr (v3 + 1)), .inr (.inr 1000), .inr (.inr 92), .inl q35.1], q35.2) rfl ?_
                  by_cases hc : (1000 : Nat) = 1000 ∧ 0 ≤ (wr (v3 + 1)) ∧ (wr (v3 + 1)) < (q35.2 1001 0)
                  · rw [if_pos hc] at h
                    refine es (691, [some (.inr (.inr 1000)), some (.inr (.inr 0)), some (.inr (.inr 92)), some (.inl v3)], [.inl (q35.2 1000 (wr (v3 + 1)).toNat), .inr (.inr 92), .inl q35.1], q35.2) (if_pos hc) ?_
                    refine ev_runs 4 (691, [some (.inr (.inr 1000)), some (.inr (.inr 0)), some (.inr (.inr 92)), some (.inl v3)], [.inl (q35.2 1000 (wr (v3 + 1)).toNat), .inr (.inr 92), .inl q35.1], q35.2) (695, [some (.inr (.inr 1000)), some (.inr (.inr 0)), some (.inr (.inr 92)), some (.inl v3)], [.inl (wr (v3 + 2)), .inr (.inr 1000), .inl (q35.2 1000 (wr (v3 + 1)).toNat), .inr (.inr 92), .inl q35.1], q35.2) rfl ?_
                    by_cases hc : (1000 : Nat) = 1000 ∧ 0 ≤ (wr (v3 + 2)) ∧ (wr (v3 + 2)) < (q35.2 1001 0)
                    · rw [if_pos hc] at h
                      refine es (696, [some (.inr (.inr 1000)), some (.inr (.inr 0)), some (.inr (.inr 92)), some (.inl v3)], [.inl (q35.2 1000 (wr (v3 + 2)).toNat), .inl (q35.2 1000 (wr (v3 + 1)).toNat), .inr (.inr 92), .inl q35.1], q35.2) (if_pos hc) ?_
                      refine ev_runs 4 (696, [some (.inr (.inr 1000)), some (.inr (.inr 0)), some (.inr (.inr 92)), some (.inl v3)], [.inl (q35.2 1000 (wr (v3 + 2)).toNat), .inl (q35.2 1000 (wr (v3 + 1)).toNat), .inr (.inr 92), .inl q35.1], q35.2) (700, [some (.inr (.inr 1000)), some (.inr (.inr 0)), some (.inr (.inr 92)), some (.inl v3)], [.inl (wr (v3 + 3)), .inr (.inr 1000), .inl (q35.2 1000 (wr (v3 + 2)).toNat), .inl (q35.2 1000 (wr (v3 + 1)).toNat), .inr (.inr 92), .inl q35.1], q35.2) rfl ?_
                      by_cases hc : (1000 : Nat) = 1000 ∧ 0 ≤ (wr (v3 + 3)) ∧ (wr (v3 + 3)) < (q35.2 1001 0)
                      · rw [if_pos hc] at h
                        refine es (701, [some (.inr (.inr 1000)), some (.inr (.inr 0)), some (.inr (.inr 92)), some (.inl v3)], [.inl (q35.2 1000 (wr (v3 + 3)).toNat), .inl (q35.2 1000 (wr (v3 + 2)).toNat), .inl (q35.2 1000 (wr (v3 + 1)).toNat), .inr (.inr 92), .inl q35.1], q35.2) (if_pos hc) ?_
                        refine ev_runs 4 (701, [some (.inr (.inr 1000)), some (.inr (.inr 0)), some (.inr (.inr 92)), some (.inl v3)], [.inl (q35.2 1000 (wr (v3 + 3)).toNat), .inl (q35.2 1000 (wr (v3 + 2)).toNat), .inl (q35.2 1000 (wr (v3 + 1)).toNat), .inr (.inr 92), .inl q35.1], q35.2) (705, [some (.inr (.inr 1000)), some (.inr (.inr 0)), some (.inr (.inr 92)), some (.inl v3)], [.inl (wr (v3 + 4)), .inr (.inr 1000), .inl (q35.2 1000 (wr (v3 + 3)).toNat), .inl (q35.2 1000 (wr (v3 + 2)).toNat), .inl (q35.2 1000 (wr (v3 + 1)).toNat), .inr (.inr 92), .inl q35.1], q35.2) rfl ?_
                        by_cases hc : (1000 : Nat) = 1000 ∧ 0 ≤ (wr (v3 + 4)) ∧ (wr (v3 + 4)) < (q35.2 1001 0)
                        · rw [if_pos hc] at h
                          refine es (706, [some (.inr (.inr 1000)), some (.inr (.inr 0)), some (.inr (.inr 92)), some (.inl v3)], [.inl (q35.2 1000 (wr (v3 + 4)).toNat), .inl (q35.2 1000 (wr (v3 + 3)).toNat), .inl (q35.2 1000 (wr (v3 + 2)).toNat), .inl (q35.2 1000 (wr (v3 + 1)).toNat), .inr (.inr 92), .inl q35.1], q35.2) (if_pos hc) ?_
                          obtain ⟨q36, hq, h⟩ := Option.bind_eq_some_iff.mp h
                          refine ec 174 709 [.inr (.inr 92), .inl (q35.2 1000 (wr (v3 + 1)).toNat), .inl (q35.2 1000 (wr (v3 + 2)).toNat), .inl (q35.2 1000 (wr (v3 + 3)).toNat), .inl (q35.2 1000 (wr (v3 + 4)).toNat)] [.inl q35.1] rfl (ev_Md_lost (q35.2 1000 (wr (v3 + 1)).toNat) (q35.2 1000 (wr (v3 + 2)).toNat) (q35.2 1000 (wr (v3 + 3)).toNat) (q35.2 1000 (wr (v3 + 4)).toNat) q35.2 q36.1 q36.2 hq) ?_
                          show Ev 259 709 [some (.inr (.inr 1000)), some (.inr (.inr 0)), some (.inr (.inr 92)), some (.inl v3)] [.inl q36.1, .inl q35.1] q36.2 _ _
                          by_cases hc : q35.1 = q36.1
                          · rw [if_pos hc] at h
                            refine es (1150, [some (.inr (.inr 1000)), some (.inr (.inr 0)), some (.inr (.inr 92)), some (.inl v3)], [], q36.2) (congrArg some (if_pos hc)) ?_
                            refine ev_runs 2 (1150, [some (.inr (.inr 1000)), some (.inr (.inr 0)), some (.inr (.inr 92)), some (.inl v3)], [], q36.2) (18, [some (.inr (.inr 1000)), some (.inr (.inr 0)), some (.inr (.inr 92)), some (.inl (wr (v3 + 6)))], [], q36.2) rfl ?_
                            exact ev_le (L := [some (.inr (.inr 1000)), some (.inr (.inr 0)), some (.inr (.inr 92)), some (.inl (wr (v3 + 6)))]) (by simp [Lle]) (ih18 (wr (v3 + 6)) q36.2 r g' h)
                          · rw [if_neg hc] at h
                            refine es (712, [some (.inr (.inr 1000)), some (.inr (.inr 0)), some (.inr (.inr 92)), some (.inl v3)], [], q36.2) (congrArg some (if_neg hc)) ?_
                            refine ev_runs 1 (712, [some (.inr (.inr 1000)), some (.inr (.inr 0)), some (.inr (.inr 92)), some (.inl v3)], [], q36.2) (713, [some (.inr (.inr 1000)), some (.inr (.inr 0)), some (.inr (.inr 92)), some (.inl v3)], [.inl 0], q36.2) rfl ?_
                            cases h
                            exact er rfl
                        · rw [if_neg hc] at h; cases h
                      · rw [if_neg hc] at h; cases h
                    · rw [if_neg hc] at h; cases h
                  · rw [if_neg hc] at h; cases h
                · rw [if_neg hc] at h; cases h
              · rw [if_neg hc] at h; cases h
            · rw [if_neg hc] at h; cases h
          · rw [if_neg hc] at h; cases h
        rw [if_neg hx17] at h
        by_cases hx18 : (jand (g 1000 v3.toNat) 63) = 18
        · rw [if_pos hx18] at h
          refine ev_sw (tgt := 714) rfl (by rw [hx18]; rfl) ?_
          show Ev 259 714 [some (.inr (.inr 1000)), some (.inr (.inr 0)), some (.inr (.inr 92)), some (.inl v3)] [] g _ _
          refine ev_runs 5 (714, [some (.inr (.inr 1000)), some (.inr (.inr 0)), some (.inr (.inr 92)), some (.inl v3)], [], g) (719, [some (.inr (.inr 1000)), some (.inr (.inr 0)), some (.inr (.inr 92)), some (.inl v3)], [.inl (wr (v3 + 1)), .inr (.inr 1000), .inr (.inr 0)], g) rfl ?_
          by_cases hc : (1000 : Nat) = 1000 ∧ 0 ≤ (wr (v3 + 1)) ∧ (wr (v3 + 1)) < (g 1001 0)
          · rw [if_pos hc] at h
            refine es (720, [some (.inr (.inr 1000)), some (.inr (.inr 0)), some (.inr (.inr 92)), some (.inl v3)], [.inl (g 1000 (wr (v3 + 1)).toNat), .inr (.inr 0)], g) (if_pos hc) ?_
            obtain ⟨q37, hq, h⟩ := Option.bind_eq_some_iff.mp h
            refine ec 189 723 [.inr (.inr 0), .inl (g 1000 (wr (v3 + 1)).toNat)] [] rfl (ev_Op_fits (g 1000 (wr (v3 + 1)).toNat) g q37.1 q37.2 hq) ?_
            show Ev 259 723 [some (.inr (.inr 1000)), some (.inr (.inr 0)), some (.inr (.inr 92)), some (.inl v3)] [.inl q37.1] q37.2 _ _
            refine ev_runs 5 (723, [some (.inr (.inr 1000)), some (.inr (.inr 0)), some (.inr (.inr 92)), some (.inl v3)], [.inl q37.1], q37.2) (728, [some (.inr (.inr 1000)), some (.inr (.inr 0)), some (.inr (.inr 92)), some (.inl v3)], [.inl (wr (v3 + 1)), .inr (.inr 1000), .inr (.inr 92), .inl q37.1], q37.2) rfl ?_
            by_cases hc : (1000 : Nat) = 1000 ∧ 0 ≤ (wr (v3 + 1)) ∧ (wr (v3 + 1)) < (q37.2 1001 0)
            · rw [if_pos hc] at h
              refine es (729, [some (.inr (.inr 1000)), some (.inr (.inr 0)), some (.inr (.inr 92)), some (.inl v3)], [.inl (q37.2 1000 (wr (v3 + 1)).toNat), .inr (.inr 92), .inl q37.1], q37.2) (if_pos hc) ?_
              obtain ⟨q38, hq, h⟩ := Option.bind_eq_some_iff.mp h
              refine ec 197 732 [.inr (.inr 92), .inl (q37.2 1000 (wr (v3 + 1)).toNat)] [.inl q37.1] rfl (ev_Md_fits (q37.2 1000 (wr (v3 + 1)).toNat) q37.2 q38.1 q38.2 hq) ?_
              show Ev 259 732 [some (.inr (.inr 1000)), some (.inr (.inr 0)), some (.inr (.inr 92)), some (.inl v3)] [.inl q38.1, .inl q37.1] q38.2 _ _
              by_cases hc : q37.1 = q38.1
              · rw [if_pos hc] at h
                refine es (1150, [some (.inr (.inr 1000)), some (.inr (.inr 0)), some (.inr (.inr 92)), some (.inl v3)], [], q38.2) (congrArg some (if_pos hc)) ?_
                refine ev_runs 2 (1150, [some (.inr (.inr 1000)), some (.inr (.inr 0)), some (.inr (.inr 92)), some (.inl v3)], [], q38.2) (18, [some (.inr (.inr 1000)), some (.inr (.inr 0)), some (.inr (.inr 92)), some (.inl (wr (v3 + 6)))], [], q38.2) rfl ?_
                exact ev_le (L := [some (.inr (.inr 1000)), some (.inr (.inr 0)), some (.inr (.inr 92)), some (.inl (wr (v3 + 6)))]) (by simp [Lle]) (ih18 (wr (v3 + 6)) q38.2 r g' h)
              · rw [if_neg hc] at h
                refine es (735, [some (.inr (.inr 1000)), some (.inr (.inr 0)), some (.inr (.inr 92)), some (.inl v3)], [], q38.2) (congrArg some (if_neg hc)) ?_
                refine ev_runs 1 (735, [some (.inr (.inr 1000)), some (.inr (.inr 0)), some (.inr (.inr 92)), some (.inl v3)], [], q38.2) (736, [some (.inr (.inr 1000)), some (.inr (.inr 0)), some (.inr (.inr 92)), some (.inl v3)], [.inl 0], q38.2) rfl ?_
                cases h
                exact er rfl
            · rw [if_neg hc] at h; cases h
          · rw [if_neg hc] at h; cases h
        rw [if_neg hx18] at h
        by_cases hx19 : (jand (g 1000 v3.toNat) 63) = 19
        · rw [if_pos hx19] at h
          refine ev_sw (tgt := 737) rfl (by rw [hx19]; rfl) ?_
          show Ev 259 737 [some (.inr (.inr 1000)), some (.inr (.inr 0)), some (.inr (.inr 92)), some (.inl v3)] [] g _ _
          refine ev_runs 5 (737, [some (.inr (.inr 1000)), some (.inr (.inr 0)), some (.inr (.inr 92)), some (.inl v3)], [], g) (742, [some (.inr (.inr 1000)), some (.inr (.inr 0)), some (.inr (.inr 92)), some (.inl v3)], [.inl (wr (v3 + 1)), .inr (.inr 1000), .inr (.inr 0)], g) rfl ?_
          by_cases hc : (1000 : Nat) = 1000 ∧ 0 ≤ (wr (v3 + 1)) ∧ (wr (v3 + 1)) < (g 1001 0)
          · rw [if_pos hc] at h
            refine es (743, [some (.inr (.inr 1000)), some (.inr (.inr 0)), some (.inr (.inr 92)), some (.inl v3)], [.inl (g 1000 (wr (v3 + 1)).toNat), .inr (.inr 0)], g) (if_pos hc) ?_
            obtain ⟨q39, hq, h⟩ := Option.bind_eq_some_iff.mp h
            refine ec 198 746 [.inr (.inr 0), .inl (g 1000 (wr (v3 + 1)).toNat)] [] rfl (ev_Op_breach (g 1000 (wr (v3 + 1)).toNat) g q39.1 q39.2 hq) ?_
            show Ev 259 746 [some (.inr (.inr 1000)), some (.inr (.inr 0)), some (.inr (.inr 92)), some (.inl v3)] [.inl q39.1] q39.2 _ _
            refine ev_runs 5 (746, [some (.inr (.inr 1000)), some (.inr (.inr 0)), some (.inr (.inr 92)), some (.inl v3)], [.inl q39.1], q39.2) (751, [some (.inr (.inr 1000)), some (.inr (.inr 0)), some (.inr (.inr 92)), some (.inl v3)], [.inl (wr (v3 + 1)), .inr (.inr 1000), .inr (.inr 92), .inl q39.1], q39.2) rfl ?_
            by_cases hc : (1000 : Nat) = 1000 ∧ 0 ≤ (wr (v3 + 1)) ∧ (wr (v3 + 1)) < (q39.2 1001 0)
            · rw [if_pos hc] at h
              refine es (752, [some (.inr (.inr 1000)), some (.inr (.inr 0)), some (.inr (.inr 92)), some (.inl v3)], [.inl (q39.2 1000 (wr (v3 + 1)).toNat), .inr (.inr 92), .inl q39.1], q39.2) (if_pos hc) ?_
              obtain ⟨q40, hq, h⟩ := Option.bind_eq_some_iff.mp h
              refine ec 199 755 [.inr (.inr 92), .inl (q39.2 1000 (wr (v3 + 1)).toNat)] [.inl q39.1] rfl (ev_Md_breach (q39.2 1000 (wr (v3 + 1)).toNat) q39.2 q40.1 q40.2 hq) ?_
              show Ev 259 755 [some (.inr (.inr 1000)), some (.inr (.inr 0)), some (.inr (.inr 92)), some (.inl v3)] [.inl q40.1, .inl q39.1] q40.2 _ _
              by_cases hc : q39.1 = q40.1
              · rw [if_pos hc] at h
                refine es (1150, [some (.inr (.inr 1000)), some (.inr (.inr 0)), some (.inr (.inr 92)), some (.inl v3)], [], q40.2) (congrArg some (if_pos hc)) ?_
                refine ev_runs 2 (1150, [some (.inr (.inr 1000)), some (.inr (.inr 0)), some (.inr (.inr 92)), some (.inl v3)], [], q40.2) (18, [some (.inr (.inr 1000)), some (.inr (.inr 0)), some (.inr (.inr 92)), some (.inl (wr (v3 + 6)))], [], q40.2) rfl ?_
                exact ev_le (L := [some (.inr (.inr 1000)), some (.inr (.inr 0)), some (.inr (.inr 92)), some (.inl (wr (v3 + 6)))]) (by simp [Lle]) (ih18 (wr (v3 + 6)) q40.2 r g' h)
              · rw [if_neg hc] at h
                refine es (758, [some (.inr (.inr 1000)), some (.inr (.inr 0)), some (.inr (.inr 92)), some (.inl v3)], [], q40.2) (congrArg some (if_neg hc)) ?_
                refine ev_runs 1 (758, [some (.inr (.inr 1000)), some (.inr (.inr 0)), some (.inr (.inr 92)), some (.inl v3)], [], q40.2) (759, [some (.inr (.inr 1000)), some (.inr (.inr 0)), some (.inr (.inr 92)), some (.inl v3)], [.inl 0], q40.2) rfl ?_
                cases h
                exact er rfl
            · rw [if_neg hc] at h; cases h
          · rw [if_neg hc] at h; cases h
        rw [if_neg hx19] at h
        by_cases hx20 : (jand (g 1000 v3.toNat) 63) = 20
        · rw [if_pos hx20] at h
          refine ev_sw (tgt := 760) rfl (by rw [hx20]; rfl) ?_
          show Ev 259 760 [some (.inr (.inr 1000)), some (.inr (.inr 0)), some (.inr (.inr 92)), some (.inl v3)] [] g _ _
          refine ev_runs 5 (760, [some (.inr (.inr 1000)), some (.inr (.inr 0)), some (.inr (.inr 92)), some (.inl v3)], [], g) (765, [some (.inr (.inr 1000)), some (.inr (.inr 0)), some (.inr (.inr 92)), some (.inl v3)], [.inl (wr (v3 + 1)), .inr (.inr 1000), .inr (.inr 0)], g) rfl ?_
          by_cases hc : (1000 : Nat) = 1000 ∧ 0 ≤ (wr (v3 + 1)) ∧ (wr (v3 + 1)) < (g 1001 0)
          · rw [if_pos hc] at h
            refine es (766, [some (.inr (.inr 1000)), some (.inr (.inr 0)), some (.inr (.inr 92)), some (.inl v3)], [.inl (g 1000 (wr (v3 + 1)).toNat), .inr (.inr 0)], g) (if_pos hc) ?_
            obtain ⟨q41, hq, h⟩ := Option.bind_eq_some_iff.mp h
            refine ec 207 769 [.inr (.inr 0), .inl (g 1000 (wr (v3 + 1)).toNat)] [] rfl (ev_Op_log (g 1000 (wr (v3 + 1)).toNat) g q41.1 q41.2 hq) ?_
            show Ev 259 769 [some (.inr (.inr 1000)), some (.inr (.inr 0)), some (.inr (.inr 92)), some (.inl v3)] [.inl q41.1] q41.2 _ _
            refine ev_runs 5 (769, [some (.inr (.inr 1000)), some (.inr (.inr 0)), some (.inr (.inr 92)), some (.inl v3)], [.inl q41.1], q41.2) (774, [some (.inr (.inr 1000)), some (.inr (.inr 0)), some (.inr (.inr 92)), some (.inl v3)], [.inl (wr (v3 + 1)), .inr (.inr 1000), .inr (.inr 92), .inl q41.1], q41.2) rfl ?_
            by_cases hc : (1000 : Nat) = 1000 ∧ 0 ≤ (wr (v3 + 1)) ∧ (wr (v3 + 1)) < (q41.2 1001 0)
            · rw [if_pos hc] at h
              refine es (775, [some (.inr (.inr 1000)), some (.inr (.inr 0)), some (.inr (.inr 92)), some (.inl v3)], [.inl (q41.2 1000 (wr (v3 + 1)).toNat), .inr (.inr 92), .inl q41.1], q41.2) (if_pos hc) ?_
              obtain ⟨q42, hq, h⟩ := Option.bind_eq_some_iff.mp h
              refine ec 210 778 [.inr (.inr 92), .inl (q41.2 1000 (wr (v3 + 1)).toNat)] [.inl q41.1] rfl (ev_Md_log (q41.2 1000 (wr (v3 + 1)).toNat) q41.2 q42.1 q42.2 hq) ?_
              show Ev 259 778 [some (.inr (.inr 1000)), some (.inr (.inr 0)), some (.inr (.inr 92)), some (.inl v3)] [.inl q42.1, .inl q41.1] q42.2 _ _
              by_cases hc : q41.1 = q42.1
              · rw [if_pos hc] at h
                refine es (1150, [some (.inr (.inr 1000)), some (.inr (.inr 0)), some (.inr (.inr 92)), some (.inl v3)], [], q42.2) (congrArg some (if_pos hc)) ?_
                refine ev_runs 2 (1150, [some (.inr (.inr 1000)), some (.inr (.inr 0)), some (.inr (.inr 92)), some (.inl v3)], [], q42.2) (18, [some (.inr (.inr 1000)), some (.inr (.inr 0)), some (.inr (.inr 92)), some (.inl (wr (v3 + 6)))], [], q42.2) rfl ?_
                exact ev_le (L := [some (.inr (.inr 1000)), some (.inr (.inr 0)), some (.inr (.inr 92)), some (.inl (wr (v3 + 6)))]) (by simp [Lle]) (ih18 (wr (v3 + 6)) q42.2 r g' h)
              · rw [if_neg hc] at h
                refine es (781, [some (.inr (.inr 1000)), some (.inr (.inr 0)), some (.inr (.inr 92)), some (.inl v3)], [], q42.2) (congrArg some (if_neg hc)) ?_
                refine ev_runs 1 (781, [some (.inr (.inr 1000)), some (.inr (.inr 0)), some (.inr (.inr 92)), some (.inl v3)], [], q42.2) (782, [some (.inr (.inr 1000)), some (.inr (.inr 0)), some (.inr (.inr 92)), some (.inl v3)], [.inl 0], q42.2) rfl ?_
                cases h
                exact er rfl
            · rw [if_neg hc] at h; cases h
          · rw [if_neg hc] at h; cases h
        rw [if_neg hx20] at h
        by_cases hx21 : (jand (g 1000 v3.toNat) 63) = 21
        · rw [if_pos hx21] at h
          refine ev_sw (tgt := 783) rfl (by rw [hx21]; rfl) ?_
          show Ev 259 783 [some (.inr (.inr 1000)), some (.inr (.inr 0)), some (.inr (.inr 92)), some (.inl v3)] [] g _ _
          refine ev_runs 1 (783, [some (.inr (.inr 1000)), some (.inr (.inr 0)), some (.inr (.inr 92)), some (.inl v3)], [], g) (784, [some (.inr (.inr 1000)), some (.inr (.inr 0)), some (.inr (.inr 92)), some (.inl v3)], [.inr (.inr 0)], g) rfl ?_
          obtain ⟨q43, hq, h⟩ := lett_inv h
          refine ec 212 787 [.inr (.inr 0)] [] rfl (ev_Op_clear g q43.1 q43.2 hq.symm) ?_
          show Ev 259 787 [some (.inr (.inr 1000)), some (.inr (.inr 0)), some (.inr (.inr 92)), some (.inl v3)] [.inl q43.1] q43.2 _ _
          refine ev_runs 1 (787, [some (.inr (.inr 1000)), some (.inr (.inr 0)), some (.inr (.inr 92)), some (.inl v3)], [.inl q43.1], q43.2) (788, [some (.inr (.inr 1000)), some (.inr (.inr 0)), some (.inr (.inr 92)), some (.inl v3)], [.inr (.inr 92), .inl q43.1], q43.2) rfl ?_
          obtain ⟨q44, hq, h⟩ := lett_inv h
          refine ec 213 791 [.inr (.inr 92)] [.inl q43.1] rfl (ev_Md_clear q43.2 q44.1 q44.2 hq.symm) ?_
          show Ev 259 791 [some (.inr (.inr 1000)), some (.inr (.inr 0)), some (.inr (.inr 92)), some (.inl v3)] [.inl q44.1, .inl q43.1] q44.2 _ _
          by_cases hc : q43.1 = q44.1
          · rw [if_pos hc] at h
            refine es (1150, [some (.inr (.inr 1000)), some (.inr (.inr 0)), some (.inr (.inr 92)), some (.inl v3)], [], q44.2) (congrArg some (if_pos hc)) ?_
            refine ev_runs 2 (1150, [some (.inr (.inr 1000)), some (.inr (.inr 0)), some (.inr (.inr 92)), some (.inl v3)], [], q44.2) (18, [some (.inr (.inr 1000)), some (.inr (.inr 0)), some (.inr (.inr 92)), some (.inl (wr (v3 + 6)))], [], q44.2) rfl ?_
            exact ev_le (L := [some (.inr (.inr 1000)), some (.inr (.inr 0)), some (.inr (.inr 92)), some (.inl (wr (v3 + 6)))]) (by simp [Lle]) (ih18 (wr (v3 + 6)) q44.2 r g' h)
          · rw [if_neg hc] at h
            refine es (794, [some (.inr (.inr 1000)), some (.inr (.inr 0)), some (.inr (.inr 92)), some (.inl v3)], [], q44.2) (congrArg some (if_neg hc)) ?_
            refine ev_runs 1 (794, [some (.inr (.inr 1000)), some (.inr (.inr 0)), some (.inr (.inr 92)), some (.inl v3)], [], q44.2) (795, [some (.inr (.inr 1000)), some (.inr (.inr 0)), some (.inr (.inr 92)), some (.inl v3)], [.inl 0], q44.2) rfl ?_
            cases h
            exact er rfl
        rw [if_neg hx21] at h
        by_cases hx22 : (jand (g 1000 v3.toNat) 63) = 22
        · rw [if_pos hx22] at h
          refine ev_sw (tgt := 796) rfl (by rw [hx22]; rfl) ?_
          show Ev 259 796 [some (.inr (.inr 1000)), some (.inr (.inr 0)), some (.inr (.inr 92)), some (.inl v3)] [] g _ _
          refine ev_runs 5 (796, [some (.inr (.inr 1000)), some (.inr (.inr 0)), some (.inr (.inr 92)), some (.inl v3)], [], g) (801, [some (.inr (.inr 1000)), some (.inr (.inr 0)), some (.inr (.inr 92)), some (.inl v3)], [.inl (wr (v3 + 1)), .inr (.inr 1000), .inr (.inr 0)], g) rfl ?_
          by_cases hc : (1000 : Nat) = 1000 ∧ 0 ≤ (wr (v3 + 1)) ∧ (wr (v3 + 1)) < (g 1001 0)
          · rw [if_pos hc] at h
            refine es (802, [some (.inr (.inr 1000)), some (.inr (.inr 0)), some (.inr (.inr 92)), some (.inl v3)], [.inl (g 1000 (wr (v3 + 1)).toNat), .inr (.inr 0)], g) (if_pos hc) ?_
            obtain ⟨q45, hq, h⟩ := Option.bind_eq_some_iff.mp h
            refine ec 218 805 [.inr (.inr 0), .inl (g 1000 (wr (v3 + 1)).toNat)] [] rfl (ev_Op_left (g 1000 (wr (v3 + 1)).toNat) g q45.1 q45.2 hq) ?_
            show Ev 259 805 [some (.inr (.inr 1000)), some (.inr (.inr 0)), some (.inr (.inr 92)), some (.inl v3)] [.inl q45.1] q45.2 _ _
            refine ev_runs 5 (805, [some (.inr (.inr 1000)), some (.inr (.inr 0)), some (.inr (.inr 92)), some (.inl v3)], [.inl q45.1], q45.2) (810, [some (.inr (.inr 1000)), some (.inr (.inr 0)), some (.inr (.inr 92)), some (.inl v3)], [.inl (wr (v3 + 1)), .inr (.inr 1000), .inr (.inr 92), .inl q45.1], q45.2) rfl ?_
            by_cases hc : (1000 : Nat) = 1000 ∧ 0 ≤ (wr (v3 + 1)) ∧ (wr (v3 + 1)) < (q45.2 1001 0)
            · rw [if_pos hc] at h
              refine es (811, [some (.inr (.inr 1000)), some (.inr (.inr 0)), some (.inr (.inr 92)), some (.inl v3)], [.inl (q45.2 1000 (wr (v3 + 1)).toNat), .inr (.inr 92), .inl q45.1], q45.2) (if_pos hc) ?_
              obtain ⟨q46, hq, h⟩ := Option.bind_eq_some_iff.mp h
              refine ec 221 814 [.inr (.inr 92), .inl (q45.2 1000 (wr (v3 + 1)).toNat)] [.inl q45.1] rfl (ev_Md_left (q45.2 1000 (wr (v3 + 1)).toNat) q45.2 q46.1 q46.2 hq) ?_
              show Ev 259 814 [some (.inr (.inr 1000)), some (.inr (.inr 0)), some (.inr (.inr 92)), some (.inl v3)] [.inl q46.1, .inl q45.1] q46.2 _ _
              by_cases hc : q45.1 = q46.1
              · rw [if_pos hc] at h
                refine es (1150, [some (.inr (.inr 1000)), some (.inr (.inr 0)), some (.inr (.inr 92)), some (.inl v3)], [], q46.2) (congrArg some (if_pos hc)) ?_
                refine ev_runs 2 (1150, [some (.inr (.inr 1000)), some (.inr (.inr 0)), some (.inr (.inr 92)), some (.inl v3)], [], q46.2) (18, [some (.inr (.inr 1000)), some (.inr (.inr 0)), some (.inr (.inr 92)), some (.inl (wr (v3 + 6)))], [], q46.2) rfl ?_
                exact ev_le (L := [some (.inr (.inr 1000)), some (.inr (.inr 0)), some (.inr (.inr 92)), some (.inl (wr (v3 + 6)))]) (by simp [Lle]) (ih18 (wr (v3 + 6)) q46.2 r g' h)
              · rw [if_neg hc] at h
                refine es (817, [some (.inr (.inr 1000)), some (.inr (.inr 0)), some (.inr (.inr 92)), some (.inl v3)], [], q46.2) (congrArg some (if_neg hc)) ?_
                refine ev_runs 1 (817, [some (.inr (.inr 1000)), some (.inr (.inr 0)), some (.inr (.inr 92)), some (.inl v3)], [], q46.2) (818, [some (.inr (.inr 1000)), some (.inr (.inr 0)), some (.inr (.inr 92)), some (.inl v3)], [.inl 0], q46.2) rfl ?_
                cases h
                exact er rfl
            · rw [if_neg hc] at h; cases h
          · rw [if_neg hc] at h; cases h
        rw [if_neg hx22] at h
        by_cases hx23 : (jand (g 1000 v3.toNat) 63) = 23
        · rw [if_pos hx23] at h
          refine ev_sw (tgt := 819) rfl (by rw [hx23]; rfl) ?_
          show Ev 259 819 [some (.inr (.inr 1000)), some (.inr (.inr 0)), some (.inr (.inr 92)), some (.inl v3)] [] g _ _
          refine ev_runs 5 (819, [some (.inr (.inr 1000)), some (.inr (.inr 0)), some (.inr (.inr 92)), some (.inl v3)], [], g) (824, [some (.inr (.inr 1000)), some (.inr (.inr 0)), some (.inr (.inr 92)), some (.inl v3)], [.inl (wr (v3 + 1)), .inr (.inr 1000), .inr (.inr 0)], g) rfl ?_
          by_cases hc : (1000 : Nat) = 1000 ∧ 0 ≤ (wr (v3 + 1)) ∧ (wr (v3 + 1)) < (g 1001 0)
          · rw [if_pos hc] at h
            refine es (825, [some (.inr (.inr 1000)), some (.inr (.inr 0)), some (.inr (.inr 92)), some (.inl v3)], [.inl (g 1000 (wr (v3 + 1)).toNat), .inr (.inr 0)], g) (if_pos hc) ?_
            obtain ⟨q47, hq, h⟩ := Option.bind_eq_some_iff.mp h
            refine ec 225 828 [.inr (.inr 0), .inl (g 1000 (wr (v3 + 1)).toNat)] [] rfl (ev_Op_out (g 1000 (wr (v3 + 1)).toNat) g q47.1 q47.2 hq) ?_
            show Ev 259 828 [some (.inr (.inr 1000)), some (.inr (.inr 0)), some (.inr (.inr 92)), some (.inl v3)] [.inl q47.1] q47.2 _ _
            refine ev_runs 5 (828, [some (.inr (.inr 1000)), some (.inr (.inr 0)), some (.inr (.inr 92)), some (.inl v3)], [.inl q47.1], q47.2) (833, [some (.inr (.inr 1000)), some (.inr (.inr 0)), some (.inr (.inr 92)), some (.inl v3)], [.inl (wr (v3 + 1)), .inr (.inr 1000), .inr (.inr 92), .inl q47.1], q47.2) rfl ?_
            by_cases hc : (1000 : Nat) = 1000 ∧ 0 ≤ (wr (v3 + 1)) ∧ (wr (v3 + 1)) < (q47.2 1001 0)
            · rw [if_pos hc] at h
              refine es (834, [some (.inr (.inr 1000)), some (.inr (.inr 0)), some (.inr (.inr 92)), some (.inl v3)], [.inl (q47.2 1000 (wr (v3 + 1)).toNat), .inr (.inr 92), .inl q47.1], q47.2) (if_pos hc) ?_
              obtain ⟨q48, hq, h⟩ := Option.bind_eq_some_iff.mp h
              refine ec 227 837 [.inr (.inr 92), .inl (q47.2 1000 (wr (v3 + 1)).toNat)] [.inl q47.1] rfl (ev_Md_out (q47.2 1000 (wr (v3 + 1)).toNat) q47.2 q48.1 q48.2 hq) ?_
              show Ev 259 837 [some (.inr (.inr 1000)), some (.inr (.inr 0)), some (.inr (.inr 92)), some (.inl v3)] [.inl q48.1, .inl q47.1] q48.2 _ _
              by_cases hc : q47.1 = q48.1
              · rw [if_pos hc] at h
                refine es (1150, [some (.inr (.inr 1000)), some (.inr (.inr 0)), some (.inr (.inr 92)), some (.inl v3)], [], q48.2) (congrArg some (if_pos hc)) ?_
                refine ev_runs 2 (1150, [some (.inr (.inr 1000)), some (.inr (.inr 0)), some (.inr (.inr 92)), some (.inl v3)], [], q48.2) (18, [some (.inr (.inr 1000)), some (.inr (.inr 0)), some (.inr (.inr 92)), some (.inl (wr (v3 + 6)))], [], q48.2) rfl ?_
                exact ev_le (L := [some (.inr (.inr 1000)), some (.inr (.inr 0)), some (.inr (.inr 92)), some (.inl (wr (v3 + 6)))]) (by simp [Lle]) (ih18 (wr (v3 + 6)) q48.2 r g' h)
              · rw [if_neg hc] at h
                refine es (840, [some (.inr (.inr 1000)), some (.inr (.inr 0)), some (.inr (.inr 92)), some (.inl v3)], [], q48.2) (congrArg some (if_neg hc)) ?_
                refine ev_runs 1 (840, [some (.inr (.inr 1000)), some (.inr (.inr 0)), some (.inr (.inr 92)), some (.inl v3)], [], q48.2) (841, [some (.inr (.inr 1000)), some (.inr (.inr 0)), some (.inr (.inr 92)), some (.inl v3)], [.inl 0], q48.2) rfl ?_
                cases h
                exact er rfl
            · rw [if_neg hc] at h; cases h
          · rw [if_neg hc] at h; cases h
        rw [if_neg hx23] at h
        by_cases hx24 : (jand (g 1000 v3.toNat) 63) = 24
        · rw [if_pos hx24] at h
          refine ev_sw (tgt := 842) rfl (by rw [hx24]; rfl) ?_
          show Ev 259 842 [some (.inr (.inr 1000)), some (.inr (.inr 0)), some (.inr (.inr 92)), some (.inl v3)] [] g _ _
          refine ev_runs 1 (842, [some (.inr (.inr 1000)), some (.inr (.inr 0)), some (.inr (.inr 92)), some (.inl v3)], [], g) (843, [some (.inr (.inr 1000)), some (.inr (.inr 0)), some (.inr (.inr 92)), some (.inl v3)], [.inr (.inr 0)], g) rfl ?_
          obtain ⟨q49, hq, h⟩ := Option.bind_eq_some_iff.mp h
          refine ec 230 846 [.inr (.inr 0)] [] rfl (ev_Op_ask g q49.1 q49.2 hq) ?_
          show Ev 259 846 [some (.inr (.inr 1000)), some (.inr (.inr 0)), some (.inr (.inr 92)), some (.inl v3)] [.inl q49.1] q49.2 _ _
          refine ev_runs 1 (846, [some (.inr (.inr 1000)), some (.inr (.inr 0)), some (.inr (.inr 92)), some (.inl v3)], [.inl q49.1], q49.2) (847, [some (.inr (.inr 1000)), some (.inr (.inr 0)), some (.inr (.inr 92)), some (.inl v3)], [.inr (.inr 92), .inl q49.1], q49.2) rfl ?_
          obtain ⟨q50, hq, h⟩ := Option.bind_eq_some_iff.mp h
          refine ec 231 850 [.inr (.inr 92)] [.inl q49.1] rfl (ev_Md_ask q49.2 q50.1 q50.2 hq) ?_
          show Ev 259 850 [some (.inr (.inr 1000)), some (.inr (.inr 0)), some (.inr (.inr 92)), some (.inl v3)] [.inl q50.1, .inl q49.1] q50.2 _ _
          by_cases hc : q49.1 = q50.1
          · rw [if_pos hc] at h
            refine es (1150, [some (.inr (.inr 1000)), some (.inr (.inr 0)), some (.inr (.inr 92)), some (.inl v3)], [], q50.2) (congrArg some (if_pos hc)) ?_
            refine ev_runs 2 (1150, [some (.inr (.inr 1000)), some (.inr (.inr 0)), some (.inr (.inr 92)), some (.inl v3)], [], q50.2) (18, [some (.inr (.inr 1000)), some (.inr (.inr 0)), some (.inr (.inr 92)), some (.inl (wr (v3 + 6)))], [], q50.2) rfl ?_
            exact ev_le (L := [some (.inr (.inr 1000)), some (.inr (.inr 0)), some (.inr (.inr 92)), some (.inl (wr (v3 + 6)))]) (by simp [Lle]) (ih18 (wr (v3 + 6)) q50.2 r g' h)
          · rw [if_neg hc] at h
            refine es (853, [some (.inr (.inr 1000)), some (.inr (.inr 0)), some (.inr (.inr 92)), some (.inl v3)], [], q50.2) (congrArg some (if_neg hc)) ?_
            refine ev_runs 1 (853, [some (.inr (.inr 1000)), some (.inr (.inr 0)), some (.inr (.inr 92)), some (.inl v3)], [], q50.2) (854, [some (.inr (.inr 1000)), some (.inr (.inr 0)), some (.inr (.inr 92)), some (.inl v3)], [.inl 0], q50.2) rfl ?_
            cases h
            exact er rfl
        rw [if_neg hx24] at h
        by_cases hx25 : (jand (g 1000 v3.toNat) 63) = 25
        · rw [if_pos hx25] at h
          refine ev_sw (tgt := 855) rfl (by rw [hx25]; rfl) ?_
          show Ev 259 855 [some (.inr (.inr 1000)), some (.inr (.inr 0)), some (.inr (.inr 92)), some (.inl v3)] [] g _ _
          refine ev_runs 5 (855, [some (.inr (.inr 1000)), some (.inr (.inr 0)), some (.inr (.inr 92)), some (.inl v3)], [], g) (860, [some (.inr (.inr 1000)), some (.inr (.inr 0)), some (.inr (.inr 92)), some (.inl v3)], [.inl (wr (v3 + 1)), .inr (.inr 1000), .inr (.inr 0)], g) rfl ?_
          by_cases hc : (1000 : Nat) = 1000 ∧ 0 ≤ (wr (v3 + 1)) ∧ (wr (v3 + 1)) < (g 1001 0)
          · rw [if_pos hc] at h
            refine es (861, [some (.inr (.inr 1000)), some (.inr (.inr 0)), some (.inr (.inr 92)), some (.inl v3)], [.inl (g 1000 (wr (v3 + 1)).toNat), .inr (.inr 0)], g) (if_pos hc) ?_
            refine ev_runs 4 (861, [some (.inr (.inr 1000)), some (.inr (.inr 0)), some (.inr (.inr 92)), some (.inl v3)], [.inl (g 1000 (wr (v3 + 1)).toNat), .inr (.inr 0)], g) (865, [some (.inr (.inr 1000)), some (.inr (.inr 0)), some (.inr (.inr 92)), some (.inl v3)], [.inl (wr (v3 + 2)), .inr (.inr 1000), .inl (g 1000 (wr (v3 + 1)).toNat), .inr (.inr 0)], g) rfl ?_
            by_cases hc : (1000 : Nat) = 1000 ∧ 0 ≤ (wr (v3 + 2)) ∧ (wr (v3 + 2)) < (g 1001 0)
            · rw [if_pos hc] at h
              refine es (866, [some (.inr (.inr 1000)), some (.inr (.inr 0)), some (.inr (.inr 92)), some (.inl v3)], [.inl (g 1000 (wr (v3 + 2)).toNat), .inl (g 1000 (wr (v3 + 1)).toNat), .inr (.inr 0)], g) (if_pos hc) ?_
              refine ev_runs 4 (866, [some (.inr (.inr 1000)), some (.inr (.inr 0)), some (.inr (.inr 92)), some (.inl v3)], [.inl (g 1000 (wr (v3 + 2)).toNat), .inl (g 1000 (wr (v3 + 1)).toNat), .inr (.inr 0)], g) (870, [some (.inr (.inr 1000)), some (.inr (.inr 0)), some (.inr (.inr 92)), some (.inl v3)], [.inl (wr (v3 + 3)), .inr (.inr 1000), .inl (g 1000 (wr (v3 + 2)).toNat), .inl (g 1000 (wr (v3 + 1)).toNat), .inr (.inr 0)], g) rfl ?_
              by_cases hc : (1000 : Nat) = 1000 ∧ 0 ≤ (wr (v3 + 3)) ∧ (wr (v3 + 3)) < (g 1001 0)
              · rw [if_pos hc] at h
                refine es (871, [some (.inr (.inr 1000)), some (.inr (.inr 0)), some (.inr (.inr 92)), some (.inl v3)], [.inl (g 1000 (wr (v3 + 3)).toNat), .inl (g 1000 (wr (v3 + 2)).toNat), .inl (g 1000 (wr (v3 + 1)).toNat), .inr (.inr 0)], g) (if_pos hc) ?_
                obtain ⟨q51, hq, h⟩ := Option.bind_eq_some_iff.mp h
                refine ec 234 874 [.inr (.inr 0), .inl (g 1000 (wr (v3 + 1)).toNat), .inl (g 1000 (wr (v3 + 2)).toNat), .inl (g 1000 (wr (v3 + 3)).toNat)] [] rfl (ev_Op_sheet (g 1000 (wr (v3 + 1)).toNat) (g 1000 (wr (v3 + 2)).toNat) (g 1000 (wr (v3 + 3)).toNat) g q51.1 q51.2 hq) ?_
                show Ev 259 874 [some (.inr (.inr 1000)), some (.inr (.inr 0)), some (.inr (.inr 92)), some (.inl v3)] [.inl q51.1] q51.2 _ _
                refine ev_runs 5 (874, [some (.inr (.inr 1000)), some (.inr (.inr 0)), some (.inr (.inr 92)), some (.inl v3)], [.inl q51.1], q51.2) (879, [some (.inr (.inr 1000)), some (.inr (.inr 0)), some (.inr (.inr 92)), some (.inl v3)], [.inl (wr (v3 + 1)), .inr (.inr 1000), .inr (.inr 92), .inl q51.1], q51.2) rfl ?_
                by_cases hc : (1000 : Nat) = 1000 ∧ 0 ≤ (wr (v3 + 1)) ∧ (wr (v3 + 1)) < (q51.2 1001 0)
                · rw [if_pos hc] at h
                  refine es (880, [some (.inr (.inr 1000)), some (.inr (.inr 0)), some (.inr (.inr 92)), some (.inl v3)], [.inl (q51.2 1000 (wr (v3 + 1)).toNat), .inr (.inr 92), .inl q51.1], q51.2) (if_pos hc) ?_
                  refine ev_runs 4 (880, [some (.inr (.inr 1000)), some (.inr (.inr 0)), some (.inr (.inr 92)), some (.inl v3)], [.inl (q51.2 1000 (wr (v3 + 1)).toNat), .inr (.inr 92), .inl q51.1], q51.2) (884, [some (.inr (.inr 1000)), some (.inr (.inr 0)), some (.inr (.inr 92)), some (.inl v3)], [.inl (wr (v3 + 2)), .inr (.inr 1000), .inl (q51.2 1000 (wr (v3 + 1)).toNat), .inr (.inr 92), .inl q51.1], q51.2) rfl ?_
                  by_cases hc : (1000 : Nat) = 1000 ∧ 0 ≤ (wr (v3 + 2)) ∧ (wr (v3 + 2)) < (q51.2 1001 0)
                  · rw [if_pos hc] at h
                    refine es (885, [some (.inr (.inr 1000)), some (.inr (.inr 0)), some (.inr (.inr 92)), some (.inl v3)], [.inl (q51.2 1000 (wr (v3 + 2)).toNat), .inl (q51.2 1000 (wr (v3 + 1)).toNat), .inr (.inr 92), .inl q51.1], q51.2) (if_pos hc) ?_
                    refine ev_runs 4 (885, [some (.inr (.inr 1000)), some (.inr (.inr 0)), some (.inr (.inr 92)), some (.inl v3)], [.inl (q51.2 1000 (wr (v3 + 2)).toNat), .inl (q51.2 1000 (wr (v3 + 1)).toNat), .inr (.inr 92), .inl q51.1], q51.2) (889, [some (.inr (.inr 1000)), some (.inr (.inr 0)), some (.inr (.inr 92)), some (.inl v3)], [.inl (wr (v3 + 3)), .inr (.inr 1000), .inl (q51.2 1000 (wr (v3 + 2)).toNat), .inl (q51.2 1000 (wr (v3 + 1)).toNat), .inr (.inr 92), .inl q51.1], q51.2) rfl ?_
                    by_cases hc : (1000 : Nat) = 1000 ∧ 0 ≤ (wr (v3 + 3)) ∧ (wr (v3 + 3)) < (q51.2 1001 0)
                    · rw [if_pos hc] at h
                      refine es (890, [some (.inr (.inr 1000)), some (.inr (.inr 0)), some (.inr (.inr 92)), some (.inl v3)], [.inl (q51.2 1000 (wr (v3 + 3)).toNat), .inl (q51.2 1000 (wr (v3 + 2)).toNat), .inl (q51.2 1000 (wr (v3 + 1)).toNat), .inr (.inr 92), .inl q51.1], q51.2) (if_pos hc) ?_
                      obtain ⟨q52, hq, h⟩ := Option.bind_eq_some_iff.mp h
                      refine ec 235 893 [.inr (.inr 92), .inl (q51.2 1000 (wr (v3 + 1)).toNat), .inl (q51.2 1000 (wr (v3 + 2)).toNat), .inl (q51.2 1000 (wr (v3 + 3)).toNat)] [.inl q51.1] rfl (ev_Md_sheet (q51.2 1000 (wr (v3 + 1)).toNat) (q51.2 1000 (wr (v3 + 2)).toNat) (q51.2 1000 (wr (v3 + 3)).toNat) q51.2 q52.1 q52.2 hq) ?_
                      show Ev 259 893 [some (.inr (.inr 1000)), some (.inr (.inr 0)), some (.inr (.inr 92)), some (.inl v3)] [.inl q52.1, .inl q51.1] q52.2 _ _
                      by_cases hc : q51.1 = q52.1
                      · rw [if_pos hc] at h
                        refine es (1150, [some (.inr (.inr 1000)), some (.inr (.inr 0)), some (.inr (.inr 92)), some (.inl v3)], [], q52.2) (congrArg some (if_pos hc)) ?_
                        refine ev_runs 2 (1150, [some (.inr (.inr 1000)), some (.inr (.inr 0)), some (.inr (.inr 92)), some (.inl v3)], [], q52.2) (18, [some (.inr (.inr 1000)), some (.inr (.inr 0)), some (.inr (.inr 92)), some (.inl (wr (v3 + 6)))], [], q52.2) rfl ?_
                        exact ev_le (L := [some (.inr (.inr 1000)), some (.inr (.inr 0)), some (.inr (.inr 92)), some (.inl (wr (v3 + 6)))]) (by simp [Lle]) (ih18 (wr (v3 + 6)) q52.2 r g' h)
                      · rw [if_neg hc] at h
                        refine es (896, [some (.inr (.inr 1000)), some (.inr (.inr 0)), some (.inr (.inr 92)), some (.inl v3)], [], q52.2) (congrArg some (if_neg hc)) ?_
                        refine ev_runs 1 (896, [some (.inr (.inr 1000)), some (.inr (.inr 0)), some (.inr (.inr 92)), some (.inl v3)], [], q52.2) (897, [some (.inr (.inr 1000)), some (.inr (.inr 0)), some (.inr (.inr 92)), some (.inl v3)], [.inl 0], q52.2) rfl ?_
                        cases h
                        exact er rfl
                    · rw [if_neg hc] at h; cases h
                  · rw [if_neg hc] at h; cases h
                · rw [if_neg hc] at h; cases h
              · rw [if_neg hc] at h; cases h
            · rw [if_neg hc] at h; cases h
          · rw [if_neg hc] at h; cases h
        rw [if_neg hx25] at h
        by_cases hx26 : (jand (g 1000 v3.toNat) 63) = 26
        · rw [if_pos hx26] at h
          refine ev_sw (tgt := 898) rfl (by rw [hx26]; rfl) ?_
          show Ev 259 898 [some (.inr (.inr 1000)), some (.inr (.inr 0)), some (.inr (.inr 92)), some (.inl v3)] [] g _ _
          refine ev_runs 5 (898, [some (.inr (.inr 1000)), some (.inr (.inr 0)), some (.inr (.inr 92)), some (.inl v3)], [], g) (903, [some (.inr (.inr 1000)), some (.inr (.inr 0)), some (.inr (.inr 92)), some (.inl v3)], [.inl (wr (v3 + 1)), .inr (.inr 1000), .inr (.inr 0)], g) rfl ?_
          by_cases hc : (1000 : Nat) = 1000 ∧ 0 ≤ (wr (v3 + 1)) ∧ (wr (v3 + 1)) < (g 1001 0)
          · rw [if_pos hc] at h
            refine es (904, [some (.inr (.inr 1000)), some (.inr (.inr 0)), some (.inr (.inr 92)), some (.inl v3)], [.inl (g 1000 (wr (v3 + 1)).toNat), .inr (.inr 0)], g) (if_pos hc) ?_
            obtain ⟨q53, hq, h⟩ := lett_inv h
            refine ec 237 907 [.inr (.inr 0), .inl (g 1000 (wr (v3 + 1)).toNat)] [] rfl (ev_Op_lose (g 1000 (wr (v3 + 1)).toNat) g q53.1 q53.2 hq.symm) ?_
            show Ev 259 907 [some (.inr (.inr 1000)), some (.inr (.inr 0)), some (.inr (.inr 92)), some (.inl v3)] [.inl q53.1] q53.2 _ _
            refine ev_runs 5 (907, [some (.inr (.inr 1000)), some (.inr (.inr 0)), some (.inr (.inr 92)), some (.inl v3)], [.inl q53.1], q53.2) (912, [some (.inr (.inr 1000)), some (.inr (.inr 0)), some (.inr (.inr 92)), some (.inl v3)], [.inl (wr (v3 + 1)), .inr (.inr 1000), .inr (.inr 92), .inl q53.1], q53.2) rfl ?_
            by_cases hc : (1000 : Nat) = 1000 ∧ 0 ≤ (wr (v3 + 1)) ∧ (wr (v3 + 1)) < (q53.2 1001 0)
            · rw [if_pos hc] at h
              refine es (913, [some (.inr (.inr 1000)), some (.inr (.inr 0)), some (.inr (.inr 92)), some (.inl v3)], [.inl (q53.2 1000 (wr (v3 + 1)).toNat), .inr (.inr 92), .inl q53.1], q53.2) (if_pos hc) ?_
              obtain ⟨q54, hq, h⟩ := Option.bind_eq_some_iff.mp h
              refine ec 238 916 [.inr (.inr 92), .inl (q53.2 1000 (wr (v3 + 1)).toNat)] [.inl q53.1] rfl (ev_Md_lose (q53.2 1000 (wr (v3 + 1)).toNat) q53.2 q54.1 q54.2 hq) ?_
              show Ev 259 916 [some (.inr (.inr 1000)), some (.inr (.inr 0)), some (.inr (.inr 92)), some (.inl v3)] [.inl q54.1, .inl q53.1] q54.2 _ _
              by_cases hc : q53.1 = q54.1
              · rw [if_pos hc] at h
                refine es (1150, [some (.inr (.inr 1000)), some (.inr (.inr 0)), some (.inr (.inr 92)), some (.inl v3)], [], q54.2) (congrArg some (if_pos hc)) ?_
                refine ev_runs 2 (1150, [some (.inr (.inr 1000)), some (.inr (.inr 0)), some (.inr (.inr 92)), some (.inl v3)], [], q54.2) (18, [some (.inr (.inr 1000)), some (.inr (.inr 0)), some (.inr (.inr 92)), some (.inl (wr (v3 + 6)))], [], q54.2) rfl ?_
                exact ev_le (L := [some (.inr (.inr 1000)), some (.inr (.inr 0)), some (.inr (.inr 92)), some (.inl (wr (v3 + 6)))]) (by simp [Lle]) (ih18 (wr (v3 + 6)) q54.2 r g' h)
              · rw [if_neg hc] at h
                refine es (919, [some (.inr (.inr 1000)), some (.inr (.inr 0)), some (.inr (.inr 92)), some (.inl v3)], [], q54.2) (congrArg some (if_neg hc)) ?_
                refine ev_runs 1 (919, [some (.inr (.inr 1000)), some (.inr (.inr 0)), some (.inr (.inr 92)), some (.inl v3)], [], q54.2) (920, [some (.inr (.inr 1000)), some (.inr (.inr 0)), some (.inr (.inr 92)), some (.inl v3)], [.inl 0], q54.2) rfl ?_
                cases h
                exact er rfl
            · rw [if_neg hc] at h; cases h
          · rw [if_neg hc] at h; cases h
        rw [if_neg hx26] at h
        by_cases hx27 : (jand (g 1000 v3.toNat) 63) = 27
        · rw [if_pos hx27] at h
          refine ev_sw (tgt := 921) rfl (by rw [hx27]; rfl) ?_
          show Ev 259 921 [some (.inr (.inr 1000)), some (.inr (.inr 0)), some (.inr (.inr 92)), some (.inl v3)] [] g _ _
          refine ev_runs 5 (921, [some (.inr (.inr 1000)), some (.inr (.inr 0)), some (.inr (.inr 92)), some (.inl v3)], [], g) (926, [some (.inr (.inr 1000)), some (.inr (.inr 0)), some (.inr (.inr 92)), some (.inl v3)], [.inl (wr (v3 + 1)), .inr (.inr 1000), .inr (.inr 0)], g) rfl ?_
          by_cases hc : (1000 : Nat) = 1000 ∧ 0 ≤ (wr (v3 + 1)) ∧ (wr (v3 + 1)) < (g 1001 0)
          · rw [if_pos hc] at h
            refine es (927, [some (.inr (.inr 1000)), some (.inr (.inr 0)), some (.inr (.inr 92)), some (.inl v3)], [.inl (g 1000 (wr (v3 + 1)).toNat), .inr (.inr 0)], g) (if_pos hc) ?_
            refine ev_runs 4 (927, [some (.inr (.inr 1000)), some (.inr (.inr 0)), some (.inr (.inr 92)), some (.inl v3)], [.inl (g 1000 (wr (v3 + 1)).toNat), .inr (.inr 0)], g) (931, [some (.inr (.inr 1000)), some (.inr (.inr 0)), some (.inr (.inr 92)), some (.inl v3)], [.inl (wr (v3 + 2)), .inr (.inr 1000), .inl (g 1000 (wr (v3 + 1)).toNat), .inr (.inr 0)], g) rfl ?_
            by_cases hc : (1000 : Nat) = 1000 ∧ 0 ≤ (wr (v3 + 2)) ∧ (wr (v3 + 2)) < (g 1001 0)
            · rw [if_pos hc] at h
              refine es (932, [some (.inr (.inr 1000)), some (.inr (.inr 0)), some (.inr (.inr 92)), some (.inl v3)], [.inl (g 1000 (wr (v3 + 2)).toNat), .inl (g 1000 (wr (v3 + 1)).toNat), .inr (.inr 0)], g) (if_pos hc) ?_
              refine ev_runs 4 (932, [some (.inr (.inr 1000)), some (.inr (.inr 0)), some (.inr (.inr 92)), some (.inl v3)], [.inl (g 1000 (wr (v3 + 2)).toNat), .inl (g 1000 (wr (v3 + 1)).toNat), .inr (.inr 0)], g) (936, [some (.inr (.inr 1000)), some (.inr (.inr 0)), some (.inr (.inr 92)), some (.inl v3)], [.inl (wr (v3 + 3)), .inr (.inr 1000), .inl (g 1000 (wr (v3 + 2)).toNat), .inl (g 1000 (wr (v3 + 1)).toNat), .inr (.inr 0)], g) rfl ?_
              by_cases hc : (1000 : Nat) = 1000 ∧ 0 ≤ (wr (v3 + 3)) ∧ (wr (v3 + 3)) < (g 1001 0)
              · rw [if_pos hc] at h
                refine es (937, [some (.inr (.inr 1000)), some (.inr (.inr 0)), some (.inr (.inr 92)), some (.inl v3)], [.inl (g 1000 (wr (v3 + 3)).toNat), .inl (g 1000 (wr (v3 + 2)).toNat), .inl (g 1000 (wr (v3 + 1)).toNat), .inr (.inr 0)], g) (if_pos hc) ?_
                refine ev_runs 4 (937, [some (.inr (.inr 1000)), some (.inr (.inr 0)), some (.inr (.inr 92)), some (.inl v3)], [.inl (g 1000 (wr (v3 + 3)).toNat), .inl (g 1000 (wr (v3 + 2)).toNat), .inl (g 1000 (wr (v3 + 1)).toNat), .inr (.inr 0)], g) (941, [some (.inr (.inr 1000)), some (.inr (.inr 0)), some (.inr (.inr 92)), some (.inl v3)], [.inl (wr (v3 + 4)), .inr (.inr 1000), .inl (g 1000 (wr (v3 + 3)).toNat), .inl (g 1000 (wr (v3 + 2)).toNat), .inl (g 1000 (wr (v3 + 1)).toNat), .inr (.inr 0)], g) rfl ?_
                by_cases hc : (1000 : Nat) = 1000 ∧ 0 ≤ (wr (v3 + 4)) ∧ (wr (v3 + 4)) < (g 1001 0)
                · rw [if_pos hc] at h
                  refine es (942, [some (.inr (.inr 1000)), some (.inr (.inr 0)), some (.inr (.inr 92)), some (.inl v3)], [.inl (g 1000 (wr (v3 + 4)).toNat), .inl (g 1000 (wr (v3 + 3)).toNat), .inl (g 1000 (wr (v3 + 2)).toNat), .inl (g 1000 (wr (v3 + 1)).toNat), .inr (.inr 0)], g) (if_pos hc) ?_
                  obtain ⟨q55, hq, h⟩ := lett_inv h
                  refine ec 242 945 [.inr (.inr 0), .inl (g 1000 (wr (v3 + 1)).toNat), .inl (g 1000 (wr (v3 + 2)).toNat), .inl (g 1000 (wr (v3 + 3)).toNat), .inl (g 1000 (wr (v3 + 4)).toNat)] [] rfl (ev_Op_put (g 1000 (wr (v3 + 1)).toNat) (g 1000 (wr (v3 + 2)).toNat) (g 1000 (wr (v3 + 3)).toNat) (g 1000 (wr (v3 + 4)).toNat) g q55.1 q55.2 hq.symm) ?_
                  show Ev 259 945 [some (.inr (.inr 1000)), some (.inr (.inr 0)), some (.inr (.inr 92)), some (.inl v3)] [.inl q55.1] q55.2 _ _
                  refine ev_runs 5 (945, [some (.inr (.inr 1000)), some (.inr (.inr 0)), some (.inr (.inr 92)), some (.inl v3)], [.inl q55.1], q55.2) (950, [some (.inr (.inr 1000)), some (.inr (.inr 0)), some (.inr (.inr 92)), some (.inl v3)], [.inl (wr (v3 + 1)), .inr (.inr 1000), .inr (.inr 92), .inl q55.1], q55.2) rfl ?_
                  by_cases hc : (1000 : Nat) = 1000 ∧ 0 ≤ (wr (v3 + 1)) ∧ (wr (v3 + 1)) < (q55.2 1001 0)
                  · rw [if_pos hc] at h
                    refine es (951, [some (.inr (.inr 1000)), some (.inr (.inr 0)), some (.inr (.inr 92)), some (.inl v3)], [.inl (q55.2 1000 (wr (v3 + 1)).toNat), .inr (.inr 92), .inl q55.1], q55.2) (if_pos hc) ?_
                    refine ev_runs 4 (951, [some (.inr (.inr 1000)), some (.inr (.inr 0)), some (.inr (.inr 92)), some (.inl v3)], [.inl (q55.2 1000 (wr (v3 + 1)).toNat), .inr (.inr 92), .inl q55.1], q55.2) (955, [some (.inr (.inr 1000)), some (.inr (.inr 0)), some (.inr (.inr 92)), some (.inl v3)], [.inl (wr (v3 + 2)), .inr (.inr 1000), .inl (q55.2 1000 (wr (v3 + 1)).toNat), .inr (.inr 92), .inl q55.1], q55.2) rfl ?_
                    by_cases hc : (1000 : Nat) = 1000 ∧ 0 ≤ (wr (v3 + 2)) ∧ (wr (v3 + 2)) < (q55.2 1001 0)
                    · rw [if_pos hc] at h
                      refine es (956, [some (.inr (.inr 1000)), some (.inr (.inr 0)), some (.inr (.inr 92)), some (.inl v3)], [.inl (q55.2 1000 (wr (v3 + 2)).toNat), .inl (q55.2 1000 (wr (v3 + 1)).toNat), .inr (.inr 92), .inl q55.1], q55.2) (if_pos hc) ?_
                      refine ev_runs 4 (956, [some (.inr (.inr 1000)), some (.inr (.inr 0)), some (.inr (.inr 92)), some (.inl v3)], [.inl (q55.2 1000 (wr (v3 + 2)).toNat), .inl (q55.2 1000 (wr (v3 + 1)).toNat), .inr (.inr 92), .inl q55.1], q55.2) (960, [some (.inr (.inr 1000)), some (.inr (.inr 0)), some (.inr (.inr 92)), some (.inl v3)], [.inl (wr (v3 + 3)), .inr (.inr 1000), .inl (q55.2 1000 (wr (v3 + 2)).toNat), .inl (q55.2 1000 (wr (v3 + 1)).toNat), .inr (.inr 92), .inl q55.1], q55.2) rfl ?_
                      by_cases hc : (1000 : Nat) = 1000 ∧ 0 ≤ (wr (v3 + 3)) ∧ (wr (v3 + 3)) < (q55.2 1001 0)
                      · rw [if_pos hc] at h
                        refine es (961, [some (.inr (.inr 1000)), some (.inr (.inr 0)), some (.inr (.inr 92)), some (.inl v3)], [.inl (q55.2 1000 (wr (v3 + 3)).toNat), .inl (q55.2 1000 (wr (v3 + 2)).toNat), .inl (q55.2 1000 (wr (v3 + 1)).toNat), .inr (.inr 92), .inl q55.1], q55.2) (if_pos hc) ?_
                        refine ev_runs 4 (961, [some (.inr (.inr 1000)), some (.inr (.inr 0)), some (.inr (.inr 92)), some (.inl v3)], [.inl (q55.2 1000 (wr (v3 + 3)).toNat), .inl (q55.2 1000 (wr (v3 + 2)).toNat), .inl (q55.2 1000 (wr (v3 + 1)).toNat), .inr (.inr 92), .inl q55.1], q55.2) (965, [some (.inr (.inr 1000)), some (.inr (.inr 0)), some (.inr (.inr 92)), some (.inl v3)], [.inl (wr (v3 + 4)), .inr (.inr 1000), .inl (q55.2 1000 (wr (v3 + 3)).toNat), .inl (q55.2 1000 (wr (v3 + 2)).toNat), .inl (q55.2 1000 (wr (v3 + 1)).toNat), .inr (.inr 92), .inl q55.1], q55.2) rfl ?_
                        by_cases hc : (1000 : Nat) = 1000 ∧ 0 ≤ (wr (v3 + 4)) ∧ (wr (v3 + 4)) < (q55.2 1001 0)
                        · rw [if_pos hc] at h
                          refine es (966, [some (.inr (.inr 1000)), some (.inr (.inr 0)), some (.inr (.inr 92)), some (.inl v3)], [.inl (q55.2 1000 (wr (v3 + 4)).toNat), .inl (q55.2 1000 (wr (v3 + 3)).toNat), .inl (q55.2 1000 (wr (v3 + 2)).toNat), .inl (q55.2 1000 (wr (v3 + 1)).toNat), .inr (.inr 92), .inl q55.1], q55.2) (if_pos hc) ?_
                          obtain ⟨q56, hq, h⟩ := Option.bind_eq_some_iff.mp h
                          refine ec 245 969 [.inr (.inr 92), .inl (q55.2 1000 (wr (v3 + 1)).toNat), .inl (q55.2 1000 (wr (v3 + 2)).toNat), .inl (q55.2 1000 (wr (v3 + 3)).toNat), .inl (q55.2 1000 (wr (v3 + 4)).toNat)] [.inl q55.1] rfl (ev_Md_put (q55.2 1000 (wr (v3 + 1)).toNat) (q55.2 1000 (wr (v3 + 2)).toNat) (q55.2 1000 (wr (v3 + 3)).toNat) (q55.2 1000 (wr (v3 + 4)).toNat) q55.2 q56.1 q56.2 hq) ?_
                          show Ev 259 969 [some (.inr (.inr 1000)), some (.inr (.inr 0)), some (.inr (.inr 92)), some (.inl v3)] [.inl q56.1, .inl q55.1] q56.2 _ _
                          by_cases hc : q55.1 = q56.1
                          · rw [if_pos hc] at h
                            refine es (1150, [some (.inr (.inr 1000)), some (.inr (.inr 0)), some (.inr (.inr 92)), some (.inl v3)], [], q56.2) (congrArg some (if_pos hc)) ?_
                            refine ev_runs 2 (1150, [some (.inr (.inr 1000)), some (.inr (.inr 0)), some (.inr (.inr 92)), some (.inl v3)], [], q56.2) (18, [some (.inr (.inr 1000)), some (.inr (.inr 0)), some (.inr (.inr 92)), some (.inl (wr (v3 + 6)))], [], q56.2) rfl ?_
                            exact ev_le (L := [some (.inr (.inr 1000)), some (.inr (.inr 0)), some (.inr (.inr 92)), some (.inl (wr (v3 + 6)))]) (by simp [Lle]) (ih18 (wr (v3 + 6)) q56.2 r g' h)
                          · rw [if_neg hc] at h
                            refine es (972, [some (.inr (.inr 1000)), some (.inr (.inr 0)), some (.inr (.inr 92)), some (.inl v3)], [], q56.2) (congrArg some (if_neg hc)) ?_
                            refine ev_runs 1 (972, [some (.inr (.inr 1000)), some (.inr (.inr 0)), some (.inr (.inr 92)), some (.inl v3)], [], q56.2) (973, [some (.inr (.inr 1000)), some (.inr (.inr 0)), some (.inr (.inr 92)), some (.inl v3)], [.inl 0], q56.2) rfl ?_
                            cases h
                            exact er rfl
                        · rw [if_neg hc] at h; cases h
                      · rw [if_neg hc] at h; cases h
                    · rw [if_neg hc] at h; cases h
                  · rw [if_neg hc] at h; cases h
                · rw [if_neg hc] at h; cases h
              · rw [if_neg hc] at h; cases h
            · rw [if_neg hc] at h; cases h
          · rw [if_neg hc] at h; cases h
        rw [if_neg hx27] at h
        by_cases hx28 : (jand (g 1000 v3.toNat) 63) = 28
        · rw [if_pos hx28] at h
          refine ev_sw (tgt := 974) rfl (by rw [hx28]; rfl) ?_
          show Ev 259 974 [some (.inr (.inr 1000)), some (.inr (.inr 0)), some (.inr (.inr 92)), some (.inl v3)] [] g _ _
          refine ev_runs 5 (974, [some (.inr (.inr 1000)), some (.inr (.inr 0)), some (.inr (.inr 92)), some (.inl v3)], [], g) (979, [some (.inr (.inr 1000)), some (.inr (.inr 0)), some (.inr (.inr 92)), some (.inl v3)], [.inl (wr (v3 + 1)), .inr (.inr 1000), .inr (.inr 0)], g) rfl ?_
          by_cases hc : (1000 : Nat) = 1000 ∧ 0 ≤ (wr (v3 + 1)) ∧ (wr (v3 + 1)) < (g 1001 0)
          · rw [if_pos hc] at h
            refine es (980, [some (.inr (.inr 1000)), some (.inr (.inr 0)), some (.inr (.inr 92)), some (.inl v3)], [.inl (g 1000 (wr (v3 + 1)).toNat), .inr (.inr 0)], g) (if_pos hc) ?_
            refine ev_runs 4 (980, [some (.inr (.inr 1000)), some (.inr (.inr 0)), some (.inr (.inr 92)), some (.inl v3)], [.inl (g 1000 (wr (v3 + 1)).toNat), .inr (.inr 0)], g) (984, [some (.inr (.inr 1000)), some (.inr (.inr 0)), some (.inr (.inr 92)), some (.inl v3)], [.inl (wr (v3 + 2)), .inr (.inr 1000), .inl (g 1000 (wr (v3 + 1)).toNat), .inr (.inr 0)], g) rfl ?_
            by_cases hc : (1000 : Nat) = 1000 ∧ 0 ≤ (wr (v3 + 2)) ∧ (wr (v3 + 2)) < (g 1001 0)
            · rw [if_pos hc] at h
              refine es (985, [some (.inr (.inr 1000)), some (.inr (.inr 0)), some (.inr (.inr 92)), some (.inl v3)], [.inl (g 1000 (wr (v3 + 2)).toNat), .inl (g 1000 (wr (v3 + 1)).toNat), .inr (.inr 0)], g) (if_pos hc) ?_
              refine ev_runs 4 (985, [some (.inr (.inr 1000)), some (.inr (.inr 0)), some (.inr (.inr 92)), some (.inl v3)], [.inl (g 1000 (wr (v3 + 2)).toNat), .inl (g 1000 (wr (v3 + 1)).toNat), .inr (.inr 0)], g) (989, [some (.inr (.inr 1000)), some (.inr (.inr 0)), some (.inr (.inr 92)), some (.inl v3)], [.inl (wr (v3 + 3)), .inr (.inr 1000), .inl (g 1000 (wr (v3 + 2)).toNat), .inl (g 1000 (wr (v3 + 1)).toNat), .inr (.inr 0)], g) rfl ?_
              by_cases hc : (1000 : Nat) = 1000 ∧ 0 ≤ (wr (v3 + 3)) ∧ (wr (v3 + 3)) < (g 1001 0)
              · rw [if_pos hc] at h
                refine es (990, [some (.inr (.inr 1000)), some (.inr (.inr 0)), some (.inr (.inr 92)), some (.inl v3)], [.inl (g 1000 (wr (v3 + 3)).toNat), .inl (g 1000 (wr (v3 + 2)).toNat), .inl (g 1000 (wr (v3 + 1)).toNat), .inr (.inr 0)], g) (if_pos hc) ?_
                obtain ⟨q57, hq, h⟩ := lett_inv h
                refine ec 246 993 [.inr (.inr 0), .inl (g 1000 (wr (v3 + 1)).toNat), .inl (g 1000 (wr (v3 + 2)).toNat), .inl (g 1000 (wr (v3 + 3)).toNat)] [] rfl (ev_Op_get (g 1000 (wr (v3 + 1)).toNat) (g 1000 (wr (v3 + 2)).toNat) (g 1000 (wr (v3 + 3)).toNat) g q57.1 q57.2 hq.symm) ?_
                show Ev 259 993 [some (.inr (.inr 1000)), some (.inr (.inr 0)), some (.inr (.inr 92)), some (.inl v3)] [.inl q57.1] q57.2 _ _
                refine ev_runs 5 (993, [some (.inr (.inr 1000)), some (.inr (.inr 0)), some (.inr (.inr 92)), some (.inl v3)], [.inl q57.1], q57.2) (998, [some (.inr (.inr 1000)), some (.inr (.inr 0)), some (.inr (.inr 92)), some (.inl v3)], [.inl (wr (v3 + 1)), .inr (.inr 1000), .inr (.inr 92), .inl q57.1], q57.2) rfl ?_
                by_cases hc : (1000 : Nat) = 1000 ∧ 0 ≤ (wr (v3 + 1)) ∧ (wr (v3 + 1)) < (q57.2 1001 0)
                · rw [if_pos hc] at h
                  refine es (999, [some (.inr (.inr 1000)), some (.inr (.inr 0)), some (.inr (.inr 92)), some (.inl v3)], [.inl (q57.2 1000 (wr (v3 + 1)).toNat), .inr (.inr 92), .inl q57.1], q57.2) (if_pos hc) ?_
                  refine ev_runs 4 (999, [some (.inr (.inr 1000)), some (.inr (.inr 0)), some (.inr (.inr 92)), some (.inl v3)], [.inl (q57.2 1000 (wr (v3 + 1)).toNat), .inr (.inr 92), .inl q57.1], q57.2) (1003, [some (.inr (.inr 1000)), some (.inr (.inr 0)), some (.inr (.inr 92)), some (.inl v3)], [.inl (wr (v3 + 2)), .inr (.inr 1000), .inl (q57.2 1000 (wr (v3 + 1)).toNat), .inr (.inr 92), .inl q57.1], q57.2) rfl ?_
                  by_cases hc : (1000 : Nat) = 1000 ∧ 0 ≤ (wr (v3 + 2)) ∧ (wr (v3 + 2)) < (q57.2 1001 0)
                  · rw [if_pos hc] at h
                    refine es (1004, [some (.inr (.inr 1000)), some (.inr (.inr 0)), some (.inr (.inr 92)), some (.inl v3)], [.inl (q57.2 1000 (wr (v3 + 2)).toNat), .inl (q57.2 1000 (wr (v3 + 1)).toNat), .inr (.inr 92), .inl q57.1], q57.2) (if_pos hc) ?_
                    refine ev_runs 4 (1004, [some (.inr (.inr 1000)), some (.inr (.inr 0)), some (.inr (.inr 92)), some (.inl v3)], [.inl (q57.2 1000 (wr (v3 + 2)).toNat), .inl (q57.2 1000 (wr (v3 + 1)).toNat), .inr (.inr 92), .inl q57.1], q57.2) (1008, [some (.inr (.inr 1000)), some (.inr (.inr 0)), some (.inr (.inr 92)), some (.inl v3)], [.inl (wr (v3 + 3)), .inr (.inr 1000), .inl (q57.2 1000 (wr (v3 + 2)).toNat), .inl (q57.2 1000 (wr (v3 + 1)).toNat), .inr (.inr 92), .inl q57.1], q57.2) rfl ?_
                    by_cases hc : (1000 : Nat) = 1000 ∧ 0 ≤ (wr (v3 + 3)) ∧ (wr (v3 + 3)) < (q57.2 1001 0)
                    · rw [if_pos hc] at h
                      refine es (1009, [some (.inr (.inr 1000)), some (.inr (.inr 0)), some (.inr (.inr 92)), some (.inl v3)], [.inl (q57.2 1000 (wr (v3 + 3)).toNat), .inl (q57.2 1000 (wr (v3 + 2)).toNat), .inl (q57.2 1000 (wr (v3 + 1)).toNat), .inr (.inr 92), .inl q57.1], q57.2) (if_pos hc) ?_
                      obtain ⟨q58, hq, h⟩ := Option.bind_eq_some_iff.mp h
                      refine ec 247 1012 [.inr (.inr 92), .inl (q57.2 1000 (wr (v3 + 1)).toNat), .inl (q57.2 1000 (wr (v3 + 2)).toNat), .inl (q57.2 1000 (wr (v3 + 3)).toNat)] [.inl q57.1] rfl (ev_Md_get (q57.2 1000 (wr (v3 + 1)).toNat) (q57.2 1000 (wr (v3 + 2)).toNat) (q57.2 1000 (wr (v3 + 3)).toNat) q57.2 q58.1 q58.2 hq) ?_
                      show Ev 259 1012 [some (.inr (.inr 1000)), some (.inr (.inr 0)), some (.inr (.inr 92)), some (.inl v3)] [.inl q58.1, .inl q57.1] q58.2 _ _
                      by_cases hc : q57.1 = q58.1
                      · rw [if_pos hc] at h
                        refine es (1150, [some (.inr (.inr 1000)), some (.inr (.inr 0)), some (.inr (.inr 92)), some (.inl v3)], [], q58.2) (congrArg some (if_pos hc)) ?_
                        refine ev_runs 2 (1150, [some (.inr (.inr 1000)), some (.inr (.inr 0)), some (.inr (.inr 92)), some (.inl v3)], [], q58.2) (18, [some (.inr (.inr 1000)), some (.inr (.inr 0)), some (.inr (.inr 92)), some (.inl (wr (v3 + 6)))], [], q58.2) rfl ?_
                        exact ev_le (L := [some (.inr (.inr 1000)), some (.inr (.inr 0)), some (.inr (.inr 92)), some (.inl (wr (v3 + 6)))]) (by simp [Lle]) (ih18 (wr (v3 + 6)) q58.2 r g' h)
                      · rw [if_neg hc] at h
                        refine es (1015, [some (.inr (.inr 1000)), some (.inr (.inr 0)), some (.inr (.inr 92)), some (.inl v3)], [], q58.2) (congrArg some (if_neg hc)) ?_
                        refine ev_runs 1 (1015, [some (.inr (.inr 1000)), some (.inr (.inr 0)), some (.inr (.inr 92)), some (.inl v3)], [], q58.2) (1016, [some (.inr (.inr 1000)), some (.inr (.inr 0)), some (.inr (.inr 92)), some (.inl v3)], [.inl 0], q58.2) rfl ?_
                        cases h
                        exact er rfl
                    · rw [if_neg hc] at h; cases h
                  · rw [if_neg hc] at h; cases h
                · rw [if_neg hc] at h; cases h
              · rw [if_neg hc] at h; cases h
            · rw [if_neg hc] at h; cases h
          · rw [if_neg hc] at h; cases h
        rw [if_neg hx28] at h
        by_cases hx29 : (jand (g 1000 v3.toNat) 63) = 29
        · rw [if_pos hx29] at h
          refine ev_sw (tgt := 1017) rfl (by rw [hx29]; rfl) ?_
          show Ev 259 1017 [some (.inr (.inr 1000)), some (.inr (.inr 0)), some (.inr (.inr 92)), some (.inl v3)] [] g _ _
          refine ev_runs 5 (1017, [some (.inr (.inr 1000)), some (.inr (.inr 0)), some (.inr (.inr 92)), some (.inl v3)], [], g) (1022, [some (.inr (.inr 1000)), some (.inr (.inr 0)), some (.inr (.inr 92)), some (.inl v3)], [.inl (wr (v3 + 1)), .inr (.inr 1000), .inr (.inr 0)], g) rfl ?_
          by_cases hc : (1000 : Nat) = 1000 ∧ 0 ≤ (wr (v3 + 1)) ∧ (wr (v3 + 1)) < (g 1001 0)
          · rw [if_pos hc] at h
            refine es (1023, [some (.inr (.inr 1000)), some (.inr (.inr 0)), some (.inr (.inr 92)), some (.inl v3)], [.inl (g 1000 (wr (v3 + 1)).toNat), .inr (.inr 0)], g) (if_pos hc) ?_
            refine ev_runs 4 (1023, [some (.inr (.inr 1000)), some (.inr (.inr 0)), some (.inr (.inr 92)), some (.inl v3)], [.inl (g 1000 (wr (v3 + 1)).toNat), .inr (.inr 0)], g) (1027, [some (.inr (.inr 1000)), some (.inr (.inr 0)), some (.inr (.inr 92)), some (.inl v3)], [.inl (wr (v3 + 2)), .inr (.inr 1000), .inl (g 1000 (wr (v3 + 1)).toNat), .inr (.inr 0)], g) rfl ?_
            by_cases hc : (1000 : Nat) = 1000 ∧ 0 ≤ (wr (v3 + 2)) ∧ (wr (v3 + 2)) < (g 1001 0)
            · rw [if_pos hc] at h
              refine es (1028, [some (.inr (.inr 1000)), some (.inr (.inr 0)), some (.inr (.inr 92)), some (.inl v3)], [.inl (g 1000 (wr (v3 + 2)).toNat), .inl (g 1000 (wr (v3 + 1)).toNat), .inr (.inr 0)], g) (if_pos hc) ?_
              refine ev_runs 4 (1028, [some (.inr (.inr 1000)), some (.inr (.inr 0)), some (.inr (.inr 92)), some (.inl v3)], [.inl (g 1000 (wr (v3 + 2)).toNat), .inl (g 1000 (wr (v3 + 1)).toNat), .inr (.inr 0)], g) (1032, [some (.inr (.inr 1000)), some (.inr (.inr 0)), some (.inr (.inr 92)), some (.inl v3)], [.inl (wr (v3 + 3)), .inr (.inr 1000), .inl (g 1000 (wr (v3 + 2)).toNat), .inl (g 1000 (wr (v3 + 1)).toNat), .inr (.inr 0)], g) rfl ?_
              by_cases hc : (1000 : Nat) = 1000 ∧ 0 ≤ (wr (v3 + 3)) ∧ (wr (v3 + 3)) < (g 1001 0)
              · rw [if_pos hc] at h
                refine es (1033, [some (.inr (.inr 1000)), some (.inr (.inr 0)), some (.inr (.inr 92)), some (.inl v3)], [.inl (g 1000 (wr (v3 + 3)).toNat), .inl (g 1000 (wr (v3 + 2)).toNat), .inl (g 1000 (wr (v3 + 1)).toNat), .inr (.inr 0)], g) (if_pos hc) ?_
                refine ev_runs 4 (1033, [some (.inr (.inr 1000)), some (.inr (.inr 0)), some (.inr (.inr 92)), some (.inl v3)], [.inl (g 1000 (wr (v3 + 3)).toNat), .inl (g 1000 (wr (v3 + 2)).toNat), .inl (g 1000 (wr (v3 + 1)).toNat), .inr (.inr 0)], g) (1037, [some (.inr (.inr 1000)), some (.inr (.inr 0)), some (.inr (.inr 92)), some (.inl v3)], [.inl (wr (v3 + 4)), .inr (.inr 1000), .inl (g 1000 (wr (v3 + 3)).toNat), .inl (g 1000 (wr (v3 + 2)).toNat), .inl (g 1000 (wr (v3 + 1)).toNat), .inr (.inr 0)], g) rfl ?_
                by_cases hc : (1000 : Nat) = 1000 ∧ 0 ≤ (wr (v3 + 4)) ∧ (wr (v3 + 4)) < (g 1001 0)
                · rw [if_pos hc] at h
                  refine es (1038, [some (.inr (.inr 1000)), some (.inr (.inr 0)), some (.inr (.inr 92)), some (.inl v3)], [.inl (g 1000 (wr (v3 + 4)).toNat), .inl (g 1000 (wr (v3 + 3)).toNat), .inl (g 1000 (wr (v3 + 2)).toNat), .inl (g 1000 (wr (v3 + 1)).toNat), .inr (.inr 0)], g) (if_pos hc) ?_
                  refine ev_runs 4 (1038, [some (.inr (.inr 1000)), some (.inr (.inr 0)), some (.inr (.inr 92)), some (.inl v3)], [.inl (g 1000 (wr (v3 + 4)).toNat), .inl (g 1000 (wr (v3 + 3)).toNat), .inl (g 1000 (wr (v3 + 2)).toNat), .inl (g 1000 (wr (v3 + 1)).toNat), .inr (.inr 0)], g) (1042, [some (.inr (.inr 1000)), some (.inr (.inr 0)), some (.inr (.inr 92)), some (.inl v3)], [.inl (wr (v3 + 5)), .inr (.inr 1000), .inl (g 1000 (wr (v3 + 4)).toNat), .inl (g 1000 (wr (v3 + 3)).toNat), .inl (g 1000 (wr (v3 + 2)).toNat), .inl (g 1000 (wr (v3 + 1)).toNat), .inr (.inr 0)], g) rfl ?_
                  by_cases hc : (1000 : Nat) = 1000 ∧ 0 ≤ (wr (v3 + 5)) ∧ (wr (v3 + 5)) < (g 1001 0)
                  · rw [if_pos hc] at h
                    refine es (1043, [some (.inr (.inr 1000)), some (.inr (.inr 0)), some (.inr (.inr 92)), some (.inl v3)], [.inl (g 1000 (wr (v3 + 5)).toNat), .inl (g 1000 (wr (v3 + 4)).toNat), .inl (g 1000 (wr (v3 + 3)).toNat), .inl (g 1000 (wr (v3 + 2)).toNat), .inl (g 1000 (wr (v3 + 1)).toNat), .inr (.inr 0)], g) (if_pos hc) ?_
                    obtain ⟨q59, hq, h⟩ := Option.bind_eq_some_iff.mp h
                    refine ec 250 1046 [.inr (.inr 0), .inl (g 1000 (wr (v3 + 1)).toNat), .inl (g 1000 (wr (v3 + 2)).toNat), .inl (g 1000 (wr (v3 + 3)).toNat), .inl (g 1000 (wr (v3 + 4)).toNat), .inl (g 1000 (wr (v3 + 5)).toNat)] [] rfl (ev_Op_copy (g 1000 (wr (v3 + 1)).toNat) (g 1000 (wr (v3 + 2)).toNat) (g 1000 (wr (v3 + 3)).toNat) (g 1000 (wr (v3 + 4)).toNat) (g 1000 (wr (v3 + 5)).toNat) g q59.1 q59.2 hq) ?_
                    show Ev 259 1046 [some (.inr (.inr 1000)), some (.inr (.inr 0)), some (.inr (.inr 92)), some (.inl v3)] [.inl q59.1] q59.2 _ _
                    refine ev_runs 5 (1046, [some (.inr (.inr 1000)), some (.inr (.inr 0)), some (.inr (.inr 92)), some (.inl v3)], [.inl q59.1], q59.2) (1051, [some (.inr (.inr 1000)), some (.inr (.inr 0)), some (.inr (.inr 92)), some (.inl v3)], [.inl (wr (v3 + 1)), .inr (.inr 1000), .inr (.inr 92), .inl q59.1], q59.2) rfl ?_
                    by_cases hc : (1000 : Nat) = 1000 ∧ 0 ≤ (wr (v3 + 1)) ∧ (wr (v3 + 1)) < (q59.2 1001 0)
                    · rw [if_pos hc] at h
                      refine es (1052, [some (.inr (.inr 1000)), some (.inr (.inr 0)), some (.inr (.inr 92)), some (.inl v3)], [.inl (q59.2 1000 (wr (v3 + 1)).toNat), .inr (.inr 92), .inl q59.1], q59.2) (if_pos hc) ?_
                      refine ev_runs 4 (1052, [some (.inr (.inr 1000)), some (.inr (.inr 0)), some (.inr (.inr 92)), some (.inl v3)], [.inl (q59.2 1000 (wr (v3 + 1)).toNat), .inr (.inr 92), .inl q59.1], q59.2) (1056, [some (.inr (.inr 1000)), some (.inr (.inr 0)), some (.inr (.inr 92)), some (.inl v3)], [.inl (wr (v3 + 2)), .inr (.inr 1000), .inl (q59.2 1000 (wr (v3 + 1)).toNat), .inr (.inr 92), .inl q59.1], q59.2) rfl ?_
                      by_cases hc : (1000 : Nat) = 1000 ∧ 0 ≤ (wr (v3 + 2)) ∧ (wr (v3 + 2)) < (q59.2 1001 0)
                      · rw [if_pos hc] at h
                        refine es (1057, [some (.inr (.inr 1000)), some (.inr (.inr 0)), some (.inr (.inr 92)), some (.inl v3)], [.inl (q59.2 1000 (wr (v3 + 2)).toNat), .inl (q59.2 1000 (wr (v3 + 1)).toNat), .inr (.inr 92), .inl q59.1], q59.2) (if_pos hc) ?_
                        refine ev_runs 4 (1057, [some (.inr (.inr 1000)), some (.inr (.inr 0)), some (.inr (.inr 92)), some (.inl v3)], [.inl (q59.2 1000 (wr (v3 + 2)).toNat), .inl (q59.2 1000 (wr (v3 + 1)).toNat), .inr (.inr 92), .inl q59.1], q59.2) (1061, [some (.inr (.inr 1000)), some (.inr (.inr 0)), some (.inr (.inr 92)), some (.inl v3)], [.inl (wr (v3 + 3)), .inr (.inr 1000), .inl (q59.2 1000 (wr (v3 + 2)).toNat), .inl (q59.2 1000 (wr (v3 + 1)).toNat), .inr (.inr 92), .inl q59.1], q59.2) rfl ?_
                        by_cases hc : (1000 : Nat) = 1000 ∧ 0 ≤ (wr (v3 + 3)) ∧ (wr (v3 + 3)) < (q59.2 1001 0)
                        · rw [if_pos hc] at h
                          refine es (1062, [some (.inr (.inr 1000)), some (.inr (.inr 0)), some (.inr (.inr 92)), some (.inl v3)], [.inl (q59.2 1000 (wr (v3 + 3)).toNat), .inl (q59.2 1000 (wr (v3 + 2)).toNat), .inl (q59.2 1000 (wr (v3 + 1)).toNat), .inr (.inr 92), .inl q59.1], q59.2) (if_pos hc) ?_
                          refine ev_runs 4 (1062, [some (.inr (.inr 1000)), some (.inr (.inr 0)), some (.inr (.inr 92)), some (.inl v3)], [.inl (q59.2 1000 (wr (v3 + 3)).toNat), .inl (q59.2 1000 (wr (v3 + 2)).toNat), .inl (q59.2 1000 (wr (v3 + 1)).toNat), .inr (.inr 92), .inl q59.1], q59.2) (1066, [some (.inr (.inr 1000)), some (.inr (.inr 0)), some (.inr (.inr 92)), some (.inl v3)], [.inl (wr (v3 + 4)), .inr (.inr 1000), .inl (q59.2 1000 (wr (v3 + 3)).toNat), .inl (q59.2 1000 (wr (v3 + 2)).toNat), .inl (q59.2 1000 (wr (v3 + 1)).toNat), .inr (.inr 92), .inl q59.1], q59.2) rfl ?_
                          by_cases hc : (1000 : Nat) = 1000 ∧ 0 ≤ (wr (v3 + 4)) ∧ (wr (v3 + 4)) < (q59.2 1001 0)
                          · rw [if_pos hc] at h
                            refine es (1067, [some (.inr (.inr 1000)), some (.inr (.inr 0)), some (.inr (.inr 92)), some (.inl v3)], [.inl (q59.2 1000 (wr (v3 + 4)).toNat), .inl (q59.2 1000 (wr (v3 + 3)).toNat), .inl (q59.2 1000 (wr (v3 + 2)).toNat), .inl (q59.2 1000 (wr (v3 + 1)).toNat), .inr (.inr 92), .inl q59.1], q59.2) (if_pos hc) ?_
                            refine ev_runs 4 (1067, [some (.inr (.inr 1000)), some (.inr (.inr 0)), some (.inr (.inr 92)), some (.inl v3)], [.inl (q59.2 1000 (wr (v3 + 4)).toNat), .inl (q59.2 1000 (wr (v3 + 3)).toNat), .inl (q59.2 1000 (wr (v3 + 2)).toNat), .inl (q59.2 1000 (wr (v3 + 1)).toNat), .inr (.inr 92), .inl q59.1], q59.2) (1071, [some (.inr (.inr 1000)), some (.inr (.inr 0)), some (.inr (.inr 92)), some (.inl v3)], [.inl (wr (v3 + 5)), .inr (.inr 1000), .inl (q59.2 1000 (wr (v3 + 4)).toNat), .inl (q59.2 1000 (wr (v3 + 3)).toNat), .inl (q59.2 1000 (wr (v3 + 2)).toNat), .inl (q59.2 1000 (wr (v3 + 1)).toNat), .inr (.inr 92), .inl q59.1], q59.2) rfl ?_
                            by_cases hc : (1000 : Nat) = 1000 ∧ 0 ≤ (wr (v3 + 5)) ∧ (wr (v3 + 5)) < (q59.2 1001 0)
                            · rw [if_pos hc] at h
                              refine es (1072, [some (.inr (.inr 1000)), some (.inr (.inr 0)), some (.inr (.inr 92)), some (.inl v3)], [.inl (q59.2 1000 (wr (v3 + 5)).toNat), .inl (q59.2 1000 (wr (v3 + 4)).toNat), .inl (q59.2 1000 (wr (v3 + 3)).toNat), .inl (q59.2 1000 (wr (v3 + 2)).toNat), .inl (q59.2 1000 (wr (v3 + 1)).toNat), .inr (.inr 92), .inl q59.1], q59.2) (if_pos hc) ?_
                              obtain ⟨q60, hq, h⟩ := Option.bind_eq_some_iff.mp h
                              refine ec 251 1075 [.inr (.inr 92), .inl (q59.2 1000 (wr (v3 + 1)).toNat), .inl (q59.2 1000 (wr (v3 + 2)).toNat), .inl (q59.2 1000 (wr (v3 + 3)).toNat), .inl (q59.2 1000 (wr (v3 + 4)).toNat), .inl (q59.2 1000 (wr (v3 + 5)).toNat)] [.inl q59.1] rfl (ev_Md_copy (q59.2 1000 (wr (v3 + 1)).toNat) (q59.2 1000 (wr (v3 + 2)).toNat) (q59.2 1000 (wr (v3 + 3)).toNat) (q59.2 1000 (wr (v3 + 4)).toNat) (q59.2 1000 (wr (v3 + 5)).toNat) q59.2 q60.1 q60.2 hq) ?_
                              show Ev 259 1075 [some (.inr (.inr 1000)), some (.inr (.inr 0)), some (.inr (.inr 92)), some (.inl v3)] [.inl q60.1, .inl q59.1] q60.2 _ _
                              by_cases hc : q59.1 = q60.1
                              · rw [if_pos hc] at h
                                refine es (1150, [some (.inr (.inr 1000)), some (.inr (.inr 0)), some (.inr (.inr 92)), some (.inl v3)], [], q60.2) (congrArg some (if_pos hc)) ?_
                                refine ev_runs 2 (1150, [some (.inr (.inr 1000)), some (.inr (.inr 0)), some (.inr (.inr 92)), some (.inl v3)], [], q60.2) (18, [some (.inr (.inr 1000)), some (.inr (.inr 0)), some (.inr (.inr 92)), some (.inl (wr (v3 + 6)))], [], q60.2) rfl ?_
                                exact ev_le (L := [some (.inr (.inr 1000)), some (.inr (.inr 0)), some (.inr (.inr 92)), some (.inl (wr (v3 + 6)))]) (by simp [Lle]) (ih18 (wr (v3 + 6)) q60.2 r g' h)
                              · rw [if_neg hc] at h
                                refine es (1078, [some (.inr (.inr 1000)), some (.inr (.inr 0)), some (.inr (.inr 92)), some (.inl v3)], [], q60.2) (congrArg some (if_neg hc)) ?_
                                refine ev_runs 1 (1078, [some (.inr (.inr 1000)), some (.inr (.inr 0)), some (.inr (.inr 92)), some (.inl v3)], [], q60.2) (1079, [some (.inr (.inr 1000)), some (.inr (.inr 0)), some (.inr (.inr 92)), some (.inl v3)], [.inl 0], q60.2) rfl ?_
                                cases h
                                exact er rfl
                            · rw [if_neg hc] at h; cases h
                          · rw [if_neg hc] at h; cases h
                        · rw [if_neg hc] at h; cases h
                      · rw [if_neg hc] at h; cases h
                    · rw [if_neg hc] at h; cases h
                  · rw [if_neg hc] at h; cases h
                · rw [if_neg hc] at h; cases h
              · rw [if_neg hc] at h; cases h
            · rw [if_neg hc] at h; cases h
          · rw [if_neg hc] at h; cases h
        rw [if_neg hx29] at h
        by_cases hx30 : (jand (g 1000 v3.toNat) 63) = 30
        · rw [if_pos hx30] at h
          refine ev_sw (tgt := 1080) rfl (by rw [hx30]; rfl) ?_
          show Ev 259 1080 [some (.inr (.inr 1000)), some (.inr (.inr 0)), some (.inr (.inr 92)), some (.inl v3)] [] g _ _
          refine ev_runs 5 (1080, [some (.inr (.inr 1000)), some (.inr (.inr 0)), some (.inr (.inr 92)), some (.inl v3)], [], g) (1085, [some (.inr (.inr 1000)), some (.inr (.inr 0)), some (.inr (.inr 92)), some (.inl v3)], [.inl (wr (v3 + 1)), .inr (.inr 1000), .inr (.inr 0)], g) rfl ?_
          by_cases hc : (1000 : Nat) = 1000 ∧ 0 ≤ (wr (v3 + 1)) ∧ (wr (v3 + 1)) < (g 1001 0)
          · rw [if_pos hc] at h
            refine es (1086, [some (.inr (.inr 1000)), some (.inr (.inr 0)), some (.inr (.inr 92)), some (.inl v3)], [.inl (g 1000 (wr (v3 + 1)).toNat), .inr (.inr 0)], g) (if_pos hc) ?_
            refine ev_runs 4 (1086, [some (.inr (.inr 1000)), some (.inr (.inr 0)), some (.inr (.inr 92)), some (.inl v3)], [.inl (g 1000 (wr (v3 + 1)).toNat), .inr (.inr 0)], g) (1090, [some (.inr (.inr 1000)), some (.inr (.inr 0)), some (.inr (.inr 92)), some (.inl v3)], [.inl (wr (v3 + 2)), .inr (.inr 1000), .inl (g 1000 (wr (v3 + 1)).toNat), .inr (.inr 0)], g) rfl ?_
            by_cases hc : (1000 : Nat) = 1000 ∧ 0 ≤ (wr (v3 + 2)) ∧ (wr (v3 + 2)) < (g 1001 0)
            · rw [if_pos hc] at h
              refine es (1091, [some (.inr (.inr 1000)), some (.inr (.inr 0)), some (.inr (.inr 92)), some (.inl v3)], [.inl (g 1000 (wr (v3 + 2)).toNat), .inl (g 1000 (wr (v3 + 1)).toNat), .inr (.inr 0)], g) (if_pos hc) ?_
              obtain ⟨q61, hq, h⟩ := Option.bind_eq_some_iff.mp h
              refine ec 252 1094 [.inr (.inr 0), .inl (g 1000 (wr (v3 + 1)).toNat), .inl (g 1000 (wr (v3 + 2)).toNat)] [] rfl (ev_Op_write (g 1000 (wr (v3 + 1)).toNat) (g 1000 (wr (v3 + 2)).toNat) g q61.1 q61.2 hq) ?_
              show Ev 259 1094 [some (.inr (.inr 1000)), some (.inr (.inr 0)), some (.inr (.inr 92)), some (.inl v3)] [.inl q61.1] q61.2 _ _
              refine ev_runs 5 (1094, [some (.inr (.inr 1000)), some (.inr (.inr 0)), some (.inr (.inr 92)), some (.inl v3)], [.inl q61.1], q61.2) (1099, [some (.inr (.inr 1000)), some (.inr (.inr 0)), some (.inr (.inr 92)), some (.inl v3)], [.inl (wr (v3 + 1)), .inr (.inr 1000), .inr (.inr 92), .inl q61.1], q61.2) rfl ?_
              by_cases hc : (1000 : Nat) = 1000 ∧ 0 ≤ (wr (v3 + 1)) ∧ (wr (v3 + 1)) < (q61.2 1001 0)
              · rw [if_pos hc] at h
                refine es (1100, [some (.inr (.inr 1000)), some (.inr (.inr 0)), some (.inr (.inr 92)), some (.inl v3)], [.inl (q61.2 1000 (wr (v3 + 1)).toNat), .inr (.inr 92), .inl q61.1], q61.2) (if_pos hc) ?_
                refine ev_runs 4 (1100, [some (.inr (.inr 1000)), some (.inr (.inr 0)), some (.inr (.inr 92)), some (.inl v3)], [.inl (q61.2 1000 (wr (v3 + 1)).toNat), .inr (.inr 92), .inl q61.1], q61.2) (1104, [some (.inr (.inr 1000)), some (.inr (.inr 0)), some (.inr (.inr 92)), some (.inl v3)], [.inl (wr (v3 + 2)), .inr (.inr 1000), .inl (q61.2 1000 (wr (v3 + 1)).toNat), .inr (.inr 92), .inl q61.1], q61.2) rfl ?_
                by_cases hc : (1000 : Nat) = 1000 ∧ 0 ≤ (wr (v3 + 2)) ∧ (wr (v3 + 2)) < (q61.2 1001 0)
                · rw [if_pos hc] at h
                  refine es (1105, [some (.inr (.inr 1000)), some (.inr (.inr 0)), some (.inr (.inr 92)), some (.inl v3)], [.inl (q61.2 1000 (wr (v3 + 2)).toNat), .inl (q61.2 1000 (wr (v3 + 1)).toNat), .inr (.inr 92), .inl q61.1], q61.2) (if_pos hc) ?_
                  obtain ⟨q62, hq, h⟩ := Option.bind_eq_some_iff.mp h
                  refine ec 253 1108 [.inr (.inr 92), .inl (q61.2 1000 (wr (v3 + 1)).toNat), .inl (q61.2 1000 (wr (v3 + 2)).toNat)] [.inl q61.1] rfl (ev_Md_write (q61.2 1000 (wr (v3 + 1)).toNat) (q61.2 1000 (wr (v3 + 2)).toNat) q61.2 q62.1 q62.2 hq) ?_
                  show Ev 259 1108 [some (.inr (.inr 1000)), some (.inr (.inr 0)), some (.inr (.inr 92)), some (.inl v3)] [.inl q62.1, .inl q61.1] q62.2 _ _
                  by_cases hc : q61.1 = q62.1
                  · rw [if_pos hc] at h
                    refine es (1150, [some (.inr (.inr 1000)), some (.inr (.inr 0)), some (.inr (.inr 92)), some (.inl v3)], [], q62.2) (congrArg some (if_pos hc)) ?_
                    refine ev_runs 2 (1150, [some (.inr (.inr 1000)), some (.inr (.inr 0)), some (.inr (.inr 92)), some (.inl v3)], [], q62.2) (18, [some (.inr (.inr 1000)), some (.inr (.inr 0)), some (.inr (.inr 92)), some (.inl (wr (v3 + 6)))], [], q62.2) rfl ?_
                    exact ev_le (L := [some (.inr (.inr 1000)), some (.inr (.inr 0)), some (.inr (.inr 92)), some (.inl (wr (v3 + 6)))]) (by simp [Lle]) (ih18 (wr (v3 + 6)) q62.2 r g' h)
                  · rw [if_neg hc] at h
                    refine es (1111, [some (.inr (.inr 1000)), some (.inr (.inr 0)), some (.inr (.inr 92)), some (.inl v3)], [], q62.2) (congrArg some (if_neg hc)) ?_
                    refine ev_runs 1 (1111, [some (.inr (.inr 1000)), some (.inr (.inr 0)), some (.inr (.inr 92)), some (.inl v3)], [], q62.2) (1112, [some (.inr (.inr 1000)), some (.inr (.inr 0)), some (.inr (.inr 92)), some (.inl v3)], [.inl 0], q62.2) rfl ?_
                    cases h
                    exact er rfl
                · rw [if_neg hc] at h; cases h
              · rw [if_neg hc] at h; cases h
            · rw [if_neg hc] at h; cases h
          · rw [if_neg hc] at h; cases h
        rw [if_neg hx30] at h
        by_cases hx31 : (jand (g 1000 v3.toNat) 63) = 31
        · rw [if_pos hx31] at h
          refine ev_sw (tgt := 1113) rfl (by rw [hx31]; rfl) ?_
          show Ev 259 1113 [some (.inr (.inr 1000)), some (.inr (.inr 0)), some (.inr (.inr 92)), some (.inl v3)] [] g _ _
          refine ev_runs 5 (1113, [some (.inr (.inr 1000)), some (.inr (.inr 0)), some (.inr (.inr 92)), some (.inl v3)], [], g) (1118, [some (.inr (.inr 1000)), some (.inr (.inr 0)), some (.inr (.inr 92)), some (.inl v3)], [.inl (wr (v3 + 1)), .inr (.inr 1000), .inr (.inr 0)], g) rfl ?_
          by_cases hc : (1000 : Nat) = 1000 ∧ 0 ≤ (wr (v3 + 1)) ∧ (wr (v3 + 1)) < (g 1001 0)
          · rw [if_pos hc] at h
            refine es (1119, [some (.inr (.inr 1000)), some (.inr (.inr 0)), some (.inr (.inr 92)), some (.inl v3)], [.inl (g 1000 (wr (v3 + 1)).toNat), .inr (.inr 0)], g) (if_pos hc) ?_
            obtain ⟨q63, hq, h⟩ := Option.bind_eq_some_iff.mp h
            refine ec 254 1122 [.inr (.inr 0), .inl (g 1000 (wr (v3 + 1)).toNat)] [] rfl (ev_Op_count (g 1000 (wr (v3 + 1)).toNat) g q63.1 q63.2 hq) ?_
            show Ev 259 1122 [some (.inr (.inr 1000)), some (.inr (.inr 0)), some (.inr (.inr 92)), some (.inl v3)] [.inl q63.1] q63.2 _ _
            refine ev_runs 5 (1122, [some (.inr (.inr 1000)), some (.inr (.inr 0)), some (.inr (.inr 92)), some (.inl v3)], [.inl q63.1], q63.2) (1127, [some (.inr (.inr 1000)), some (.inr (.inr 0)), some (.inr (.inr 92)), some (.inl v3)], [.inl (wr (v3 + 1)), .inr (.inr 1000), .inr (.inr 92), .inl q63.1], q63.2) rfl ?_
            by_cases hc : (1000 : Nat) = 1000 ∧ 0 ≤ (wr (v3 + 1)) ∧ (wr (v3 + 1)) < (q63.2 1001 0)
            · rw [if_pos hc] at h
              refine es (1128, [some (.inr (.inr 1000)), some (.inr (.inr 0)), some (.inr (.inr 92)), some (.inl v3)], [.inl (q63.2 1000 (wr (v3 + 1)).toNat), .inr (.inr 92), .inl q63.1], q63.2) (if_pos hc) ?_
              obtain ⟨q64, hq, h⟩ := Option.bind_eq_some_iff.mp h
              refine ec 255 1131 [.inr (.inr 92), .inl (q63.2 1000 (wr (v3 + 1)).toNat)] [.inl q63.1] rfl (ev_Md_count (q63.2 1000 (wr (v3 + 1)).toNat) q63.2 q64.1 q64.2 hq) ?_
              show Ev 259 1131 [some (.inr (.inr 1000)), some (.inr (.inr 0)), some (.inr (.inr 92)), some (.inl v3)] [.inl q64.1, .inl q63.1] q64.2 _ _
              by_cases hc : q63.1 = q64.1
              · rw [if_pos hc] at h
                refine es (1150, [some (.inr (.inr 1000)), some (.inr (.inr 0)), some (.inr (.inr 92)), some (.inl v3)], [], q64.2) (congrArg some (if_pos hc)) ?_
                refine ev_runs 2 (1150, [some (.inr (.inr 1000)), some (.inr (.inr 0)), some (.inr (.inr 92)), some (.inl v3)], [], q64.2) (18, [some (.inr (.inr 1000)), some (.inr (.inr 0)), some (.inr (.inr 92)), some (.inl (wr (v3 + 6)))], [], q64.2) rfl ?_
                exact ev_le (L := [some (.inr (.inr 1000)), some (.inr (.inr 0)), some (.inr (.inr 92)), some (.inl (wr (v3 + 6)))]) (by simp [Lle]) (ih18 (wr (v3 + 6)) q64.2 r g' h)
              · rw [if_neg hc] at h
                refine es (1134, [some (.inr (.inr 1000)), some (.inr (.inr 0)), some (.inr (.inr 92)), some (.inl v3)], [], q64.2) (congrArg some (if_neg hc)) ?_
                refine ev_runs 1 (1134, [some (.inr (.inr 1000)), some (.inr (.inr 0)), some (.inr (.inr 92)), some (.inl v3)], [], q64.2) (1135, [some (.inr (.inr 1000)), some (.inr (.inr 0)), some (.inr (.inr 92)), some (.inl v3)], [.inl 0], q64.2) rfl ?_
                cases h
                exact er rfl
            · rw [if_neg hc] at h; cases h
          · rw [if_neg hc] at h; cases h
        rw [if_neg hx31] at h
        have hx32 : (jand (g 1000 v3.toNat) 63) = 32 := by omega
        · skip
          refine ev_sw (tgt := 1136) rfl (by rw [hx32]; rfl) ?_
          show Ev 259 1136 [some (.inr (.inr 1000)), some (.inr (.inr 0)), some (.inr (.inr 92)), some (.inl v3)] [] g _ _
          refine ev_runs 1 (1136, [some (.inr (.inr 1000)), some (.inr (.inr 0)), some (.inr (.inr 92)), some (.inl v3)], [], g) (1137, [some (.inr (.inr 1000)), some (.inr (.inr 0)), some (.inr (.inr 92)), some (.inl v3)], [.inr (.inr 0)], g) rfl ?_
          obtain ⟨q65, hq, h⟩ := Option.bind_eq_some_iff.mp h
          refine ec 257 1140 [.inr (.inr 0)] [] rfl (ev_Op_digest g q65.1 q65.2 hq) ?_
          show Ev 259 1140 [some (.inr (.inr 1000)), some (.inr (.inr 0)), some (.inr (.inr 92)), some (.inl v3)] [.inr (.inl q65.1)] q65.2 _ _
          refine ev_runs 1 (1140, [some (.inr (.inr 1000)), some (.inr (.inr 0)), some (.inr (.inr 92)), some (.inl v3)], [.inr (.inl q65.1)], q65.2) (1141, [some (.inr (.inr 1000)), some (.inr (.inr 0)), some (.inr (.inr 92)), some (.inl v3)], [.inr (.inr 92), .inr (.inl q65.1)], q65.2) rfl ?_
          obtain ⟨q66, hq, h⟩ := Option.bind_eq_some_iff.mp h
          refine ec 258 1144 [.inr (.inr 92)] [.inr (.inl q65.1)] rfl (ev_Md_digest q65.2 q66.1 q66.2 hq) ?_
          show Ev 259 1144 [some (.inr (.inr 1000)), some (.inr (.inr 0)), some (.inr (.inr 92)), some (.inl v3)] [.inr (.inl q66.1), .inr (.inl q65.1)] q66.2 _ _
          refine ev_runs 1 (1144, [some (.inr (.inr 1000)), some (.inr (.inr 0)), some (.inr (.inr 92)), some (.inl v3)], [.inr (.inl q66.1), .inr (.inl q65.1)], q66.2) (1145, [some (.inr (.inr 1000)), some (.inr (.inr 0)), some (.inr (.inr 92)), some (.inl v3)], [.inl (mcmp q65.1 q66.1)], q66.2) rfl ?_
          by_cases hc : (mcmp q65.1 q66.1) = 0
          · rw [if_pos hc] at h
            refine es (1150, [some (.inr (.inr 1000)), some (.inr (.inr 0)), some (.inr (.inr 92)), some (.inl v3)], [], q66.2) (congrArg some (if_pos hc)) ?_
            refine ev_runs 2 (1150, [some (.inr (.inr 1000)), some (.inr (.inr 0)), some (.inr (.inr 92)), some (.inl v3)], [], q66.2) (18, [some (.inr (.inr 1000)), some (.inr (.inr 0)), some (.inr (.inr 92)), some (.inl (wr (v3 + 6)))], [], q66.2) rfl ?_
            exact ev_le (L := [some (.inr (.inr 1000)), some (.inr (.inr 0)), some (.inr (.inr 92)), some (.inl (wr (v3 + 6)))]) (by simp [Lle]) (ih18 (wr (v3 + 6)) q66.2 r g' h)
          · rw [if_neg hc] at h
            refine es (1148, [some (.inr (.inr 1000)), some (.inr (.inr 0)), some (.inr (.inr 92)), some (.inl v3)], [], q66.2) (congrArg some (if_neg hc)) ?_
            refine ev_runs 1 (1148, [some (.inr (.inr 1000)), some (.inr (.inr 0)), some (.inr (.inr 92)), some (.inl v3)], [], q66.2) (1149, [some (.inr (.inr 1000)), some (.inr (.inr 0)), some (.inr (.inr 92)), some (.inl v3)], [.inl 0], q66.2) rfl ?_
            cases h
            exact er rfl
      · rw [if_neg hc] at h; cases h
set_option maxRecDepth 100000 in
set_option maxHeartbeats 4000000 in
theorem ev_Law_law (g : Gx) (r : Int) (g' : Gx) (h : Law_law g = some (r, g')) : Ev 259 16 [some (.inr (.inr 1000)), some (.inr (.inr 0)), some (.inr (.inr 92)), none] [] g (some (.inl r)) g' := by
  rw [Law_law] at h
  refine ev_runs 2 (16, [some (.inr (.inr 1000)), some (.inr (.inr 0)), some (.inr (.inr 92)), none], [], g) (18, [some (.inr (.inr 1000)), some (.inr (.inr 0)), some (.inr (.inr 92)), some (.inl 0)], [], g) rfl ?_
  refine ev_le (L := [some (.inr (.inr 1000)), some (.inr (.inr 0)), some (.inr (.inr 92)), some (.inl 0)]) (by simp [Lle]) ?_
  refine ev_Law_law_l18 _ ?_ fu 0 g r g' h
  · intro g67 r g' h
    refine ev_runs 1 (1156, [none, none, none, none], [], g67) (1157, [none, none, none, none], [.inl 1], g67) rfl ?_
    cases h
    exact er rfl
