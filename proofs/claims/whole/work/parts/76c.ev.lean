/-! The small machine does what the functions say. Printed by wip/gen/gen_parts.py. -/
set_option maxRecDepth 100000 in
set_option maxHeartbeats 4000000 in
theorem ev_St_isTooMuch_l182 (c1 : Int) (c2 : Int) (c3 : Int) (K182_226 : Gx → Option (Int × Gx)) (hK182_226 : ∀ (g : Gx) (r : Int) (g' : Gx), K182_226 g = some (r, g') → Ev 60 226 [some (.inr (.inr 7)), some (.inl c1), some (.inl c2), some (.inl c3), none, none] [] g (some (.inl r)) g') : ∀ (n182 : Nat) (v5 : Int) (g : Gx) (r : Int) (g' : Gx), St_isTooMuch_l182 c1 c2 c3 K182_226 n182 v5 g = some (r, g') → Ev 60 182 [some (.inr (.inr 7)), some (.inl c1), some (.inl c2), some (.inl c3), none, some (.inl v5)] [] g (some (.inl r)) g' := by
  intro n182
  induction n182 with
  | zero => intro v5 g r g' h; cases h
  | succ n182 ih182 =>
    intro v5 g r g' h
    rw [St_isTooMuch_l182] at h
    refine ev_runs 4 (182, [some (.inr (.inr 7)), some (.inl c1), some (.inl c2), some (.inl c3), none, some (.inl v5)], [], g) (189, [some (.inr (.inr 7)), some (.inl c1), some (.inl c2), some (.inl c3), none, some (.inl v5)], [.inl c3, .inr (.inr 10), .inl v5], g) rfl ?_
    refine ec 13 192 [.inr (.inr 10), .inl c3] [.inl v5] rfl (ev_Row_at rfl rfl _ _) ?_
    show Ev 60 192 [some (.inr (.inr 7)), some (.inl c1), some (.inl c2), some (.inl c3), none, some (.inl v5)] [.inl (rat g 11 160 c3), .inl v5] g _ _
    by_cases hc : (rat g 11 160 c3) ≤ v5
    · rw [if_pos hc] at h
      refine es (226, [some (.inr (.inr 7)), some (.inl c1), some (.inl c2), some (.inl c3), none, some (.inl v5)], [], g) (congrArg some (if_pos hc)) ?_
      exact ev_le (L := [some (.inr (.inr 7)), some (.inl c1), some (.inl c2), some (.inl c3), none, none]) (by simp [Lle]) (hK182_226 g r g' h)
    · rw [if_neg hc] at h
      refine es (195, [some (.inr (.inr 7)), some (.inl c1), some (.inl c2), some (.inl c3), none, some (.inl v5)], [], g) (congrArg some (if_neg hc)) ?_
      refine ev_runs 7 (195, [some (.inr (.inr 7)), some (.inl c1), some (.inl c2), some (.inl c3), none, some (.inl v5)], [], g) (204, [some (.inr (.inr 7)), some (.inl c1), some (.inl c2), some (.inl c3), none, some (.inl v5)], [.inl (wr (c2 + 1)), .inr (.inr 20), .inl c2, .inr (.inr 7)], g) rfl ?_
      refine ec 13 207 [.inr (.inr 20), .inl (wr (c2 + 1))] [.inl c2, .inr (.inr 7)] rfl (ev_Row_at rfl rfl _ _) ?_
      show Ev 60 207 [some (.inr (.inr 7)), some (.inl c1), some (.inl c2), some (.inl c3), none, some (.inl v5)] [.inl (rat g 21 5 (wr (c2 + 1))), .inl c2, .inr (.inr 7)] g _ _
      refine ev_runs 5 (207, [some (.inr (.inr 7)), some (.inl c1), some (.inl c2), some (.inl c3), none, some (.inl v5)], [.inl (rat g 21 5 (wr (c2 + 1))), .inl c2, .inr (.inr 7)], g) (214, [some (.inr (.inr 7)), some (.inl c1), some (.inl c2), some (.inl c3), none, some (.inl v5)], [.inl (wr (c2 + 1)), .inr (.inr 22), .inl (rat g 21 5 (wr (c2 + 1))), .inl c2, .inr (.inr 7)], g) rfl ?_
      refine ec 13 217 [.inr (.inr 22), .inl (wr (c2 + 1))] [.inl (rat g 21 5 (wr (c2 + 1))), .inl c2, .inr (.inr 7)] rfl (ev_Row_at rfl rfl _ _) ?_
      show Ev 60 217 [some (.inr (.inr 7)), some (.inl c1), some (.inl c2), some (.inl c3), none, some (.inl v5)] [.inl (rat g 23 5 (wr (c2 + 1))), .inl (rat g 21 5 (wr (c2 + 1))), .inl c2, .inr (.inr 7)] g _ _
      obtain ⟨g3, hq, h⟩ := lett_inv h
      refine ec 59 220 [.inr (.inr 7), .inl c2, .inl (rat g 21 5 (wr (c2 + 1))), .inl (rat g 23 5 (wr (c2 + 1)))] [] rfl (ev_St_addItem c2 (rat g 21 5 (wr (c2 + 1))) (rat g 23 5 (wr (c2 + 1))) g g3 hq.symm) ?_
      show Ev 60 220 [some (.inr (.inr 7)), some (.inl c1), some (.inl c2), some (.inl c3), none, some (.inl v5)] [] g3 _ _
      refine ev_runs 2 (220, [some (.inr (.inr 7)), some (.inl c1), some (.inl c2), some (.inl c3), none, some (.inl v5)], [], g3) (182, [some (.inr (.inr 7)), some (.inl c1), some (.inl c2), some (.inl c3), none, some (.inl (wr (v5 + 1)))], [], g3) rfl ?_
      exact ev_le (L := [some (.inr (.inr 7)), some (.inl c1), some (.inl c2), some (.inl c3), none, some (.inl (wr (v5 + 1)))]) (by simp [Lle]) (ih182 (wr (v5 + 1)) g3 r g' h)
set_option maxRecDepth 100000 in
set_option maxHeartbeats 4000000 in
theorem ev_St_isTooMuch_l9 (c1 : Int) (K9_232 : Gx → Option (Int × Gx)) (hK9_232 : ∀ (g : Gx) (r : Int) (g' : Gx), K9_232 g = some (r, g') → Ev 60 232 [some (.inr (.inr 7)), none, none, none, none, none] [] g (some (.inl r)) g') : ∀ (n9 : Nat) (v2 v3 : Int) (g : Gx) (r : Int) (g' : Gx), St_isTooMuch_l9 c1 K9_232 n9 v2 v3 g = some (r, g') → Ev 60 9 [some (.inr (.inr 7)), some (.inl c1), some (.inl v2), some (.inl v3), none, none] [] g (some (.inl r)) g' := by
  intro n9
  induction n9 with
  | zero => intro v2 v3 g r g' h; cases h
  | succ n9 ih9 =>
    intro v2 v3 g r g' h
    rw [St_isTooMuch_l9] at h
    refine ev_runs 3 (9, [some (.inr (.inr 7)), some (.inl c1), some (.inl v2), some (.inl v3), none, none], [], g) (14, [some (.inr (.inr 7)), some (.inl c1), some (.inl v2), some (.inl v3), none, none], [.inl (g 7 10), .inl v3], g) rfl ?_
    by_cases hc : (g 7 10) ≤ v3
    · rw [if_pos hc] at h
      refine es (232, [some (.inr (.inr 7)), some (.inl c1), some (.inl v2), some (.inl v3), none, none], [], g) (congrArg some (if_pos hc)) ?_
      exact ev_le (L := [some (.inr (.inr 7)), none, none, none, none, none]) (by simp [Lle]) (hK9_232 g r g' h)
    · rw [if_neg hc] at h
      refine es (17, [some (.inr (.inr 7)), some (.inl c1), some (.inl v2), some (.inl v3), none, none], [], g) (congrArg some (if_neg hc)) ?_
      refine ev_runs 3 (17, [some (.inr (.inr 7)), some (.inl c1), some (.inl v2), some (.inl v3), none, none], [], g) (22, [some (.inr (.inr 7)), some (.inl c1), some (.inl v2), some (.inl v3), none, none], [.inl v3, .inr (.inr 8)], g) rfl ?_
      refine ec 13 25 [.inr (.inr 8), .inl v3] [] rfl (ev_Row_at rfl rfl _ _) ?_
      show Ev 60 25 [some (.inr (.inr 7)), some (.inl c1), some (.inl v2), some (.inl v3), none, none] [.inl (rat g 9 160 v3)] g _ _
      refine ev_runs 2 (25, [some (.inr (.inr 7)), some (.inl c1), some (.inl v2), some (.inl v3), none, none], [.inl (rat g 9 160 v3)], g) (29, [some (.inr (.inr 7)), some (.inl c1), some (.inl v2), some (.inl v3), some (.inl (rat g 9 160 v3)), none], [.inl (rat g 9 160 v3)], g) rfl ?_
      by_cases hc : ¬ (rat g 9 160 v3) = 0
      · rw [if_pos hc] at h
        refine es (58, [some (.inr (.inr 7)), some (.inl c1), some (.inl v2), some (.inl v3), some (.inl (rat g 9 160 v3)), none], [], g) (congrArg some (if_pos hc)) ?_
        refine ev_runs 2 (58, [some (.inr (.inr 7)), some (.inl c1), some (.inl v2), some (.inl v3), some (.inl (rat g 9 160 v3)), none], [], g) (61, [some (.inr (.inr 7)), some (.inl c1), some (.inl v2), some (.inl v3), some (.inl (rat g 9 160 v3)), none], [.inl 1, .inl (rat g 9 160 v3)], g) rfl ?_
        by_cases hc : (rat g 9 160 v3) = 1
        · rw [if_pos hc] at h
          refine es (70, [some (.inr (.inr 7)), some (.inl c1), some (.inl v2), some (.inl v3), some (.inl (rat g 9 160 v3)), none], [], g) (congrArg some (if_pos hc)) ?_
          refine ev_runs 3 (70, [some (.inr (.inr 7)), some (.inl c1), some (.inl v2), some (.inl v3), some (.inl (rat g 9 160 v3)), none], [], g) (75, [some (.inr (.inr 7)), some (.inl c1), some (.inl (wr (v2 + 1))), some (.inl v3), some (.inl (rat g 9 160 v3)), none], [.inl (wr (v2 + 1)), .inr (.inr 7)], g) rfl ?_
          obtain ⟨g2, hq, h⟩ := lett_inv h
          refine ec 54 78 [.inr (.inr 7), .inl (wr (v2 + 1))] [] rfl (ev_St_beginItems (wr (v2 + 1)) g g2 hq.symm) ?_
          show Ev 60 78 [some (.inr (.inr 7)), some (.inl c1), some (.inl (wr (v2 + 1))), some (.inl v3), some (.inl (rat g 9 160 v3)), none] [] g2 _ _
          refine ev_runs 4 (78, [some (.inr (.inr 7)), some (.inl c1), some (.inl (wr (v2 + 1))), some (.inl v3), some (.inl (rat g 9 160 v3)), none], [], g2) (84, [some (.inr (.inr 7)), some (.inl c1), some (.inl (wr (v2 + 1))), some (.inl v3), some (.inl (rat g 9 160 v3)), none], [.inl 0, .inl (wr (v2 + 1)), .inr (.inr 24)], g2) rfl ?_
          refine ec 0 87 [.inr (.inr 24), .inl (wr (v2 + 1)), .inl 0] [] rfl (ev_Row_set rfl rfl _ _ _) ?_
          show Ev 60 87 [some (.inr (.inr 7)), some (.inl c1), some (.inl (wr (v2 + 1))), some (.inl v3), some (.inl (rat g 9 160 v3)), none] [] (rset g2 25 5 (wr (v2 + 1)) 0) _ _
          refine ev_runs 4 (87, [some (.inr (.inr 7)), some (.inl c1), some (.inl (wr (v2 + 1))), some (.inl v3), some (.inl (rat g 9 160 v3)), none], [], (rset g2 25 5 (wr (v2 + 1)) 0)) (93, [some (.inr (.inr 7)), some (.inl c1), some (.inl (wr (v2 + 1))), some (.inl v3), some (.inl (rat g 9 160 v3)), none], [.inl 0, .inl (wr (v2 + 1)), .inr (.inr 26)], (rset g2 25 5 (wr (v2 + 1)) 0)) rfl ?_
          refine ec 0 96 [.inr (.inr 26), .inl (wr (v2 + 1)), .inl 0] [] rfl (ev_Row_set rfl rfl _ _ _) ?_
          show Ev 60 96 [some (.inr (.inr 7)), some (.inl c1), some (.inl (wr (v2 + 1))), some (.inl v3), some (.inl (rat g 9 160 v3)), none] [] (rset (rset g2 25 5 (wr (v2 + 1)) 0) 27 5 (wr (v2 + 1)) 0) _ _
          refine ev_runs 3 (96, [some (.inr (.inr 7)), some (.inl c1), some (.inl (wr (v2 + 1))), some (.inl v3), some (.inl (rat g 9 160 v3)), none], [], (rset (rset g2 25 5 (wr (v2 + 1)) 0) 27 5 (wr (v2 + 1)) 0)) (9, [some (.inr (.inr 7)), some (.inl c1), some (.inl (wr (v2 + 1))), some (.inl (wr (v3 + 1))), some (.inl (rat g 9 160 v3)), none], [], (rset (rset g2 25 5 (wr (v2 + 1)) 0) 27 5 (wr (v2 + 1)) 0)) rfl ?_
          exact ev_le (L := [some (.inr (.inr 7)), some (.inl c1), some (.inl (wr (v2 + 1))), some (.inl (wr (v3 + 1))), none, none]) (by simp [Lle]) (ih9 (wr (v2 + 1)) (wr (v3 + 1)) (rset (rset g2 25 5 (wr (v2 + 1)) 0) 27 5 (wr (v2 + 1)) 0) r g' h)
        · rw [if_neg hc] at h
          refine es (64, [some (.inr (.inr 7)), some (.inl c1), some (.inl v2), some (.inl v3), some (.inl (rat g 9 160 v3)), none], [], g) (congrArg some (if_neg hc)) ?_
          refine ev_runs 2 (64, [some (.inr (.inr 7)), some (.inl c1), some (.inl v2), some (.inl v3), some (.inl (rat g 9 160 v3)), none], [], g) (67, [some (.inr (.inr 7)), some (.inl c1), some (.inl v2), some (.inl v3), some (.inl (rat g 9 160 v3)), none], [.inl 4, .inl (rat g 9 160 v3)], g) rfl ?_
          by_cases hc : ¬ (rat g 9 160 v3) = 4
          · rw [if_pos hc] at h
            refine es (99, [some (.inr (.inr 7)), some (.inl c1), some (.inl v2), some (.inl v3), some (.inl (rat g 9 160 v3)), none], [], g) (congrArg some (if_pos hc)) ?_
            refine ev_runs 2 (99, [some (.inr (.inr 7)), some (.inl c1), some (.inl v2), some (.inl v3), some (.inl (rat g 9 160 v3)), none], [], g) (102, [some (.inr (.inr 7)), some (.inl c1), some (.inl v2), some (.inl v3), some (.inl (rat g 9 160 v3)), none], [.inl 2, .inl (rat g 9 160 v3)], g) rfl ?_
            by_cases hc : ¬ (rat g 9 160 v3) = 2
            · rw [if_pos hc] at h
              refine es (113, [some (.inr (.inr 7)), some (.inl c1), some (.inl v2), some (.inl v3), some (.inl (rat g 9 160 v3)), none], [], g) (congrArg some (if_pos hc)) ?_
              refine ev_runs 2 (113, [some (.inr (.inr 7)), some (.inl c1), some (.inl v2), some (.inl v3), some (.inl (rat g 9 160 v3)), none], [], g) (116, [some (.inr (.inr 7)), some (.inl c1), some (.inl v2), some (.inl v3), some (.inl (rat g 9 160 v3)), none], [.inl 3, .inl (rat g 9 160 v3)], g) rfl ?_
              by_cases hc : ¬ (rat g 9 160 v3) = 3
              · rw [if_pos hc] at h
                refine es (176, [some (.inr (.inr 7)), some (.inl c1), some (.inl v2), some (.inl v3), some (.inl (rat g 9 160 v3)), none], [], g) (congrArg some (if_pos hc)) ?_
                refine ev_runs 3 (176, [some (.inr (.inr 7)), some (.inl c1), some (.inl v2), some (.inl v3), some (.inl (rat g 9 160 v3)), none], [], g) (182, [some (.inr (.inr 7)), some (.inl c1), some (.inl (wr (v2 + (-1)))), some (.inl v3), some (.inl (rat g 9 160 v3)), some (.inl 0)], [], g) rfl ?_
                refine ev_le (L := [some (.inr (.inr 7)), some (.inl c1), some (.inl (wr (v2 + (-1)))), some (.inl v3), none, some (.inl 0)]) (by simp [Lle]) ?_
                refine ev_St_isTooMuch_l182 c1 (wr (v2 + (-1))) v3 _ ?_ fu 0 g r g' h
                · intro g4 r g' h
                  refine ev_runs 2 (226, [some (.inr (.inr 7)), some (.inl c1), some (.inl (wr (v2 + (-1)))), some (.inl v3), none, none], [], g4) (9, [some (.inr (.inr 7)), some (.inl c1), some (.inl (wr (v2 + (-1)))), some (.inl (wr (v3 + 1))), none, none], [], g4) rfl ?_
                  exact ev_le (L := [some (.inr (.inr 7)), some (.inl c1), some (.inl (wr (v2 + (-1)))), some (.inl (wr (v3 + 1))), none, none]) (by simp [Lle]) (ih9 (wr (v2 + (-1))) (wr (v3 + 1)) g4 r g' h)
              · rw [if_neg hc] at h
                refine es (119, [some (.inr (.inr 7)), some (.inl c1), some (.inl v2), some (.inl v3), some (.inl (rat g 9 160 v3)), none], [], g) (congrArg some (if_neg hc)) ?_
                refine ev_runs 2 (119, [some (.inr (.inr 7)), some (.inl c1), some (.inl v2), some (.inl v3), some (.inl (rat g 9 160 v3)), none], [], g) (121, [some (.inr (.inr 7)), some (.inl c1), some (.inl v2), some (.inl v3), some (.inl (rat g 9 160 v3)), none], [.inl v2, .inr (.inr 7)], g) rfl ?_
                obtain ⟨g5, hq, h⟩ := lett_inv h
                refine ec 56 124 [.inr (.inr 7), .inl v2] [] rfl (ev_St_endWay v2 g g5 hq.symm) ?_
                show Ev 60 124 [some (.inr (.inr 7)), some (.inl c1), some (.inl v2), some (.inl v3), some (.inl (rat g 9 160 v3)), none] [] g5 _ _
                refine ev_runs 5 (124, [some (.inr (.inr 7)), some (.inl c1), some (.inl v2), some (.inl v3), some (.inl (rat g 9 160 v3)), none], [], g5) (133, [some (.inr (.inr 7)), some (.inl c1), some (.inl (wr (v2 + (-1)))), some (.inl v3), some (.inl (rat g 9 160 v3)), none], [.inl v3, .inr (.inr 10), .inr (.inr 7)], g5) rfl ?_
                refine ec 13 136 [.inr (.inr 10), .inl v3] [.inr (.inr 7)] rfl (ev_Row_at rfl rfl _ _) ?_
                show Ev 60 136 [some (.inr (.inr 7)), some (.inl c1), some (.inl (wr (v2 + (-1)))), some (.inl v3), some (.inl (rat g 9 160 v3)), none] [.inl (rat g5 11 160 v3), .inr (.inr 7)] g5 _ _
                refine ev_runs 1 (136, [some (.inr (.inr 7)), some (.inl c1), some (.inl (wr (v2 + (-1)))), some (.inl v3), some (.inl (rat g 9 160 v3)), none], [.inl (rat g5 11 160 v3), .inr (.inr 7)], g5) (137, [some (.inr (.inr 7)), some (.inl c1), some (.inl (wr (v2 + (-1)))), some (.inl v3), some (.inl (rat g 9 160 v3)), none], [.inl c1, .inl (rat g5 11 160 v3), .inr (.inr 7)], g5) rfl ?_
                refine ec 57 140 [.inr (.inr 7), .inl (rat g5 11 160 v3), .inl c1] [] rfl (ev_St_toldOf (rat g5 11 160 v3) c1 g5 _ rfl) ?_
                show Ev 60 140 [some (.inr (.inr 7)), some (.inl c1), some (.inl (wr (v2 + (-1)))), some (.inl v3), some (.inl (rat g 9 160 v3)), none] [.inl (St_toldOf (rat g5 11 160 v3) c1 g5)] g5 _ _
                refine ec 58 143 [.inl (St_toldOf (rat g5 11 160 v3) c1 g5)] [] rfl (ev_Ji_bitCount (St_toldOf (rat g5 11 160 v3) c1 g5) g5 _ rfl) ?_
                show Ev 60 143 [some (.inr (.inr 7)), some (.inl c1), some (.inl (wr (v2 + (-1)))), some (.inl v3), some (.inl (rat g 9 160 v3)), none] [.inl (Ji_bitCount (St_toldOf (rat g5 11 160 v3) c1 g5))] g5 _ _
                refine ev_runs 8 (143, [some (.inr (.inr 7)), some (.inl c1), some (.inl (wr (v2 + (-1)))), some (.inl v3), some (.inl (rat g 9 160 v3)), none], [.inl (Ji_bitCount (St_toldOf (rat g5 11 160 v3) c1 g5))], g5) (154, [some (.inr (.inr 7)), some (.inl c1), some (.inl (wr (v2 + (-1)))), some (.inl v3), some (.inl (rat g 9 160 v3)), some (.inl (Ji_bitCount (St_toldOf (rat g5 11 160 v3) c1 g5)))], [.inl (wr ((wr (v2 + (-1))) + 1)), .inr (.inr 24), .inl (wr (v2 + (-1))), .inr (.inr 7)], g5) rfl ?_
                refine ec 13 157 [.inr (.inr 24), .inl (wr ((wr (v2 + (-1))) + 1))] [.inl (wr (v2 + (-1))), .inr (.inr 7)] rfl (ev_Row_at rfl rfl _ _) ?_
                show Ev 60 157 [some (.inr (.inr 7)), some (.inl c1), some (.inl (wr (v2 + (-1)))), some (.inl v3), some (.inl (rat g 9 160 v3)), some (.inl (Ji_bitCount (St_toldOf (rat g5 11 160 v3) c1 g5)))] [.inl (rat g5 25 5 (wr ((wr (v2 + (-1))) + 1))), .inl (wr (v2 + (-1))), .inr (.inr 7)] g5 _ _
                refine ev_runs 5 (157, [some (.inr (.inr 7)), some (.inl c1), some (.inl (wr (v2 + (-1)))), some (.inl v3), some (.inl (rat g 9 160 v3)), some (.inl (Ji_bitCount (St_toldOf (rat g5 11 160 v3) c1 g5)))], [.inl (rat g5 25 5 (wr ((wr (v2 + (-1))) + 1))), .inl (wr (v2 + (-1))), .inr (.inr 7)], g5) (164, [some (.inr (.inr 7)), some (.inl c1), some (.inl (wr (v2 + (-1)))), some (.inl v3), some (.inl (rat g 9 160 v3)), some (.inl (Ji_bitCount (St_toldOf (rat g5 11 160 v3) c1 g5)))], [.inl (wr ((wr (v2 + (-1))) + 1)), .inr (.inr 26), .inl (rat g5 25 5 (wr ((wr (v2 + (-1))) + 1))), .inl (wr (v2 + (-1))), .inr (.inr 7)], g5) rfl ?_
                refine ec 13 167 [.inr (.inr 26), .inl (wr ((wr (v2 + (-1))) + 1))] [.inl (rat g5 25 5 (wr ((wr (v2 + (-1))) + 1))), .inl (wr (v2 + (-1))), .inr (.inr 7)] rfl (ev_Row_at rfl rfl _ _) ?_
                show Ev 60 167 [some (.inr (.inr 7)), some (.inl c1), some (.inl (wr (v2 + (-1)))), some (.inl v3), some (.inl (rat g 9 160 v3)), some (.inl (Ji_bitCount (St_toldOf (rat g5 11 160 v3) c1 g5)))] [.inl (rat g5 27 5 (wr ((wr (v2 + (-1))) + 1))), .inl (rat g5 25 5 (wr ((wr (v2 + (-1))) + 1))), .inl (wr (v2 + (-1))), .inr (.inr 7)] g5 _ _
                refine ev_runs 2 (167, [some (.inr (.inr 7)), some (.inl c1), some (.inl (wr (v2 + (-1)))), some (.inl v3), some (.inl (rat g 9 160 v3)), some (.inl (Ji_bitCount (St_toldOf (rat g5 11 160 v3) c1 g5)))], [.inl (rat g5 27 5 (wr ((wr (v2 + (-1))) + 1))), .inl (rat g5 25 5 (wr ((wr (v2 + (-1))) + 1))), .inl (wr (v2 + (-1))), .inr (.inr 7)], g5) (170, [some (.inr (.inr 7)), some (.inl c1), some (.inl (wr (v2 + (-1)))), some (.inl v3), some (.inl (rat g 9 160 v3)), some (.inl (Ji_bitCount (St_toldOf (rat g5 11 160 v3) c1 g5)))], [.inl (wr ((rat g5 27 5 (wr ((wr (v2 + (-1))) + 1))) + (Ji_bitCount (St_toldOf (rat g5 11 160 v3) c1 g5)))), .inl (rat g5 25 5 (wr ((wr (v2 + (-1))) + 1))), .inl (wr (v2 + (-1))), .inr (.inr 7)], g5) rfl ?_
                obtain ⟨g6, hq, h⟩ := lett_inv h
                refine ec 59 173 [.inr (.inr 7), .inl (wr (v2 + (-1))), .inl (rat g5 25 5 (wr ((wr (v2 + (-1))) + 1))), .inl (wr ((rat g5 27 5 (wr ((wr (v2 + (-1))) + 1))) + (Ji_bitCount (St_toldOf (rat g5 11 160 v3) c1 g5))))] [] rfl (ev_St_addItem (wr (v2 + (-1))) (rat g5 25 5 (wr ((wr (v2 + (-1))) + 1))) (wr ((rat g5 27 5 (wr ((wr (v2 + (-1))) + 1))) + (Ji_bitCount (St_toldOf (rat g5 11 160 v3) c1 g5)))) g5 g6 hq.symm) ?_
                show Ev 60 173 [some (.inr (.inr 7)), some (.inl c1), some (.inl (wr (v2 + (-1)))), some (.inl v3), some (.inl (rat g 9 160 v3)), some (.inl (Ji_bitCount (St_toldOf (rat g5 11 160 v3) c1 g5)))] [] g6 _ _
                refine ev_runs 3 (173, [some (.inr (.inr 7)), some (.inl c1), some (.inl (wr (v2 + (-1)))), some (.inl v3), some (.inl (rat g 9 160 v3)), some (.inl (Ji_bitCount (St_toldOf (rat g5 11 160 v3) c1 g5)))], [], g6) (9, [some (.inr (.inr 7)), some (.inl c1), some (.inl (wr (v2 + (-1)))), some (.inl (wr (v3 + 1))), some (.inl (rat g 9 160 v3)), some (.inl (Ji_bitCount (St_toldOf (rat g5 11 160 v3) c1 g5)))], [], g6) rfl ?_
                exact ev_le (L := [some (.inr (.inr 7)), some (.inl c1), some (.inl (wr (v2 + (-1)))), some (.inl (wr (v3 + 1))), none, none]) (by simp [Lle]) (ih9 (wr (v2 + (-1))) (wr (v3 + 1)) g6 r g' h)
            · rw [if_neg hc] at h
              refine es (105, [some (.inr (.inr 7)), some (.inl c1), some (.inl v2), some (.inl v3), some (.inl (rat g 9 160 v3)), none], [], g) (congrArg some (if_neg hc)) ?_
              refine ev_runs 2 (105, [some (.inr (.inr 7)), some (.inl c1), some (.inl v2), some (.inl v3), some (.inl (rat g 9 160 v3)), none], [], g) (107, [some (.inr (.inr 7)), some (.inl c1), some (.inl v2), some (.inl v3), some (.inl (rat g 9 160 v3)), none], [.inl v2, .inr (.inr 7)], g) rfl ?_
              obtain ⟨g7, hq, h⟩ := lett_inv h
              refine ec 56 110 [.inr (.inr 7), .inl v2] [] rfl (ev_St_endWay v2 g g7 hq.symm) ?_
              show Ev 60 110 [some (.inr (.inr 7)), some (.inl c1), some (.inl v2), some (.inl v3), some (.inl (rat g 9 160 v3)), none] [] g7 _ _
              refine ev_runs 3 (110, [some (.inr (.inr 7)), some (.inl c1), some (.inl v2), some (.inl v3), some (.inl (rat g 9 160 v3)), none], [], g7) (9, [some (.inr (.inr 7)), some (.inl c1), some (.inl v2), some (.inl (wr (v3 + 1))), some (.inl (rat g 9 160 v3)), none], [], g7) rfl ?_
              exact ev_le (L := [some (.inr (.inr 7)), some (.inl c1), some (.inl v2), some (.inl (wr (v3 + 1))), none, none]) (by simp [Lle]) (ih9 v2 (wr (v3 + 1)) g7 r g' h)
          · rw [if_neg hc] at h
            refine es (70, [some (.inr (.inr 7)), some (.inl c1), some (.inl v2), some (.inl v3), some (.inl (rat g 9 160 v3)), none], [], g) (congrArg some (if_neg hc)) ?_
            refine ev_runs 3 (70, [some (.inr (.inr 7)), some (.inl c1), some (.inl v2), some (.inl v3), some (.inl (rat g 9 160 v3)), none], [], g) (75, [some (.inr (.inr 7)), some (.inl c1), some (.inl (wr (v2 + 1))), some (.inl v3), some (.inl (rat g 9 160 v3)), none], [.inl (wr (v2 + 1)), .inr (.inr 7)], g) rfl ?_
            obtain ⟨g8, hq, h⟩ := lett_inv h
            refine ec 54 78 [.inr (.inr 7), .inl (wr (v2 + 1))] [] rfl (ev_St_beginItems (wr (v2 + 1)) g g8 hq.symm) ?_
            show Ev 60 78 [some (.inr (.inr 7)), some (.inl c1), some (.inl (wr (v2 + 1))), some (.inl v3), some (.inl (rat g 9 160 v3)), none] [] g8 _ _
            refine ev_runs 4 (78, [some (.inr (.inr 7)), some (.inl c1), some (.inl (wr (v2 + 1))), some (.inl v3), some (.inl (rat g 9 160 v3)), none], [], g8) (84, [some (.inr (.inr 7)), some (.inl c1), some (.inl (wr (v2 + 1))), some (.inl v3), some (.inl (rat g 9 160 v3)), none], [.inl 0, .inl (wr (v2 + 1)), .inr (.inr 24)], g8) rfl ?_
            refine ec 0 87 [.inr (.inr 24), .inl (wr (v2 + 1)), .inl 0] [] rfl (ev_Row_set rfl rfl _ _ _) ?_
            show Ev 60 87 [some (.inr (.inr 7)), some (.inl c1), some (.inl (wr (v2 + 1))), some (.inl v3), some (.inl (rat g 9 160 v3)), none] [] (rset g8 25 5 (wr (v2 + 1)) 0) _ _
            refine ev_runs 4 (87, [some (.inr (.inr 7)), some (.inl c1), some (.inl (wr (v2 + 1))), some (.inl v3), some (.inl (rat g 9 160 v3)), none], [], (rset g8 25 5 (wr (v2 + 1)) 0)) (93, [some (.inr (.inr 7)), some (.inl c1), some (.inl (wr (v2 + 1))), some (.inl v3), some (.inl (rat g 9 160 v3)), none], [.inl 0, .inl (wr (v2 + 1)), .inr (.inr 26)], (rset g8 25 5 (wr (v2 + 1)) 0)) rfl ?_
            refine ec 0 96 [.inr (.inr 26), .inl (wr (v2 + 1)), .inl 0] [] rfl (ev_Row_set rfl rfl _ _ _) ?_
            show Ev 60 96 [some (.inr (.inr 7)), some (.inl c1), some (.inl (wr (v2 + 1))), some (.inl v3), some (.inl (rat g 9 160 v3)), none] [] (rset (rset g8 25 5 (wr (v2 + 1)) 0) 27 5 (wr (v2 + 1)) 0) _ _
            refine ev_runs 3 (96, [some (.inr (.inr 7)), some (.inl c1), some (.inl (wr (v2 + 1))), some (.inl v3), some (.inl (rat g 9 160 v3)), none], [], (rset (rset g8 25 5 (wr (v2 + 1)) 0) 27 5 (wr (v2 + 1)) 0)) (9, [some (.inr (.inr 7)), some (.inl c1), some (.inl (wr (v2 + 1))), some (.inl (wr (v3 + 1))), some (.inl (rat g 9 160 v3)), none], [], (rset (rset g8 25 5 (wr (v2 + 1)) 0) 27 5 (wr (v2 + 1)) 0)) rfl ?_
            exact ev_le (L := [some (.inr (.inr 7)), some (.inl c1), some (.inl (wr (v2 + 1))), some (.inl (wr (v3 + 1))), none, none]) (by simp [Lle]) (ih9 (wr (v2 + 1)) (wr (v3 + 1)) (rset (rset g8 25 5 (wr (v2 + 1)) 0) 27 5 (wr (v2 + 1)) 0) r g' h)
      · rw [if_neg hc] at h
        refine es (32, [some (.inr (.inr 7)), some (.inl c1), some (.inl v2), some (.inl v3), some (.inl (rat g 9 160 v3)), none], [], g) (congrArg some (if_neg hc)) ?_
        refine ev_runs 7 (32, [some (.inr (.inr 7)), some (.inl c1), some (.inl v2), some (.inl v3), some (.inl (rat g 9 160 v3)), none], [], g) (44, [some (.inr (.inr 7)), some (.inl c1), some (.inl v2), some (.inl v3), some (.inl (rat g 9 160 v3)), none], [.inl v2, .inr (.inr 22), .inl 25, .inl v2, .inr (.inr 22)], g) rfl ?_
        refine ec 13 47 [.inr (.inr 22), .inl v2] [.inl 25, .inl v2, .inr (.inr 22)] rfl (ev_Row_at rfl rfl _ _) ?_
        show Ev 60 47 [some (.inr (.inr 7)), some (.inl c1), some (.inl v2), some (.inl v3), some (.inl (rat g 9 160 v3)), none] [.inl (rat g 23 5 v2), .inl 25, .inl v2, .inr (.inr 22)] g _ _
        refine ev_runs 2 (47, [some (.inr (.inr 7)), some (.inl c1), some (.inl v2), some (.inl v3), some (.inl (rat g 9 160 v3)), none], [.inl (rat g 23 5 v2), .inl 25, .inl v2, .inr (.inr 22)], g) (49, [some (.inr (.inr 7)), some (.inl c1), some (.inl v2), some (.inl v3), some (.inl (rat g 9 160 v3)), none], [.inl (wr ((rat g 23 5 v2) + 1)), .inl 25, .inl v2, .inr (.inr 22)], g) rfl ?_
        refine ec 55 52 [.inl 25, .inl (wr ((rat g 23 5 v2) + 1))] [.inl v2, .inr (.inr 22)] rfl (ev_St_upTo 25 (wr ((rat g 23 5 v2) + 1)) g _ rfl) ?_
        show Ev 60 52 [some (.inr (.inr 7)), some (.inl c1), some (.inl v2), some (.inl v3), some (.inl (rat g 9 160 v3)), none] [.inl (St_upTo 25 (wr ((rat g 23 5 v2) + 1))), .inl v2, .inr (.inr 22)] g _ _
        refine ec 0 55 [.inr (.inr 22), .inl v2, .inl (St_upTo 25 (wr ((rat g 23 5 v2) + 1)))] [] rfl (ev_Row_set rfl rfl _ _ _) ?_
        show Ev 60 55 [some (.inr (.inr 7)), some (.inl c1), some (.inl v2), some (.inl v3), some (.inl (rat g 9 160 v3)), none] [] (rset g 23 5 v2 (St_upTo 25 (wr ((rat g 23 5 v2) + 1)))) _ _
        refine ev_runs 3 (55, [some (.inr (.inr 7)), some (.inl c1), some (.inl v2), some (.inl v3), some (.inl (rat g 9 160 v3)), none], [], (rset g 23 5 v2 (St_upTo 25 (wr ((rat g 23 5 v2) + 1))))) (9, [some (.inr (.inr 7)), some (.inl c1), some (.inl v2), some (.inl (wr (v3 + 1))), some (.inl (rat g 9 160 v3)), none], [], (rset g 23 5 v2 (St_upTo 25 (wr ((rat g 23 5 v2) + 1))))) rfl ?_
        exact ev_le (L := [some (.inr (.inr 7)), some (.inl c1), some (.inl v2), some (.inl (wr (v3 + 1))), none, none]) (by simp [Lle]) (ih9 v2 (wr (v3 + 1)) (rset g 23 5 v2 (St_upTo 25 (wr ((rat g 23 5 v2) + 1)))) r g' h)
set_option maxRecDepth 100000 in
set_option maxHeartbeats 4000000 in
theorem ev_St_isTooMuch (a1 : Int) (g : Gx) (r : Int) (g' : Gx) (h : St_isTooMuch a1 g = some (r, g')) : Ev 60 0 [some (.inr (.inr 7)), some (.inl a1), none, none, none, none] [] g (some (.inl r)) g' := by
  rw [St_isTooMuch] at h
  refine ev_runs 4 (0, [some (.inr (.inr 7)), some (.inl a1), none, none, none, none], [], g) (4, [some (.inr (.inr 7)), some (.inl a1), some (.inl 0), none, none, none], [.inl 0, .inr (.inr 7)], g) rfl ?_
  obtain ⟨g1, hq, h⟩ := lett_inv h
  refine ec 54 7 [.inr (.inr 7), .inl 0] [] rfl (ev_St_beginItems 0 g g1 hq.symm) ?_
  show Ev 60 7 [some (.inr (.inr 7)), some (.inl a1), some (.inl 0), none, none, none] [] g1 _ _
  refine ev_runs 2 (7, [some (.inr (.inr 7)), some (.inl a1), some (.inl 0), none, none, none], [], g1) (9, [some (.inr (.inr 7)), some (.inl a1), some (.inl 0), some (.inl 0), none, none], [], g1) rfl ?_
  refine ev_le (L := [some (.inr (.inr 7)), some (.inl a1), some (.inl 0), some (.inl 0), none, none]) (by simp [Lle]) ?_
  refine ev_St_isTooMuch_l9 a1 _ ?_ fu 0 0 g1 r g' h
  · intro g9 r g' h
    refine ev_runs 3 (232, [some (.inr (.inr 7)), none, none, none, none, none], [], g9) (237, [some (.inr (.inr 7)), none, none, none, none, none], [.inl 0, .inr (.inr 20)], g9) rfl ?_
    refine ec 13 240 [.inr (.inr 20), .inl 0] [] rfl (ev_Row_at rfl rfl _ _) ?_
    show Ev 60 240 [some (.inr (.inr 7)), none, none, none, none, none] [.inl (rat g9 21 5 0)] g9 _ _
    refine ev_runs 1 (240, [some (.inr (.inr 7)), none, none, none, none, none], [.inl (rat g9 21 5 0)], g9) (242, [some (.inr (.inr 7)), none, none, none, none, none], [.inl 30, .inl (rat g9 21 5 0)], g9) rfl ?_
    by_cases hc : 30 < (rat g9 21 5 0)
    · rw [if_pos hc] at h
      refine es (258, [some (.inr (.inr 7)), none, none, none, none, none], [], g9) (congrArg some (if_pos hc)) ?_
      refine ev_runs 2 (258, [some (.inr (.inr 7)), none, none, none, none, none], [], g9) (263, [some (.inr (.inr 7)), none, none, none, none, none], [.inl 1], g9) rfl ?_
      cases h
      exact er rfl
    · rw [if_neg hc] at h
      refine es (245, [some (.inr (.inr 7)), none, none, none, none, none], [], g9) (congrArg some (if_neg hc)) ?_
      refine ev_runs 3 (245, [some (.inr (.inr 7)), none, none, none, none, none], [], g9) (250, [some (.inr (.inr 7)), none, none, none, none, none], [.inl 0, .inr (.inr 22)], g9) rfl ?_
      refine ec 13 253 [.inr (.inr 22), .inl 0] [] rfl (ev_Row_at rfl rfl _ _) ?_
      show Ev 60 253 [some (.inr (.inr 7)), none, none, none, none, none] [.inl (rat g9 23 5 0)] g9 _ _
      refine ev_runs 1 (253, [some (.inr (.inr 7)), none, none, none, none, none], [.inl (rat g9 23 5 0)], g9) (255, [some (.inr (.inr 7)), none, none, none, none, none], [.inl 24, .inl (rat g9 23 5 0)], g9) rfl ?_
      by_cases hc : (rat g9 23 5 0) ≤ 24
      · rw [if_pos hc] at h
        refine es (262, [some (.inr (.inr 7)), none, none, none, none, none], [], g9) (congrArg some (if_pos hc)) ?_
        refine ev_runs 1 (262, [some (.inr (.inr 7)), none, none, none, none, none], [], g9) (263, [some (.inr (.inr 7)), none, none, none, none, none], [.inl 0], g9) rfl ?_
        cases h
        exact er rfl
      · rw [if_neg hc] at h
        refine es (258, [some (.inr (.inr 7)), none, none, none, none, none], [], g9) (congrArg some (if_neg hc)) ?_
        refine ev_runs 2 (258, [some (.inr (.inr 7)), none, none, none, none, none], [], g9) (263, [some (.inr (.inr 7)), none, none, none, none, none], [.inl 1], g9) rfl ?_
        cases h
        exact er rfl
set_option maxRecDepth 100000 in
set_option maxHeartbeats 4000000 in
theorem ev_St_value (a1 : Int) (g : Gx) (r : Int) (h : St_value a1 g = r) : Ev 61 0 [some (.inr (.inr 7)), some (.inl a1)] [] g (some (.inl r)) g := by
  rw [St_value] at h
  refine ev_runs 3 (0, [some (.inr (.inr 7)), some (.inl a1)], [], g) (5, [some (.inr (.inr 7)), some (.inl a1)], [.inl a1, .inr (.inr 10)], g) rfl ?_
  refine ec 13 8 [.inr (.inr 10), .inl a1] [] rfl (ev_Row_at rfl rfl _ _) ?_
  show Ev 61 8 [some (.inr (.inr 7)), some (.inl a1)] [.inl (rat g 11 160 a1)] g _ _
  subst h
  exact er rfl
set_option maxRecDepth 100000 in
set_option maxHeartbeats 4000000 in
theorem ev_St_kind (a1 : Int) (g : Gx) (r : Int) (h : St_kind a1 g = r) : Ev 62 0 [some (.inr (.inr 7)), some (.inl a1)] [] g (some (.inl r)) g := by
  rw [St_kind] at h
  refine ev_runs 3 (0, [some (.inr (.inr 7)), some (.inl a1)], [], g) (5, [some (.inr (.inr 7)), some (.inl a1)], [.inl a1, .inr (.inr 8)], g) rfl ?_
  refine ec 13 8 [.inr (.inr 8), .inl a1] [] rfl (ev_Row_at rfl rfl _ _) ?_
  show Ev 62 8 [some (.inr (.inr 7)), some (.inl a1)] [.inl (rat g 9 160 a1)] g _ _
  subst h
  exact er rfl
set_option maxRecDepth 100000 in
set_option maxHeartbeats 4000000 in
theorem ev_Hi_say (a1 a2 : Int) (g : Gx) (g' : Gx) (h : Hi_say a1 a2 g = g') : Ev 63 0 [some (.inr (.inr 33)), some (.inl a1), some (.inl a2), none] [] g none g' := by
  rw [Hi_say] at h
  refine ev_runs 3 (0, [some (.inr (.inr 33)), some (.inl a1), some (.inl a2), none], [], g) (5, [some (.inr (.inr 33)), some (.inl a1), some (.inl a2), none], [.inl a1, .inr (.inr 36)], g) rfl ?_
  refine ec 13 8 [.inr (.inr 36), .inl a1] [] rfl (ev_Row_at rfl rfl _ _) ?_
  show Ev 63 8 [some (.inr (.inr 33)), some (.inl a1), some (.inl a2), none] [.inl (rat g 37 30 a1)] g _ _
  refine ev_runs 3 (8, [some (.inr (.inr 33)), some (.inl a1), some (.inl a2), none], [.inl (rat g 37 30 a1)], g) (12, [some (.inr (.inr 33)), some (.inl a1), some (.inl a2), some (.inl (rat g 37 30 a1))], [.inl 24, .inl (rat g 37 30 a1)], g) rfl ?_
  by_cases hc : 24 ≤ (rat g 37 30 a1)
  · rw [if_pos hc] at h
    refine es (40, [some (.inr (.inr 33)), some (.inl a1), some (.inl a2), some (.inl (rat g 37 30 a1))], [], g) (congrArg some (if_pos hc)) ?_
    subst h
    exact er rfl
  · rw [if_neg hc] at h
    refine es (15, [some (.inr (.inr 33)), some (.inl a1), some (.inl a2), some (.inl (rat g 37 30 a1))], [], g) (congrArg some (if_neg hc)) ?_
    refine ev_runs 8 (15, [some (.inr (.inr 33)), some (.inl a1), some (.inl a2), some (.inl (rat g 37 30 a1))], [], g) (26, [some (.inr (.inr 33)), some (.inl a1), some (.inl a2), some (.inl (rat g 37 30 a1))], [.inl a2, .inl (wr ((wr (a1 * 24)) + (rat g 37 30 a1))), .inr (.inr 34)], g) rfl ?_
    refine ec 0 29 [.inr (.inr 34), .inl (wr ((wr (a1 * 24)) + (rat g 37 30 a1))), .inl a2] [] rfl (ev_Row_set rfl rfl _ _ _) ?_
    show Ev 63 29 [some (.inr (.inr 33)), some (.inl a1), some (.inl a2), some (.inl (rat g 37 30 a1))] [] (rset g 35 720 (wr ((wr (a1 * 24)) + (rat g 37 30 a1))) a2) _ _
    refine ev_runs 6 (29, [some (.inr (.inr 33)), some (.inl a1), some (.inl a2), some (.inl (rat g 37 30 a1))], [], (rset g 35 720 (wr ((wr (a1 * 24)) + (rat g 37 30 a1))) a2)) (37, [some (.inr (.inr 33)), some (.inl a1), some (.inl a2), some (.inl (rat g 37 30 a1))], [.inl (wr ((rat g 37 30 a1) + 1)), .inl a1, .inr (.inr 36)], (rset g 35 720 (wr ((wr (a1 * 24)) + (rat g 37 30 a1))) a2)) rfl ?_
    refine ec 0 40 [.inr (.inr 36), .inl a1, .inl (wr ((rat g 37 30 a1) + 1))] [] rfl (ev_Row_set rfl rfl _ _ _) ?_
    show Ev 63 40 [some (.inr (.inr 33)), some (.inl a1), some (.inl a2), some (.inl (rat g 37 30 a1))] [] (rset (rset g 35 720 (wr ((wr (a1 * 24)) + (rat g 37 30 a1))) a2) 37 30 a1 (wr ((rat g 37 30 a1) + 1))) _ _
    subst h
    exact er rfl
set_option maxRecDepth 100000 in
set_option maxHeartbeats 4000000 in
theorem ev_Op_has (a0 a1 : Int) (g : Gx) (r : Int) (h : Op_has a0 a1 = r) : Ev 64 0 [some (.inl a0), some (.inl a1)] [] g (some (.inl r)) g := by
  rw [Op_has] at h
  refine ev_runs 5 (0, [some (.inl a0), some (.inl a1)], [], g) (5, [some (.inl a0), some (.inl a1)], [.inl (jand (jshr a0 a1) 1)], g) rfl ?_
  by_cases hc : (jand (jshr a0 a1) 1) = 0
  · rw [if_pos hc] at h
    refine es (12, [some (.inl a0), some (.inl a1)], [], g) (congrArg some (if_pos hc)) ?_
    refine ev_runs 1 (12, [some (.inl a0), some (.inl a1)], [], g) (13, [some (.inl a0), some (.inl a1)], [.inl 0], g) rfl ?_
    subst h
    exact er rfl
  · rw [if_neg hc] at h
    refine es (8, [some (.inl a0), some (.inl a1)], [], g) (congrArg some (if_neg hc)) ?_
    refine ev_runs 2 (8, [some (.inl a0), some (.inl a1)], [], g) (13, [some (.inl a0), some (.inl a1)], [.inl 1], g) rfl ?_
    subst h
    exact er rfl
set_option maxRecDepth 100000 in
set_option maxHeartbeats 4000000 in
theorem ev_St_chooser (a1 : Int) (g : Gx) (r : Int) (h : St_chooser a1 g = r) : Ev 65 0 [some (.inr (.inr 7)), some (.inl a1)] [] g (some (.inl r)) g := by
  rw [St_chooser] at h
  refine ev_runs 3 (0, [some (.inr (.inr 7)), some (.inl a1)], [], g) (5, [some (.inr (.inr 7)), some (.inl a1)], [.inl a1, .inr (.inr 12)], g) rfl ?_
  refine ec 13 8 [.inr (.inr 12), .inl a1] [] rfl (ev_Row_at rfl rfl _ _) ?_
  show Ev 65 8 [some (.inr (.inr 7)), some (.inl a1)] [.inl (rat g 13 40 a1)] g _ _
  subst h
  exact er rfl
set_option maxRecDepth 100000 in
set_option maxHeartbeats 4000000 in
theorem ev_Hi_choose_l82 (c1 : Int) (c2 : Int) (c4 : Int) (c5 : Int) (K82_134 : Gx → Option (Int × Gx)) (hK82_134 : ∀ (g : Gx) (r : Int) (g' : Gx), K82_134 g = some (r, g') → Ev 66 134 [none, none, none, none, some (.inl c4), none, none] [] g (some (.inl r)) g') : ∀ (n82 : Nat) (v6 : Int) (g : Gx) (r : Int) (g' : Gx), Hi_choose_l82 c1 c2 c4 c5 K82_134 n82 v6 g = some (r, g') → Ev 66 82 [some (.inr (.inr 33)), some (.inl c1), some (.inl c2), none, some (.inl c4), some (.inl c5), some (.inl v6)] [] g (some (.inl r)) g' := by
  intro n82
  induction n82 with
  | zero => intro v6 g r g' h; cases h
  | succ n82 ih82 =>
    intro v6 g r g' h
    rw [Hi_choose_l82] at h
    refine ev_runs 2 (82, [some (.inr (.inr 33)), some (.inl c1), some (.inl c2), none, some (.inl c4), some (.inl c5), some (.inl v6)], [], g) (86, [some (.inr (.inr 33)), some (.inl c1), some (.inl c2), none, some (.inl c4), some (.inl c5), some (.inl v6)], [.inl 6, .inl v6], g) rfl ?_
    by_cases hc : 6 ≤ v6
    · rw [if_pos hc] at h
      refine es (134, [some (.inr (.inr 33)), some (.inl c1), some (.inl c2), none, some (.inl c4), some (.inl c5), some (.inl v6)], [], g) (congrArg some (if_pos hc)) ?_
      exact ev_le (L := [none, none, none, none, some (.inl c4), none, none]) (by simp [Lle]) (hK82_134 g r g' h)
    · rw [if_neg hc] at h
      refine es (89, [some (.inr (.inr 33)), some (.inl c1), some (.inl c2), none, some (.inl c4), some (.inl c5), some (.inl v6)], [], g) (congrArg some (if_neg hc)) ?_
      refine ev_runs 2 (89, [some (.inr (.inr 33)), some (.inl c1), some (.inl c2), none, some (.inl c4), some (.inl c5), some (.inl v6)], [], g) (93, [some (.inr (.inr 33)), some (.inl c1), some (.inl c2), none, some (.inl c4), some (.inl c5), some (.inl v6)], [.inl v6, .inl c5], g) rfl ?_
      refine ec 64 96 [.inl c5, .inl v6] [] rfl (ev_Op_has c5 v6 g _ rfl) ?_
      show Ev 66 96 [some (.inr (.inr 33)), some (.inl c1), some (.inl c2), none, some (.inl c4), some (.inl c5), some (.inl v6)] [.inl (Op_has c5 v6)] g _ _
      by_cases hc : (Op_has c5 v6) = 0
      · rw [if_pos hc] at h
        refine es (128, [some (.inr (.inr 33)), some (.inl c1), some (.inl c2), none, some (.inl c4), some (.inl c5), some (.inl v6)], [], g) (congrArg some (if_pos hc)) ?_
        refine ev_runs 2 (128, [some (.inr (.inr 33)), some (.inl c1), some (.inl c2), none, some (.inl c4), some (.inl c5), some (.inl v6)], [], g) (82, [some (.inr (.inr 33)), some (.inl c1), some (.inl c2), none, some (.inl c4), some (.inl c5), some (.inl (wr (v6 + 1)))], [], g) rfl ?_
        exact ev_le (L := [some (.inr (.inr 33)), some (.inl c1), some (.inl c2), none, some (.inl c4), some (.inl c5), some (.inl (wr (v6 + 1)))]) (by simp [Lle]) (ih82 (wr (v6 + 1)) g r g' h)
      · rw [if_neg hc] at h
        refine es (99, [some (.inr (.inr 33)), some (.inl c1), some (.inl c2), none, some (.inl c4), some (.inl c5), some (.inl v6)], [], g) (congrArg some (if_neg hc)) ?_
        refine ev_runs 6 (99, [some (.inr (.inr 33)), some (.inl c1), some (.inl c2), none, some (.inl c4), some (.inl c5), some (.inl v6)], [], g) (109, [some (.inr (.inr 33)), some (.inl c1), some (.inl c2), none, some (.inl c4), some (.inl c5), some (.inl v6)], [.inl c2, .inr (.inr 7), .inl 1000, .inl c1, .inr (.inr 33)], g) rfl ?_
        refine ec 65 112 [.inr (.inr 7), .inl c2] [.inl 1000, .inl c1, .inr (.inr 33)] rfl (ev_St_chooser c2 g _ rfl) ?_
        show Ev 66 112 [some (.inr (.inr 33)), some (.inl c1), some (.inl c2), none, some (.inl c4), some (.inl c5), some (.inl v6)] [.inl (St_chooser c2 g), .inl 1000, .inl c1, .inr (.inr 33)] g _ _
        refine ev_runs 9 (112, [some (.inr (.inr 33)), some (.inl c1), some (.inl c2), none, some (.inl c4), some (.inl c5), some (.inl v6)], [.inl (St_chooser c2 g), .inl 1000, .inl c1, .inr (.inr 33)], g) (125, [some (.inr (.inr 33)), some (.inl c1), some (.inl c2), none, some (.inl c4), some (.inl c5), some (.inl v6)], [.inl (wr ((wr ((wr ((wr (1000 * (St_chooser c2 g))) + (wr (100 * v6)))) + 26)) + c4)), .inl c1, .inr (.inr 33)], g) rfl ?_
        obtain ⟨g1, hq, h⟩ := lett_inv h
        refine ec 63 128 [.inr (.inr 33), .inl c1, .inl (wr ((wr ((wr ((wr (1000 * (St_chooser c2 g))) + (wr (100 * v6)))) + 26)) + c4))] [] rfl (ev_Hi_say c1 (wr ((wr ((wr ((wr (1000 * (St_chooser c2 g))) + (wr (100 * v6)))) + 26)) + c4)) g g1 hq.symm) ?_
        show Ev 66 128 [some (.inr (.inr 33)), some (.inl c1), some (.inl c2), none, some (.inl c4), some (.inl c5), some (.inl v6)] [] g1 _ _
        refine ev_runs 2 (128, [some (.inr (.inr 33)), some (.inl c1), some (.inl c2), none, some (.inl c4), some (.inl c5), some (.inl v6)], [], g1) (82, [some (.inr (.inr 33)), some (.inl c1), some (.inl c2), none, some (.inl c4), some (.inl c5), some (.inl (wr (v6 + 1)))], [], g1) rfl ?_
        exact ev_le (L := [some (.inr (.inr 33)), some (.inl c1), some (.inl c2), none, some (.inl c4), some (.inl c5), some (.inl (wr (v6 + 1)))]) (by simp [Lle]) (ih82 (wr (v6 + 1)) g1 r g' h)
set_option maxRecDepth 100000 in
set_option maxHeartbeats 4000000 in
theorem ev_Hi_choose (a1 a2 a3 : Int) (g : Gx) (r : Int) (g' : Gx) (h : Hi_choose a1 a2 a3 g = some (r, g')) : Ev 66 0 [some (.inr (.inr 33)), some (.inl a1), some (.inl a2), some (.inl a3), none, none, none] [] g (some (.inl r)) g' := by
  rw [Hi_choose] at h
  refine ev_runs 4 (0, [some (.inr (.inr 33)), some (.inl a1), some (.inl a2), some (.inl a3), none, none, none], [], g) (8, [some (.inr (.inr 33)), some (.inl a1), some (.inl a2), some (.inl a3), none, none, none], [.inl (g 33 10), .inl (g 33 11)], g) rfl ?_
  by_cases hc : (g 33 11) < (g 33 10)
  · rw [if_pos hc] at h
    refine es (45, [some (.inr (.inr 33)), some (.inl a1), some (.inl a2), some (.inl a3), none, none, none], [], g) (congrArg some (if_pos hc)) ?_
    refine ev_runs 4 (45, [some (.inr (.inr 33)), some (.inl a1), some (.inl a2), some (.inl a3), none, none, none], [], g) (53, [some (.inr (.inr 33)), some (.inl a1), some (.inl a2), some (.inl a3), none, none, none], [.inl (g 33 11), .inr (.inr 38)], g) rfl ?_
    refine ec 13 56 [.inr (.inr 38), .inl (g 33 11)] [] rfl (ev_Row_at rfl rfl _ _) ?_
    show Ev 66 56 [some (.inr (.inr 33)), some (.inl a1), some (.inl a2), some (.inl a3), none, none, none] [.inl (rat g 39 30 (g 33 11))] g _ _
    refine ev_runs 11 (56, [some (.inr (.inr 33)), some (.inl a1), some (.inl a2), some (.inl a3), none, none, none], [.inl (rat g 39 30 (g 33 11))], g) (74, [some (.inr (.inr 33)), some (.inl a1), some (.inl a2), some (.inl a3), some (.inl (rat g 39 30 (g 33 11))), none, none], [.inl a3, .inl a2, .inr (.inr 7)], (gset g 33 11 (wr ((g 33 11) + 1)))) rfl ?_
    refine ec 57 77 [.inr (.inr 7), .inl a2, .inl a3] [] rfl (ev_St_toldOf a2 a3 (gset g 33 11 (wr ((g 33 11) + 1))) _ rfl) ?_
    show Ev 66 77 [some (.inr (.inr 33)), some (.inl a1), some (.inl a2), some (.inl a3), some (.inl (rat g 39 30 (g 33 11))), none, none] [.inl (St_toldOf a2 a3 (gset g 33 11 (wr ((g 33 11) + 1))))] (gset g 33 11 (wr ((g 33 11) + 1))) _ _
    refine ev_runs 3 (77, [some (.inr (.inr 33)), some (.inl a1), some (.inl a2), some (.inl a3), some (.inl (rat g 39 30 (g 33 11))), none, none], [.inl (St_toldOf a2 a3 (gset g 33 11 (wr ((g 33 11) + 1))))], (gset g 33 11 (wr ((g 33 11) + 1)))) (82, [some (.inr (.inr 33)), some (.inl a1), some (.inl a2), some (.inl a3), some (.inl (rat g 39 30 (g 33 11))), some (.inl (St_toldOf a2 a3 (gset g 33 11 (wr ((g 33 11) + 1))))), some (.inl 0)], [], (gset g 33 11 (wr ((g 33 11) + 1)))) rfl ?_
    refine ev_le (L := [some (.inr (.inr 33)), some (.inl a1), some (.inl a2), none, some (.inl (rat g 39 30 (g 33 11))), some (.inl (St_toldOf a2 a3 (gset g 33 11 (wr ((g 33 11) + 1))))), some (.inl 0)]) (by simp [Lle]) ?_
    refine ev_Hi_choose_l82 a1 a2 (rat g 39 30 (g 33 11)) (St_toldOf a2 a3 (gset g 33 11 (wr ((g 33 11) + 1)))) _ ?_ fu 0 (gset g 33 11 (wr ((g 33 11) + 1))) r g' h
    · intro g2 r g' h
      refine ev_runs 1 (134, [none, none, none, none, some (.inl (rat g 39 30 (g 33 11))), none, none], [], g2) (136, [none, none, none, none, some (.inl (rat g 39 30 (g 33 11))), none, none], [.inl (rat g 39 30 (g 33 11))], g2) rfl ?_
      cases h
      exact er rfl
  · rw [if_neg hc] at h
    refine es (11, [some (.inr (.inr 33)), some (.inl a1), some (.inl a2), some (.inl a3), none, none, none], [], g) (congrArg some (if_neg hc)) ?_
    refine ev_runs 5 (11, [some (.inr (.inr 33)), some (.inl a1), some (.inl a2), some (.inl a3), none, none, none], [], g) (20, [some (.inr (.inr 33)), some (.inl a1), some (.inl a2), some (.inl a3), none, none, none], [.inl 0, .inl (g 33 11), .inr (.inr 38)], g) rfl ?_
    refine ec 0 23 [.inr (.inr 38), .inl (g 33 11), .inl 0] [] rfl (ev_Row_set rfl rfl _ _ _) ?_
    show Ev 66 23 [some (.inr (.inr 33)), some (.inl a1), some (.inl a2), some (.inl a3), none, none, none] [] (rset g 39 30 (g 33 11) 0) _ _
    refine ev_runs 5 (23, [some (.inr (.inr 33)), some (.inl a1), some (.inl a2), some (.inl a3), none, none, none], [], (rset g 39 30 (g 33 11) 0)) (32, [some (.inr (.inr 33)), some (.inl a1), some (.inl a2), some (.inl a3), none, none, none], [.inl a2, .inl (g 33 11), .inr (.inr 40)], (rset g 39 30 (g 33 11) 0)) rfl ?_
    refine ec 0 35 [.inr (.inr 40), .inl (g 33 11), .inl a2] [] rfl (ev_Row_set rfl rfl _ _ _) ?_
    show Ev 66 35 [some (.inr (.inr 33)), some (.inl a1), some (.inl a2), some (.inl a3), none, none, none] [] (rset (rset g 39 30 (g 33 11) 0) 41 30 (g 33 11) a2) _ _
    refine ev_runs 10 (35, [some (.inr (.inr 33)), some (.inl a1), some (.inl a2), some (.inl a3), none, none, none], [], (rset (rset g 39 30 (g 33 11) 0) 41 30 (g 33 11) a2)) (53, [some (.inr (.inr 33)), some (.inl a1), some (.inl a2), some (.inl a3), none, none, none], [.inl (g 33 11), .inr (.inr 38)], (gset (rset (rset g 39 30 (g 33 11) 0) 41 30 (g 33 11) a2) 33 10 (wr ((g 33 11) + 1)))) rfl ?_
    refine ec 13 56 [.inr (.inr 38), .inl (g 33 11)] [] rfl (ev_Row_at rfl rfl _ _) ?_
    show Ev 66 56 [some (.inr (.inr 33)), some (.inl a1), some (.inl a2), some (.inl a3), none, none, none] [.inl (rat (rset g 39 30 (g 33 11) 0) 39 30 (g 33 11))] (gset (rset (rset g 39 30 (g 33 11) 0) 41 30 (g 33 11) a2) 33 10 (wr ((g 33 11) + 1))) _ _
    refine ev_runs 11 (56, [some (.inr (.inr 33)), some (.inl a1), some (.inl a2), some (.inl a3), none, none, none], [.inl (rat (rset g 39 30 (g 33 11) 0) 39 30 (g 33 11))], (gset (rset (rset g 39 30 (g 33 11) 0) 41 30 (g 33 11) a2) 33 10 (wr ((g 33 11) + 1)))) (74, [some (.inr (.inr 33)), some (.inl a1), some (.inl a2), some (.inl a3), some (.inl (rat (rset g 39 30 (g 33 11) 0) 39 30 (g 33 11))), none, none], [.inl a3, .inl a2, .inr (.inr 7)], (gset (gset (rset (rset g 39 30 (g 33 11) 0) 41 30 (g 33 11) a2) 33 10 (wr ((g 33 11) + 1))) 33 11 (wr ((g 33 11) + 1)))) rfl ?_
    refine ec 57 77 [.inr (.inr 7), .inl a2, .inl a3] [] rfl (ev_St_toldOf a2 a3 (gset (gset (rset (rset g 39 30 (g 33 11) 0) 41 30 (g 33 11) a2) 33 10 (wr ((g 33 11) + 1))) 33 11 (wr ((g 33 11) + 1))) _ rfl) ?_
    show Ev 66 77 [some (.inr (.inr 33)), some (.inl a1), some (.inl a2), some (.inl a3), some (.inl (rat (rset g 39 30 (g 33 11) 0) 39 30 (g 33 11))), none, none] [.inl (St_toldOf a2 a3 (gset (gset (rset (rset g 39 30 (g 33 11) 0) 41 30 (g 33 11) a2) 33 10 (wr ((g 33 11) + 1))) 33 11 (wr ((g 33 11) + 1))))] (gset (gset (rset (rset g 39 30 (g 33 11) 0) 41 30 (g 33 11) a2) 33 10 (wr ((g 33 11) + 1))) 33 11 (wr ((g 33 11) + 1))) _ _
    refine ev_runs 3 (77, [some (.inr (.inr 33)), some (.inl a1), some (.inl a2), some (.inl a3), some (.inl (rat (rset g 39 30 (g 33 11) 0) 39 30 (g 33 11))), none, none], [.inl (St_toldOf a2 a3 (gset (gset (rset (rset g 39 30 (g 33 11) 0) 41 30 (g 33 11) a2) 33 10 (wr ((g 33 11) + 1))) 33 11 (wr ((g 33 11) + 1))))], (gset (gset (rset (rset g 39 30 (g 33 11) 0) 41 30 (g 33 11) a2) 33 10 (wr ((g 33 11) + 1))) 33 11 (wr ((g 33 11) + 1)))) (82, [some (.inr (.inr 33)), some (.inl a1), some (.inl a2), some (.inl a3), some (.inl (rat (rset g 39 30 (g 33 11) 0) 39 30 (g 33 11))), some (.inl (St_toldOf a2 a3 (gset (gset (rset (rset g 39 30 (g 33 11) 0) 41 30 (g 33 11) a2) 33 10 (wr ((g 33 11) + 1))) 33 11 (wr ((g 33 11) + 1))))), some (.inl 0)], [], (gset (gset (rset (rset g 39 30 (g 33 11) 0) 41 30 (g 33 11) a2) 33 10 (wr ((g 33 11) + 1))) 33 11 (wr ((g 33 11) + 1)))) rfl ?_
    refine ev_le (L := [some (.inr (.inr 33)), some (.inl a1), some (.inl a2), none, some (.inl (rat (rset g 39 30 (g 33 11) 0) 39 30 (g 33 11))), some (.inl (St_toldOf a2 a3 (gset (gset (rset (rset g 39 30 (g 33 11) 0) 41 30 (g 33 11) a2) 33 10 (wr ((g 33 11) + 1))) 33 11 (wr ((g 33 11) + 1))))), some (.inl 0)]) (by simp [Lle]) ?_
    refine ev_Hi_choose_l82 a1 a2 (rat (rset g 39 30 (g 33 11) 0) 39 30 (g 33 11)) (St_toldOf a2 a3 (gset (gset (rset (rset g 39 30 (g 33 11) 0) 41 30 (g 33 11) a2) 33 10 (wr ((g 33 11) + 1))) 33 11 (wr ((g 33 11) + 1)))) _ ?_ fu 0 (gset (gset (rset (rset g 39 30 (g 33 11) 0) 41 30 (g 33 11) a2) 33 10 (wr ((g 33 11) + 1))) 33 11 (wr ((g 33 11) + 1))) r g' h
    · intro g3 r g' h
      refine ev_runs 1 (134, [none, none, none, none, some (.inl (rat (rset g 39 30 (g 33 11) 0) 39 30 (g 33 11))), none, none], [], g3) (136, [none, none, none, none, some (.inl (rat (rset g 39 30 (g 33 11) 0) 39 30 (g 33 11))), none, none], [.inl (rat (rset g 39 30 (g 33 11) 0) 39 30 (g 33 11))], g3) rfl ?_
      cases h
      exact er rfl
set_option maxRecDepth 100000 in
set_option maxHeartbeats 4000000 in
theorem ev_St_wayStart (a1 a2 : Int) (g : Gx) (r : Int) (h : St_wayStart a1 a2 g = r) : Ev 67 0 [some (.inr (.inr 7)), some (.inl a1), some (.inl a2)] [] g (some (.inl r)) g := by
  rw [St_wayStart] at h
  refine ev_runs 7 (0, [some (.inr (.inr 7)), some (.inl a1), some (.inl a2)], [], g) (9, [some (.inr (.inr 7)), some (.inl a1), some (.inl a2)], [.inl (wr ((wr (a1 * 4)) + a2)), .inr (.inr 16)], g) rfl ?_
  refine ec 13 12 [.inr (.inr 16), .inl (wr ((wr (a1 * 4)) + a2))] [] rfl (ev_Row_at rfl rfl _ _) ?_
  show Ev 67 12 [some (.inr (.inr 7)), some (.inl a1), some (.inl a2)] [.inl (rat g 17 160 (wr ((wr (a1 * 4)) + a2)))] g _ _
  subst h
  exact er rfl
set_option maxRecDepth 100000 in
set_option maxHeartbeats 4000000 in
theorem ev_St_end (a1 : Int) (g : Gx) (r : Int) (h : St_end a1 g = r) : Ev 68 0 [some (.inr (.inr 7)), some (.inl a1)] [] g (some (.inl r)) g := by
  rw [St_end] at h
  refine ev_runs 3 (0, [some (.inr (.inr 7)), some (.inl a1)], [], g) (5, [some (.inr (.inr 7)), some (.inl a1)], [.inl a1, .inr (.inr 18)], g) rfl ?_
  refine ec 13 8 [.inr (.inr 18), .inl a1] [] rfl (ev_Row_at rfl rfl _ _) ?_
  show Ev 68 8 [some (.inr (.inr 7)), some (.inl a1)] [.inl (rat g 19 40 a1)] g _ _
  subst h
  exact er rfl
set_option maxRecDepth 100000 in
set_option maxHeartbeats 4000000 in
theorem ev_Hi_beginRounds (a1 a2 : Int) (g : Gx) (g' : Gx) (h : Hi_beginRounds a1 a2 g = g') : Ev 69 0 [some (.inr (.inr 33)), some (.inl a1), some (.inl a2)] [] g none g' := by
  rw [Hi_beginRounds] at h
  refine ev_runs 5 (0, [some (.inr (.inr 33)), some (.inl a1), some (.inl a2)], [], g) (9, [some (.inr (.inr 33)), some (.inl a1), some (.inl a2)], [.inl a1, .inl (g 33 12), .inr (.inr 46)], g) rfl ?_
  refine ec 0 12 [.inr (.inr 46), .inl (g 33 12), .inl a1] [] rfl (ev_Row_set rfl rfl _ _ _) ?_
  show Ev 69 12 [some (.inr (.inr 33)), some (.inl a1), some (.inl a2)] [] (rset g 47 4 (g 33 12) a1) _ _
  refine ev_runs 7 (12, [some (.inr (.inr 33)), some (.inl a1), some (.inl a2)], [], (rset g 47 4 (g 33 12) a1)) (23, [some (.inr (.inr 33)), some (.inl a1), some (.inl a2)], [.inl (wr (a2 - 1)), .inl (g 33 12), .inr (.inr 48)], (rset g 47 4 (g 33 12) a1)) rfl ?_
  refine ec 0 26 [.inr (.inr 48), .inl (g 33 12), .inl (wr (a2 - 1))] [] rfl (ev_Row_set rfl rfl _ _ _) ?_
  show Ev 69 26 [some (.inr (.inr 33)), some (.inl a1), some (.inl a2)] [] (rset (rset g 47 4 (g 33 12) a1) 49 4 (g 33 12) (wr (a2 - 1))) _ _
  refine ev_runs 6 (26, [some (.inr (.inr 33)), some (.inl a1), some (.inl a2)], [], (rset (rset g 47 4 (g 33 12) a1) 49 4 (g 33 12) (wr (a2 - 1)))) (36, [some (.inr (.inr 33)), some (.inl a1), some (.inl a2)], [], (gset (rset (rset g 47 4 (g 33 12) a1) 49 4 (g 33 12) (wr (a2 - 1))) 33 12 (wr ((g 33 12) + 1)))) rfl ?_
  subst h
  exact er rfl
set_option maxRecDepth 100000 in
set_option maxHeartbeats 4000000 in
theorem ev_Hi_endRound (a1 : Int) (g : Gx) (r : Int) (g' : Gx) (h : Hi_endRound a1 g = (r, g')) : Ev 70 0 [some (.inr (.inr 33)), some (.inl a1), none] [] g (some (.inl r)) g' := by
  rw [Hi_endRound] at h
  refine ev_runs 8 (0, [some (.inr (.inr 33)), some (.inl a1), none], [], g) (12, [some (.inr (.inr 33)), some (.inl a1), some (.inl (wr ((g 33 12) - 1)))], [.inl (wr ((g 33 12) - 1)), .inr (.inr 48)], g) rfl ?_
  refine ec 13 15 [.inr (.inr 48), .inl (wr ((g 33 12) - 1))] [] rfl (ev_Row_at rfl rfl _ _) ?_
  show Ev 70 15 [some (.inr (.inr 33)), some (.inl a1), some (.inl (wr ((g 33 12) - 1)))] [.inl (rat g 49 4 (wr ((g 33 12) - 1)))] g _ _
  by_cases hc : (rat g 49 4 (wr ((g 33 12) - 1))) ≤ 0
  · rw [if_pos hc] at h
    refine es (36, [some (.inr (.inr 33)), some (.inl a1), some (.inl (wr ((g 33 12) - 1)))], [], g) (congrArg some (if_pos hc)) ?_
    refine ev_runs 4 (36, [some (.inr (.inr 33)), some (.inl a1), some (.inl (wr ((g 33 12) - 1)))], [], g) (42, [some (.inr (.inr 33)), some (.inl a1), some (.inl (wr ((g 33 12) - 1)))], [.inl a1], (gset g 33 12 (wr ((g 33 12) - 1)))) rfl ?_
    cases h
    exact er rfl
  · rw [if_neg hc] at h
    refine es (18, [some (.inr (.inr 33)), some (.inl a1), some (.inl (wr ((g 33 12) - 1)))], [], g) (congrArg some (if_neg hc)) ?_
    refine ev_runs 4 (18, [some (.inr (.inr 33)), some (.inl a1), some (.inl (wr ((g 33 12) - 1)))], [], g) (24, [some (.inr (.inr 33)), some (.inl a1), some (.inl (wr ((g 33 12) - 1)))], [.inl (-1), .inl (wr ((g 33 12) - 1)), .inr (.inr 48)], g) rfl ?_
    refine ec 22 27 [.inr (.inr 48), .inl (wr ((g 33 12) - 1)), .inl (-1)] [] rfl (ev_Row_add rfl rfl _ _ _) ?_
    show Ev 70 27 [some (.inr (.inr 33)), some (.inl a1), some (.inl (wr ((g 33 12) - 1)))] [] (radd g 49 4 (wr ((g 33 12) - 1)) (-1)) _ _
    refine ev_runs 3 (27, [some (.inr (.inr 33)), some (.inl a1), some (.inl (wr ((g 33 12) - 1)))], [], (radd g 49 4 (wr ((g 33 12) - 1)) (-1))) (32, [some (.inr (.inr 33)), some (.inl a1), some (.inl (wr ((g 33 12) - 1)))], [.inl (wr ((g 33 12) - 1)), .inr (.inr 46)], (radd g 49 4 (wr ((g 33 12) - 1)) (-1))) rfl ?_
    refine ec 13 35 [.inr (.inr 46), .inl (wr ((g 33 12) - 1))] [] rfl (ev_Row_at rfl rfl _ _) ?_
    show Ev 70 35 [some (.inr (.inr 33)), some (.inl a1), some (.inl (wr ((g 33 12) - 1)))] [.inl (rat g 47 4 (wr ((g 33 12) - 1)))] (radd g 49 4 (wr ((g 33 12) - 1)) (-1)) _ _
    cases h
    exact er rfl
set_option maxRecDepth 100000 in
set_option maxHeartbeats 4000000 in
theorem ev_Hi_walk_l24 (c1 : Int) (c2 : Int) (K24_180 : Gx → Option Gx) (hK24_180 : ∀ (g : Gx) (g' : Gx), K24_180 g = some g' → Ev 71 180 [none, none, none, none, none, none] [] g none g') : ∀ (n24 : Nat) (v3 v4 : Int) (g : Gx) (g' : Gx), Hi_walk_l24 c1 c2 K24_180 n24 v3 v4 g = some g' → Ev 71 24 [some (.inr (.inr 33)), some (.inl c1), some (.inl c2), some (.inl v3), some (.inl v4), none] [] g none g' := by
  intro n24
  induction n24 with
  | zero => intro v3 v4 g g' h; cases h
  | succ n24 ih24 =>
    intro v3 v4 g g' h
    rw [Hi_walk_l24] at h
    refine ev_runs 2 (24, [some (.inr (.inr 33)), some (.inl c1), some (.inl c2), some (.inl v3), some (.inl v4), none], [], g) (28, [some (.inr (.inr 33)), some (.inl c1), some (.inl c2), some (.inl v3), some (.inl v4), none], [.inl 1000000, .inl v4], g) rfl ?_
    by_cases hc : 1000000 ≤ v4
    · rw [if_pos hc] at h
      refine es (180, [some (.inr (.inr 33)), some (.inl c1), some (.inl c2), some (.inl v3), some (.inl v4), none], [], g) (congrArg some (if_pos hc)) ?_
      exact ev_le (L := [none, none, none, none, none, none]) (by simp [Lle]) (hK24_180 g g' h)
    · rw [if_neg hc] at h
      refine es (31, [some (.inr (.inr 33)), some (.inl c1), some (.inl c2), some (.inl v3), some (.inl v4), none], [], g) (congrArg some (if_neg hc)) ?_
      refine ev_runs 3 (31, [some (.inr (.inr 33)), some (.inl c1), some (.inl c2), some (.inl v3), some (.inl v4), none], [], g) (36, [some (.inr (.inr 33)), some (.inl c1), some (.inl c2), some (.inl v3), some (.inl v4), none], [.inr (.inr 7), .inl v3], g) rfl ?_
      refine ec 20 39 [.inr (.inr 7)] [.inl v3] rfl (ev_St_size g _ rfl) ?_
      show Ev 71 39 [some (.inr (.inr 33)), some (.inl c1), some (.inl c2), some (.inl v3), some (.inl v4), none] [.inl (St_size g), .inl v3] g _ _
      by_cases hc : (St_size g) ≤ v3
      · rw [if_pos hc] at h
        refine es (180, [some (.inr (.inr 33)), some (.inl c1), some (.inl c2), some (.inl v3), some (.inl v4), none], [], g) (congrArg some (if_pos hc)) ?_
        exact ev_le (L := [none, none, none, none, none, none]) (by simp [Lle]) (hK24_180 g g' h)
      · rw [if_neg hc] at h
        refine es (42, [some (.inr (.inr 33)), some (.inl c1), some (.inl c2), some (.inl v3), some (.inl v4), none], [], g) (congrArg some (if_neg hc)) ?_
        refine ev_runs 3 (42, [some (.inr (.inr 33)), some (.inl c1), some (.inl c2), some (.inl v3), some (.inl v4), none], [], g) (47, [some (.inr (.inr 33)), some (.inl c1), some (.inl c2), some (.inl v3), some (.inl v4), none], [.inl v3, .inr (.inr 7)], g) rfl ?_
        refine ec 61 50 [.inr (.inr 7), .inl v3] [] rfl (ev_St_value v3 g _ rfl) ?_
        show Ev 71 50 [some (.inr (.inr 33)), some (.inl c1), some (.inl c2), some (.inl v3), some (.inl v4), none] [.inl (St_value v3 g)] g _ _
        refine ev_runs 4 (50, [some (.inr (.inr 33)), some (.inl c1), some (.inl c2), some (.inl v3), some (.inl v4), none], [.inl (St_value v3 g)], g) (57, [some (.inr (.inr 33)), some (.inl c1), some (.inl c2), some (.inl v3), some (.inl v4), some (.inl (St_value v3 g))], [.inl v3, .inr (.inr 7)], g) rfl ?_
        refine ec 62 60 [.inr (.inr 7), .inl v3] [] rfl (ev_St_kind v3 g _ rfl) ?_
        show Ev 71 60 [some (.inr (.inr 33)), some (.inl c1), some (.inl c2), some (.inl v3), some (.inl v4), some (.inl (St_value v3 g))] [.inl (St_kind v3 g)] g _ _
        by_cases hd : (St_kind v3 g) < 0 ∨ 5 < (St_kind v3 g)
        · rw [if_pos hd] at h
          refine ev_sw (tgt := 171) rfl (if_pos hd) ?_
          show Ev 71 171 [some (.inr (.inr 33)), some (.inl c1), some (.inl c2), some (.inl v3), some (.inl v4), some (.inl (St_value v3 g))] [] g _ _
          refine ev_runs 3 (171, [some (.inr (.inr 33)), some (.inl c1), some (.inl c2), some (.inl v3), some (.inl v4), some (.inl (St_value v3 g))], [], g) (24, [some (.inr (.inr 33)), some (.inl c1), some (.inl c2), some (.inl (wr (v3 + 1))), some (.inl (wr (v4 + 1))), some (.inl (St_value v3 g))], [], g) rfl ?_
          exact ev_le (L := [some (.inr (.inr 33)), some (.inl c1), some (.inl c2), some (.inl (wr (v3 + 1))), some (.inl (wr (v4 + 1))), none]) (by simp [Lle]) (ih24 (wr (v3 + 1)) (wr (v4 + 1)) g g' h)
        rw [if_neg hd] at h
        by_cases hx0 : (St_kind v3 g) = 0
        · rw [if_pos hx0] at h
          refine ev_sw (tgt := 100) rfl (by rw [hx0]; rfl) ?_
          show Ev 71 100 [some (.inr (.inr 33)), some (.inl c1), some (.inl c2), some (.inl v3), some (.inl v4), some (.inl (St_value v3 g))] [] g _ _
          refine ev_runs 3 (100, [some (.inr (.inr 33)), some (.inl c1), some (.inl c2), some (.inl v3), some (.inl v4), some (.inl (St_value v3 g))], [], g) (104, [some (.inr (.inr 33)), some (.inl c1), some (.inl c2), some (.inl v3), some (.inl v4), some (.inl (St_value v3 g))], [.inl (St_value v3 g), .inl c1, .inr (.inr 33)], g) rfl ?_
          obtain ⟨g1, hq, h⟩ := lett_inv h
          refine ec 63 107 [.inr (.inr 33), .inl c1, .inl (St_value v3 g)] [] rfl (ev_Hi_say c1 (St_value v3 g) g g1 hq.symm) ?_
          show Ev 71 107 [some (.inr (.inr 33)), some (.inl c1), some (.inl c2), some (.inl v3), some (.inl v4), some (.inl (St_value v3 g))] [] g1 _ _
          refine ev_runs 4 (107, [some (.inr (.inr 33)), some (.inl c1), some (.inl c2), some (.inl v3), some (.inl v4), some (.inl (St_value v3 g))], [], g1) (24, [some (.inr (.inr 33)), some (.inl c1), some (.inl c2), some (.inl (wr (v3 + 1))), some (.inl (wr (v4 + 1))), some (.inl (St_value v3 g))], [], g1) rfl ?_
          exact ev_le (L := [some (.inr (.inr 33)), some (.inl c1), some (.inl c2), some (.inl (wr (v3 + 1))), some (.inl (wr (v4 + 1))), none]) (by simp [Lle]) (ih24 (wr (v3 + 1)) (wr (v4 + 1)) g1 g' h)
        rw [if_neg hx0] at h
        by_cases hx1 : (St_kind v3 g) = 1
        · rw [if_pos hx1] at h
          refine ev_sw (tgt := 113) rfl (by rw [hx1]; rfl) ?_
          show Ev 71 113 [some (.inr (.inr 33)), some (.inl c1), some (.inl c2), some (.inl v3), some (.inl v4), some (.inl (St_value v3 g))] [] g _ _
          refine ev_runs 7 (113, [some (.inr (.inr 33)), some (.inl c1), some (.inl c2), some (.inl v3), some (.inl v4), some (.inl (St_value v3 g))], [], g) (124, [some (.inr (.inr 33)), some (.inl c1), some (.inl c2), some (.inl v3), some (.inl v4), some (.inl (St_value v3 g))], [.inl c2, .inl (St_value v3 g), .inl c1, .inr (.inr 33), .inl (St_value v3 g), .inr (.inr 7)], g) rfl ?_
          obtain ⟨q2, hq, h⟩ := Option.bind_eq_some_iff.mp h
          refine ec 66 127 [.inr (.inr 33), .inl c1, .inl (St_value v3 g), .inl c2] [.inl (St_value v3 g), .inr (.inr 7)] rfl (ev_Hi_choose c1 (St_value v3 g) c2 g q2.1 q2.2 hq) ?_
          show Ev 71 127 [some (.inr (.inr 33)), some (.inl c1), some (.inl c2), some (.inl v3), some (.inl v4), some (.inl (St_value v3 g))] [.inl q2.1, .inl (St_value v3 g), .inr (.inr 7)] q2.2 _ _
          refine ec 67 130 [.inr (.inr 7), .inl (St_value v3 g), .inl q2.1] [] rfl (ev_St_wayStart (St_value v3 g) q2.1 q2.2 _ rfl) ?_
          show Ev 71 130 [some (.inr (.inr 33)), some (.inl c1), some (.inl c2), some (.inl v3), some (.inl v4), some (.inl (St_value v3 g))] [.inl (St_wayStart (St_value v3 g) q2.1 q2.2)] q2.2 _ _
          refine ev_runs 4 (130, [some (.inr (.inr 33)), some (.inl c1), some (.inl c2), some (.inl v3), some (.inl v4), some (.inl (St_value v3 g))], [.inl (St_wayStart (St_value v3 g) q2.1 q2.2)], q2.2) (24, [some (.inr (.inr 33)), some (.inl c1), some (.inl c2), some (.inl (St_wayStart (St_value v3 g) q2.1 q2.2)), some (.inl (wr (v4 + 1))), some (.inl (St_value v3 g))], [], q2.2) rfl ?_
          exact ev_le (L := [some (.inr (.inr 33)), some (.inl c1), some (.inl c2), some (.inl (St_wayStart (St_value v3 g) q2.1 q2.2)), some (.inl (wr (v4 + 1))), none]) (by simp [Lle]) (ih24 (St_wayStart (St_value v3 g) q2.1 q2.2) (wr (v4 + 1)) q2.2 g' h)
        rw [if_neg hx1] at h
        by_cases hx2 : (St_kind v3 g) = 2
        · rw [if_pos hx2] at h
          refine ev_sw (tgt := 134) rfl (by rw [hx2]; rfl) ?_
          show Ev 71 134 [some (.inr (.inr 33)), some (.inl c1), some (.inl c2), some (.inl v3), some (.inl v4), some (.inl (St_value v3 g))] [] g _ _
          refine ev_runs 3 (134, [some (.inr (.inr 33)), some (.inl c1), some (.inl c2), some (.inl v3), some (.inl v4), some (.inl (St_value v3 g))], [], g) (140, [some (.inr (.inr 33)), some (.inl c1), some (.inl c2), some (.inl v3), some (.inl v4), some (.inl (St_value v3 g))], [.inl (St_value v3 g), .inr (.inr 7)], g) rfl ?_
          refine ec 68 143 [.inr (.inr 7), .inl (St_value v3 g)] [] rfl (ev_St_end (St_value v3 g) g _ rfl) ?_
          show Ev 71 143 [some (.inr (.inr 33)), some (.inl c1), some (.inl c2), some (.inl v3), some (.inl v4), some (.inl (St_value v3 g))] [.inl (St_end (St_value v3 g) g)] g _ _
          refine ev_runs 4 (143, [some (.inr (.inr 33)), some (.inl c1), some (.inl c2), some (.inl v3), some (.inl v4), some (.inl (St_value v3 g))], [.inl (St_end (St_value v3 g) g)], g) (24, [some (.inr (.inr 33)), some (.inl c1), some (.inl c2), some (.inl (St_end (St_value v3 g) g)), some (.inl (wr (v4 + 1))), some (.inl (St_value v3 g))], [], g) rfl ?_
          exact ev_le (L := [some (.inr (.inr 33)), some (.inl c1), some (.inl c2), some (.inl (St_end (St_value v3 g) g)), some (.inl (wr (v4 + 1))), none]) (by simp [Lle]) (ih24 (St_end (St_value v3 g) g) (wr (v4 + 1)) g g' h)
        rw [if_neg hx2] at h
        by_cases hx3 : (St_kind v3 g) = 3
        · rw [if_pos hx3] at h
          refine ev_sw (tgt := 171) rfl (by rw [hx3]; rfl) ?_
          show Ev 71 171 [some (.inr (.inr 33)), some (.inl c1), some (.inl c2), some (.inl v3), some (.inl v4), some (.inl (St_value v3 g))] [] g _ _
          refine ev_runs 3 (171, [some (.inr (.inr 33)), some (.inl c1), some (.inl c2), some (.inl v3), some (.inl v4), some (.inl (St_value v3 g))], [], g) (24, [some (.inr (.inr 33)), some (.inl c1), some (.inl c2), some (.inl (wr (v3 + 1))), some (.inl (wr (v4 + 1))), some (.inl (St_value v3 g))], [], g) rfl ?_
          exact ev_le (L := [some (.inr (.inr 33)), some (.inl c1), some (.inl c2), some (.inl (wr (v3 + 1))), some (.inl (wr (v4 + 1))), none]) (by simp [Lle]) (ih24 (wr (v3 + 1)) (wr (v4 + 1)) g g' h)
        rw [if_neg hx3] at h
        by_cases hx4 : (St_kind v3 g) = 4
        · rw [if_pos hx4] at h
          refine ev_sw (tgt := 147) rfl (by rw [hx4]; rfl) ?_
          show Ev 71 147 [some (.inr (.inr 33)), some (.inl c1), some (.inl c2), some (.inl v3), some (.inl v4), some (.inl (St_value v3 g))] [] g _ _
          refine ev_runs 4 (147, [some (.inr (.inr 33)), some (.inl c1), some (.inl c2), some (.inl v3), some (.inl v4), some (.inl (St_value v3 g))], [], g) (154, [some (.inr (.inr 33)), some (.inl c1), some (.inl c2), some (.inl (wr (v3 + 1))), some (.inl v4), some (.inl (St_value v3 g))], [.inl (St_value v3 g), .inl (wr (v3 + 1)), .inr (.inr 33)], g) rfl ?_
          obtain ⟨g3, hq, h⟩ := lett_inv h
          refine ec 69 157 [.inr (.inr 33), .inl (wr (v3 + 1)), .inl (St_value v3 g)] [] rfl (ev_Hi_beginRounds (wr (v3 + 1)) (St_value v3 g) g g3 hq.symm) ?_
          show Ev 71 157 [some (.inr (.inr 33)), some (.inl c1), some (.inl c2), some (.inl (wr (v3 + 1))), some (.inl v4), some (.inl (St_value v3 g))] [] g3 _ _
          refine ev_runs 3 (157, [some (.inr (.inr 33)), some (.inl c1), some (.inl c2), some (.inl (wr (v3 + 1))), some (.inl v4), some (.inl (St_value v3 g))], [], g3) (24, [some (.inr (.inr 33)), some (.inl c1), some (.inl c2), some (.inl (wr (v3 + 1))), some (.inl (wr (v4 + 1))), some (.inl (St_value v3 g))], [], g3) rfl ?_
          exact ev_le (L := [some (.inr (.inr 33)), some (.inl c1), some (.inl c2), some (.inl (wr (v3 + 1))), some (.inl (wr (v4 + 1))), none]) (by simp [Lle]) (ih24 (wr (v3 + 1)) (wr (v4 + 1)) g3 g' h)
        rw [if_neg hx4] at h
        have hx5 : (St_kind v3 g) = 5 := by omega
        · skip
          refine ev_sw (tgt := 160) rfl (by rw [hx5]; rfl) ?_
          show Ev 71 160 [some (.inr (.inr 33)), some (.inl c1), some (.inl c2), some (.inl v3), some (.inl v4), some (.inl (St_value v3 g))] [] g _ _
          refine ev_runs 4 (160, [some (.inr (.inr 33)), some (.inl c1), some (.inl c2), some (.inl v3), some (.inl v4), some (.inl (St_value v3 g))], [], g) (164, [some (.inr (.inr 33)), some (.inl c1), some (.inl c2), some (.inl v3), some (.inl v4), some (.inl (St_value v3 g))], [.inl (wr (v3 + 1)), .inr (.inr 33)], g) rfl ?_
          obtain ⟨q4, hq, h⟩ := lett_inv h
          refine ec 70 167 [.inr (.inr 33), .inl (wr (v3 + 1))] [] rfl (ev_Hi_endRound (wr (v3 + 1)) g q4.1 q4.2 hq.symm) ?_
          show Ev 71 167 [some (.inr (.inr 33)), some (.inl c1), some (.inl c2), some (.inl v3), some (.inl v4), some (.inl (St_value v3 g))] [.inl q4.1] q4.2 _ _
          refine ev_runs 4 (167, [some (.inr (.inr 33)), some (.inl c1), some (.inl c2), some (.inl v3), some (.inl v4), some (.inl (St_value v3 g))], [.inl q4.1], q4.2) (24, [some (.inr (.inr 33)), some (.inl c1), some (.inl c2), some (.inl q4.1), some (.inl (wr (v4 + 1))), some (.inl (St_value v3 g))], [], q4.2) rfl ?_
          exact ev_le (L := [some (.inr (.inr 33)), some (.inl c1), some (.inl c2), some (.inl q4.1), some (.inl (wr (v4 + 1))), none]) (by simp [Lle]) (ih24 q4.1 (wr (v4 + 1)) q4.2 g' h)
set_option maxRecDepth 100000 in
set_option maxHeartbeats 4000000 in
theorem ev_Hi_walk (a1 a2 : Int) (g : Gx) (g' : Gx) (h : Hi_walk a1 a2 g = some g') : Ev 71 0 [some (.inr (.inr 33)), some (.inl a1), some (.inl a2), none, none, none] [] g none g' := by
  rw [Hi_walk] at h
  refine ev_runs 4 (0, [some (.inr (.inr 33)), some (.inl a1), some (.inl a2), none, none, none], [], g) (6, [some (.inr (.inr 33)), some (.inl a1), some (.inl a2), none, none, none], [.inl 0, .inl a1, .inr (.inr 36)], g) rfl ?_
  refine ec 0 9 [.inr (.inr 36), .inl a1, .inl 0] [] rfl (ev_Row_set rfl rfl _ _ _) ?_
  show Ev 71 9 [some (.inr (.inr 33)), some (.inl a1), some (.inl a2), none, none, none] [] (rset g 37 30 a1 0) _ _
  refine ev_runs 10 (9, [some (.inr (.inr 33)), some (.inl a1), some (.inl a2), none, none, none], [], (rset g 37 30 a1 0)) (24, [some (.inr (.inr 33)), some (.inl a1), some (.inl a2), some (.inl 0), some (.inl 0), none], [], (gset (gset (rset g 37 30 a1 0) 33 11 0) 33 12 0)) rfl ?_
  refine ev_le (L := [some (.inr (.inr 33)), some (.inl a1), some (.inl a2), some (.inl 0), some (.inl 0), none]) (by simp [Lle]) ?_
  refine ev_Hi_walk_l24 a1 a2 _ ?_ fu 0 0 (gset (gset (rset g 37 30 a1 0) 33 11 0) 33 12 0) g' h
  · intro g5 g' h
    cases h
    exact er rfl
set_option maxRecDepth 100000 in
set_option maxHeartbeats 4000000 in
theorem ev_Hi_turn_l7 (c1 : Int) (K7_90 : Gx → Option (Int × Gx)) (hK7_90 : ∀ (g : Gx) (r : Int) (g' : Gx), K7_90 g = some (r, g') → Ev 72 90 [none, none, none, none] [] g (some (.inl r)) g') : ∀ (n7 : Nat) (v2 : Int) (g : Gx) (r : Int) (g' : Gx), Hi_turn_l7 c1 K7_90 n7 v2 g = some (r, g') → Ev 72 7 [some (.inr (.inr 33)), some (.inl c1), some (.inl v2), none] [] g (some (.inl r)) g' := by
  intro n7
  induction n7 with
  | zero => intro v2 g r g' h; cases h
  | succ n7 ih7 =>
    intro v2 g r g' h
    rw [Hi_turn_l7] at h
    refine ev_runs 1 (7, [some (.inr (.inr 33)), some (.inl c1), some (.inl v2), none], [], g) (8, [some (.inr (.inr 33)), some (.inl c1), some (.inl v2), none], [.inl v2], g) rfl ?_
    by_cases hc : v2 < 0
    · rw [if_pos hc] at h
      refine es (90, [some (.inr (.inr 33)), some (.inl c1), some (.inl v2), none], [], g) (congrArg some (if_pos hc)) ?_
      exact ev_le (L := [none, none, none, none]) (by simp [Lle]) (hK7_90 g r g' h)
    · rw [if_neg hc] at h
      refine es (11, [some (.inr (.inr 33)), some (.inl c1), some (.inl v2), none], [], g) (congrArg some (if_neg hc)) ?_
      refine ev_runs 3 (11, [some (.inr (.inr 33)), some (.inl c1), some (.inl v2), none], [], g) (16, [some (.inr (.inr 33)), some (.inl c1), some (.inl v2), none], [.inl v2, .inr (.inr 40)], g) rfl ?_
      refine ec 13 19 [.inr (.inr 40), .inl v2] [] rfl (ev_Row_at rfl rfl _ _) ?_
      show Ev 72 19 [some (.inr (.inr 33)), some (.inl c1), some (.inl v2), none] [.inl (rat g 41 30 v2)] g _ _
      refine ev_runs 4 (19, [some (.inr (.inr 33)), some (.inl c1), some (.inl v2), none], [.inl (rat g 41 30 v2)], g) (25, [some (.inr (.inr 33)), some (.inl c1), some (.inl v2), some (.inl (rat g 41 30 v2))], [.inl v2, .inr (.inr 38)], g) rfl ?_
      refine ec 13 28 [.inr (.inr 38), .inl v2] [] rfl (ev_Row_at rfl rfl _ _) ?_
      show Ev 72 28 [some (.inr (.inr 33)), some (.inl c1), some (.inl v2), some (.inl (rat g 41 30 v2))] [.inl (rat g 39 30 v2)] g _ _
      refine ev_runs 5 (28, [some (.inr (.inr 33)), some (.inl c1), some (.inl v2), some (.inl (rat g 41 30 v2))], [.inl (rat g 39 30 v2)], g) (35, [some (.inr (.inr 33)), some (.inl c1), some (.inl v2), some (.inl (rat g 41 30 v2))], [.inl (rat g 41 30 v2), .inr (.inr 7), .inl (wr ((rat g 39 30 v2) + 1))], g) rfl ?_
      refine ec 26 38 [.inr (.inr 7), .inl (rat g 41 30 v2)] [.inl (wr ((rat g 39 30 v2) + 1))] rfl (ev_St_wayCount (rat g 41 30 v2) g _ rfl) ?_
      show Ev 72 38 [some (.inr (.inr 33)), some (.inl c1), some (.inl v2), some (.inl (rat g 41 30 v2))] [.inl (St_wayCount (rat g 41 30 v2) g), .inl (wr ((rat g 39 30 v2) + 1))] g _ _
      by_cases hc : (St_wayCount (rat g 41 30 v2) g) ≤ (wr ((rat g 39 30 v2) + 1))
      · rw [if_pos hc] at h
        refine es (84, [some (.inr (.inr 33)), some (.inl c1), some (.inl v2), some (.inl (rat g 41 30 v2))], [], g) (congrArg some (if_pos hc)) ?_
        refine ev_runs 2 (84, [some (.inr (.inr 33)), some (.inl c1), some (.inl v2), some (.inl (rat g 41 30 v2))], [], g) (7, [some (.inr (.inr 33)), some (.inl c1), some (.inl (wr (v2 + (-1)))), some (.inl (rat g 41 30 v2))], [], g) rfl ?_
        exact ev_le (L := [some (.inr (.inr 33)), some (.inl c1), some (.inl (wr (v2 + (-1)))), none]) (by simp [Lle]) (ih7 (wr (v2 + (-1))) g r g' h)
      · rw [if_neg hc] at h
        refine es (41, [some (.inr (.inr 33)), some (.inl c1), some (.inl v2), some (.inl (rat g 41 30 v2))], [], g) (congrArg some (if_neg hc)) ?_
        refine ev_runs 4 (41, [some (.inr (.inr 33)), some (.inl c1), some (.inl v2), some (.inl (rat g 41 30 v2))], [], g) (47, [some (.inr (.inr 33)), some (.inl c1), some (.inl v2), some (.inl (rat g 41 30 v2))], [.inl 1, .inl v2, .inr (.inr 38)], g) rfl ?_
        refine ec 22 50 [.inr (.inr 38), .inl v2, .inl 1] [] rfl (ev_Row_add rfl rfl _ _ _) ?_
        show Ev 72 50 [some (.inr (.inr 33)), some (.inl c1), some (.inl v2), some (.inl (rat g 41 30 v2))] [] (radd g 39 30 v2 1) _ _
        refine ev_runs 9 (50, [some (.inr (.inr 33)), some (.inl c1), some (.inl v2), some (.inl (rat g 41 30 v2))], [], (radd g 39 30 v2 1)) (63, [some (.inr (.inr 33)), some (.inl c1), some (.inl v2), some (.inl (rat g 41 30 v2))], [.inl v2, .inl c1, .inr (.inr 42)], (gset (radd g 39 30 v2 1) 33 10 (wr (v2 + 1)))) rfl ?_
        refine ec 0 66 [.inr (.inr 42), .inl c1, .inl v2] [] rfl (ev_Row_set rfl rfl _ _ _) ?_
        show Ev 72 66 [some (.inr (.inr 33)), some (.inl c1), some (.inl v2), some (.inl (rat g 41 30 v2))] [] (rset (gset (radd g 39 30 v2 1) 33 10 (wr (v2 + 1))) 43 30 c1 v2) _ _
        refine ev_runs 6 (66, [some (.inr (.inr 33)), some (.inl c1), some (.inl v2), some (.inl (rat g 41 30 v2))], [], (rset (gset (radd g 39 30 v2 1) 33 10 (wr (v2 + 1))) 43 30 c1 v2)) (76, [some (.inr (.inr 33)), some (.inl c1), some (.inl v2), some (.inl (rat g 41 30 v2))], [.inl (rat g 41 30 v2), .inr (.inr 7), .inl c1, .inr (.inr 44)], (rset (gset (radd g 39 30 v2 1) 33 10 (wr (v2 + 1))) 43 30 c1 v2)) rfl ?_
        refine ec 65 79 [.inr (.inr 7), .inl (rat g 41 30 v2)] [.inl c1, .inr (.inr 44)] rfl (ev_St_chooser (rat g 41 30 v2) (rset (gset (radd g 39 30 v2 1) 33 10 (wr (v2 + 1))) 43 30 c1 v2) _ rfl) ?_
        show Ev 72 79 [some (.inr (.inr 33)), some (.inl c1), some (.inl v2), some (.inl (rat g 41 30 v2))] [.inl (St_chooser (rat g 41 30 v2) (rset (gset (radd g 39 30 v2 1) 33 10 (wr (v2 + 1))) 43 30 c1 v2)), .inl c1, .inr (.inr 44)] (rset (gset (radd g 39 30 v2 1) 33 10 (wr (v2 + 1))) 43 30 c1 v2) _ _
        refine ec 0 82 [.inr (.inr 44), .inl c1, .inl (St_chooser (rat g 41 30 v2) (rset (gset (radd g 39 30 v2 1) 33 10 (wr (v2 + 1))) 43 30 c1 v2))] [] rfl (ev_Row_set rfl rfl _ _ _) ?_
        show Ev 72 82 [some (.inr (.inr 33)), some (.inl c1), some (.inl v2), some (.inl (rat g 41 30 v2))] [] (rset (rset (gset (radd g 39 30 v2 1) 33 10 (wr (v2 + 1))) 43 30 c1 v2) 45 30 c1 (St_chooser (rat g 41 30 v2) (rset (gset (radd g 39 30 v2 1) 33 10 (wr (v2 + 1))) 43 30 c1 v2))) _ _
        refine ev_runs 1 (82, [some (.inr (.inr 33)), some (.inl c1), some (.inl v2), some (.inl (rat g 41 30 v2))], [], (rset (rset (gset (radd g 39 30 v2 1) 33 10 (wr (v2 + 1))) 43 30 c1 v2) 45 30 c1 (St_chooser (rat g 41 30 v2) (rset (gset (radd g 39 30 v2 1) 33 10 (wr (v2 + 1))) 43 30 c1 v2)))) (83, [some (.inr (.inr 33)), some (.inl c1), some (.inl v2), some (.inl (rat g 41 30 v2))], [.inl 1], (rset (rset (gset (radd g 39 30 v2 1) 33 10 (wr (v2 + 1))) 43 30 c1 v2) 45 30 c1 (St_chooser (rat g 41 30 v2) (rset (gset (radd g 39 30 v2 1) 33 10 (wr (v2 + 1))) 43 30 c1 v2)))) rfl ?_
        cases h
        exact er rfl
set_option maxRecDepth 100000 in
set_option maxHeartbeats 4000000 in
theorem ev_Hi_turn (a1 : Int) (g : Gx) (r : Int) (g' : Gx) (h : Hi_turn a1 g = some (r, g')) : Ev 72 0 [some (.inr (.inr 33)), some (.inl a1), none, none] [] g (some (.inl r)) g' := by
  rw [Hi_turn] at h
  refine ev_runs 5 (0, [some (.inr (.inr 33)), some (.inl a1), none, none], [], g) (7, [some (.inr (.inr 33)), some (.inl a1), some (.inl (wr ((g 33 11) - 1))), none], [], g) rfl ?_
  refine ev_le (L := [some (.inr (.inr 33)), some (.inl a1), some (.inl (wr ((g 33 11) - 1))), none]) (by simp [Lle]) ?_
  refine ev_Hi_turn_l7 a1 _ ?_ fu (wr ((g 33 11) - 1)) g r g' h
  · intro g1 r g' h
    refine ev_runs 1 (90, [none, none, none, none], [], g1) (91, [none, none, none, none], [.inl 0], g1) rfl ?_
    cases h
    exact er rfl
set_option maxRecDepth 100000 in
set_option maxHeartbeats 4000000 in
theorem ev_Hi_make_l96 (c1 : Int) (K96_140 : Gx → Option (Int × Gx)) (hK96_140 : ∀ (g : Gx) (r : Int) (g' : Gx), K96_140 g = some (r, g') → Ev 73 140 [some (.inr (.inr 33)), none, none] [] g (some (.inl r)) g') : ∀ (n96 : Nat) (v2 : Int) (g : Gx) (r : Int) (g' : Gx), Hi_make_l96 c1 K96_140 n96 v2 g = some (r, g') → Ev 73 96 [some (.inr (.inr 33)), some (.inl c1), some (.inl v2)] [] g (some (.inl r)) g' := by
  intro n96
  induction n96 with
  | zero => intro v2 g r g' h; cases h
  | succ n96 ih96 =>
    intro v2 g r g' h
    rw [Hi_make_l96] at h
    refine ev_runs 1 (96, [some (.inr (.inr 33)), some (.inl c1), some (.inl v2)], [], g) (97, [some (.inr (.inr 33)), some (.inl c1), some (.inl v2)], [.inl v2], g) rfl ?_
    by_cases hc : v2 = 0
    · rw [if_pos hc] at h
      refine es (140, [some (.inr (.inr 33)), some (.inl c1), some (.inl v2)], [], g) (congrArg some (if_pos hc)) ?_
      exact ev_le (L := [some (.inr (.inr 33)), none, none]) (by simp [Lle]) (hK96_140 g r g' h)
    · rw [if_neg hc] at h
      refine es (100, [some (.inr (.inr 33)), some (.inl c1), some (.inl v2)], [], g) (congrArg some (if_neg hc)) ?_
      refine ev_runs 3 (100, [some (.inr (.inr 33)), some (.inl c1), some (.inl v2)], [], g) (106, [some (.inr (.inr 33)), some (.inl c1), some (.inl v2)], [.inl 30, .inl (g 33 9)], g) rfl ?_
      by_cases hc : 30 ≤ (g 33 9)
      · rw [if_pos hc] at h
        refine es (140, [some (.inr (.inr 33)), some (.inl c1), some (.inl v2)], [], g) (congrArg some (if_pos hc)) ?_
        exact ev_le (L := [some (.inr (.inr 33)), none, none]) (by simp [Lle]) (hK96_140 g r g' h)
      · rw [if_neg hc] at h
        refine es (109, [some (.inr (.inr 33)), some (.inl c1), some (.inl v2)], [], g) (congrArg some (if_neg hc)) ?_
        refine ev_runs 4 (109, [some (.inr (.inr 33)), some (.inl c1), some (.inl v2)], [], g) (115, [some (.inr (.inr 33)), some (.inl c1), some (.inl v2)], [.inl c1, .inl (g 33 9), .inr (.inr 33)], g) rfl ?_
        obtain ⟨g2, hq, h⟩ := Option.bind_eq_some_iff.mp h
        refine ec 71 118 [.inr (.inr 33), .inl (g 33 9), .inl c1] [] rfl (ev_Hi_walk (g 33 9) c1 g g2 hq) ?_
        show Ev 73 118 [some (.inr (.inr 33)), some (.inl c1), some (.inl v2)] [] g2 _ _
        refine ev_runs 3 (118, [some (.inr (.inr 33)), some (.inl c1), some (.inl v2)], [], g2) (123, [some (.inr (.inr 33)), some (.inl c1), some (.inl v2)], [.inl (g2 33 9), .inr (.inr 33)], g2) rfl ?_
        obtain ⟨q3, hq, h⟩ := Option.bind_eq_some_iff.mp h
        refine ec 72 126 [.inr (.inr 33), .inl (g2 33 9)] [] rfl (ev_Hi_turn (g2 33 9) g2 q3.1 q3.2 hq) ?_
        show Ev 73 126 [some (.inr (.inr 33)), some (.inl c1), some (.inl v2)] [.inl q3.1] q3.2 _ _
        refine ev_runs 8 (126, [some (.inr (.inr 33)), some (.inl c1), some (.inl v2)], [.inl q3.1], q3.2) (96, [some (.inr (.inr 33)), some (.inl c1), some (.inl q3.1)], [], (gset q3.2 33 9 (wr ((q3.2 33 9) + 1)))) rfl ?_
        exact ev_le (L := [some (.inr (.inr 33)), some (.inl c1), some (.inl q3.1)]) (by simp [Lle]) (ih96 q3.1 (gset q3.2 33 9 (wr ((q3.2 33 9) + 1))) r g' h)
set_option maxRecDepth 100000 in
set_option maxHeartbeats 4000000 in
theorem ev_Hi_make (a1 : Int) (g : Gx) (r : Int) (g' : Gx) (h : Hi_make a1 g = some (r, g')) : Ev 73 0 [some (.inr (.inr 33)), some (.inl a1), none] [] g (some (.inl r)) g' := by
  rw [Hi_make] at h
  refine ev_runs 4 (0, [some (.inr (.inr 33)), some (.inl a1), none], [], g) (8, [some (.inr (.inr 33)), some (.inl a1), none], [.inr (.inr 7), .inl (g 33 13)], g) rfl ?_
  refine ec 53 11 [.inr (.inr 7)] [.inl (g 33 13)] rfl (ev_St_version g _ rfl) ?_
  show Ev 73 11 [some (.inr (.inr 33)), some (.inl a1), none] [.inl (St_version g), .inl (g 33 13)] g _ _
  by_cases hc : ¬ (g 33 13) = (St_version g)
  · rw [if_pos hc] at h
    refine es (35, [some (.inr (.inr 33)), some (.inl a1), none], [], g) (congrArg some (if_pos hc)) ?_
    refine ev_runs 3 (35, [some (.inr (.inr 33)), some (.inl a1), none], [], g) (40, [some (.inr (.inr 33)), some (.inl a1), none], [.inr (.inr 7), .inr (.inr 33)], g) rfl ?_
    refine ec 53 43 [.inr (.inr 7)] [.inr (.inr 33)] rfl (ev_St_version g _ rfl) ?_
    show Ev 73 43 [some (.inr (.inr 33)), some (.inl a1), none] [.inl (St_version g), .inr (.inr 33)] g _ _
    refine ev_runs 20 (43, [some (.inr (.inr 33)), some (.inl a1), none], [.inl (St_version g), .inr (.inr 33)], g) (77, [some (.inr (.inr 33)), some (.inl a1), none], [.inl a1, .inr (.inr 7), .inr (.inr 33)], (gset (gset (gset (gset (gset g 33 13 (St_version g)) 33 14 a1) 33 16 (wr ((g 33 16) + 1))) 33 9 0) 33 10 0)) rfl ?_
    obtain ⟨q1, hq, h⟩ := Option.bind_eq_some_iff.mp h
    refine ec 60 80 [.inr (.inr 7), .inl a1] [.inr (.inr 33)] rfl (ev_St_isTooMuch a1 (gset (gset (gset (gset (gset g 33 13 (St_version g)) 33 14 a1) 33 16 (wr ((g 33 16) + 1))) 33 9 0) 33 10 0) q1.1 q1.2 hq) ?_
    show Ev 73 80 [some (.inr (.inr 33)), some (.inl a1), none] [.inl q1.1, .inr (.inr 33)] q1.2 _ _
    by_cases hc : q1.1 = 0 ∨ q1.1 = 1
    · rw [if_pos hc] at h
      refine es (83, [some (.inr (.inr 33)), some (.inl a1), none], [], (gset q1.2 33 15 q1.1)) (if_pos hc) ?_
      refine ev_runs 2 (83, [some (.inr (.inr 33)), some (.inl a1), none], [], (gset q1.2 33 15 q1.1)) (87, [some (.inr (.inr 33)), some (.inl a1), none], [.inl q1.1], (gset q1.2 33 15 q1.1)) rfl ?_
      by_cases hc : ¬ q1.1 = 0
      · rw [if_pos hc] at h
        refine es (94, [some (.inr (.inr 33)), some (.inl a1), none], [], (gset q1.2 33 15 q1.1)) (congrArg some (if_pos hc)) ?_
        refine ev_runs 2 (94, [some (.inr (.inr 33)), some (.inl a1), none], [], (gset q1.2 33 15 q1.1)) (96, [some (.inr (.inr 33)), some (.inl a1), some (.inl 0)], [], (gset q1.2 33 15 q1.1)) rfl ?_
        refine ev_le (L := [some (.inr (.inr 33)), some (.inl a1), some (.inl 0)]) (by simp [Lle]) ?_
        refine ev_Hi_make_l96 a1 _ ?_ fu 0 (gset q1.2 33 15 q1.1) r g' h
        · intro g4 r g' h
          refine ev_runs 2 (140, [some (.inr (.inr 33)), none, none], [], g4) (144, [some (.inr (.inr 33)), none, none], [.inl (g4 33 15)], g4) rfl ?_
          by_cases hc : ¬ (g4 33 15) = 0
          · rw [if_pos hc] at h
            refine es (151, [some (.inr (.inr 33)), none, none], [], g4) (congrArg some (if_pos hc)) ?_
            refine ev_runs 1 (151, [some (.inr (.inr 33)), none, none], [], g4) (152, [some (.inr (.inr 33)), none, none], [.inl 0], g4) rfl ?_
            cases h
            exact er rfl
          · rw [if_neg hc] at h
            refine es (147, [some (.inr (.inr 33)), none, none], [], g4) (congrArg some (if_neg hc)) ?_
            refine ev_runs 2 (147, [some (.inr (.inr 33)), none, none], [], g4) (152, [some (.inr (.inr 33)), none, none], [.inl 1], g4) rfl ?_
            cases h
            exact er rfl
      · rw [if_neg hc] at h
        refine es (90, [some (.inr (.inr 33)), some (.inl a1), none], [], (gset q1.2 33 15 q1.1)) (congrArg some (if_neg hc)) ?_
        refine ev_runs 3 (90, [some (.inr (.inr 33)), some (.inl a1), none], [], (gset q1.2 33 15 q1.1)) (96, [some (.inr (.inr 33)), some (.inl a1), some (.inl 1)], [], (gset q1.2 33 15 q1.1)) rfl ?_
        refine ev_le (L := [some (.inr (.inr 33)), some (.inl a1), some (.inl 1)]) (by simp [Lle]) ?_
        refine ev_Hi_make_l96 a1 _ ?_ fu 1 (gset q1.2 33 15 q1.1) r g' h
        · intro g5 r g' h
          refine ev_runs 2 (140, [some (.inr (.inr 33)), none, none], [], g5) (144, [some (.inr (.inr 33)), none, none], [.inl (g5 33 15)], g5) rfl ?_
          by_cases hc : ¬ (g5 33 15) = 0
          · rw [if_pos hc] at h
            refine es (151, [some (.inr (.inr 33)), none, none], [], g5) (congrArg some (if_pos hc)) ?_
            refine ev_runs 1 (151, [some (.inr (.inr 33)), none, none], [], g5) (152, [some (.inr (.inr 33)), none, none], [.inl 0], g5) rfl ?_
            cases h
            exact er rfl
          · rw [if_neg hc] at h
            refine es (147, [some (.inr (.inr 33)), none, none], [], g5) (congrArg some (if_neg hc)) ?_
            refine ev_runs 2 (147, [some (.inr (.inr 33)), none, none], [], g5) (152, [some (.inr (.inr 33)), none, none], [.inl 1], g5) rfl ?_
            cases h
            exact er rfl
    · rw [if_neg hc] at h; cases h
  · rw [if_neg hc] at h
    refine es (14, [some (.inr (.inr 33)), some (.inl a1), none], [], g) (congrArg some (if_neg hc)) ?_
    refine ev_runs 3 (14, [some (.inr (.inr 33)), some (.inl a1), none], [], g) (19, [some (.inr (.inr 33)), some (.inl a1), none], [.inl a1, .inl (g 33 14)], g) rfl ?_
    by_cases hc : ¬ (g 33 14) = a1
    · rw [if_pos hc] at h
      refine es (35, [some (.inr (.inr 33)), some (.inl a1), none], [], g) (congrArg some (if_pos hc)) ?_
      refine ev_runs 3 (35, [some (.inr (.inr 33)), some (.inl a1), none], [], g) (40, [some (.inr (.inr 33)), some (.inl a1), none], [.inr (.inr 7), .inr (.inr 33)], g) rfl ?_
      refine ec 53 43 [.inr (.inr 7)] [.inr (.inr 33)] rfl (ev_St_version g _ rfl) ?_
      show Ev 73 43 [some (.inr (.inr 33)), some (.inl a1), none] [.inl (St_version g), .inr (.inr 33)] g _ _
      refine ev_runs 20 (43, [some (.inr (.inr 33)), some (.inl a1), none], [.inl (St_version g), .inr (.inr 33)], g) (77, [some (.inr (.inr 33)), some (.inl a1), none], [.inl a1, .inr (.inr 7), .inr (.inr 33)], (gset (gset (gset (gset (gset g 33 13 (St_version g)) 33 14 a1) 33 16 (wr ((g 33 16) + 1))) 33 9 0) 33 10 0)) rfl ?_
      obtain ⟨q6, hq, h⟩ := Option.bind_eq_some_iff.mp h
      refine ec 60 80 [.inr (.inr 7), .inl a1] [.inr (.inr 33)] rfl (ev_St_isTooMuch a1 (gset (gset (gset (gset (gset g 33 13 (St_version g)) 33 14 a1) 33 16 (wr ((g 33 16) + 1))) 33 9 0) 33 10 0) q6.1 q6.2 hq) ?_
      show Ev 73 80 [some (.inr (.inr 33)), some (.inl a1), none] [.inl q6.1, .inr (.inr 33)] q6.2 _ _
      by_cases hc : q6.1 = 0 ∨ q6.1 = 1
      · rw [if_pos hc] at h
        refine es (83, [some (.inr (.inr 33)), some (.inl a1), none], [], (gset q6.2 33 15 q6.1)) (if_pos hc) ?_
        refine ev_runs 2 (83, [some (.inr (.inr 33)), some (.inl a1), none], [], (gset q6.2 33 15 q6.1)) (87, [some (.inr (.inr 33)), some (.inl a1), none], [.inl q6.1], (gset q6.2 33 15 q6.1)) rfl ?_
        by_cases hc : ¬ q6.1 = 0
        · rw [if_pos hc] at h
          refine es (94, [some (.inr (.inr 33)), some (.inl a1), none], [], (gset q6.2 33 15 q6.1)) (congrArg some (if_pos hc)) ?_
          refine ev_runs 2 (94, [some (.inr (.inr 33)), some (.inl a1), none], [], (gset q6.2 33 15 q6.1)) (96, [some (.inr (.inr 33)), some (.inl a1), some (.inl 0)], [], (gset q6.2 33 15 q6.1)) rfl ?_
          refine ev_le (L := [some (.inr (.inr 33)), some (.inl a1), some (.inl 0)]) (by simp [Lle]) ?_
          refine ev_Hi_make_l96 a1 _ ?_ fu 0 (gset q6.2 33 15 q6.1) r g' h
          · intro g7 r g' h
            refine ev_runs 2 (140, [some (.inr (.inr 33)), none, none], [], g7) (144, [some (.inr (.inr 33)), none, none], [.inl (g7 33 15)], g7) rfl ?_
            by_cases hc : ¬ (g7 33 15) = 0
            · rw [if_pos hc] at h
              refine es (151, [some (.inr (.inr 33)), none, none], [], g7) (congrArg some (if_pos hc)) ?_
              refine ev_runs 1 (151, [some (.inr (.inr 33)), none, none], [], g7) (152, [some (.inr (.inr 33)), none, none], [.inl 0], g7) rfl ?_
              cases h
              exact er rfl
            · rw [if_neg hc] at h
              refine es (147, [some (.inr (.inr 33)), none, none], [], g7) (congrArg some (if_neg hc)) ?_
              refine ev_runs 2 (147, [some (.inr (.inr 33)), none, none], [], g7) (152, [some (.inr (.inr 33)), none, none], [.inl 1], g7) rfl ?_
              cases h
              exact er rfl
        · rw [if_neg hc] at h
          refine es (90, [some (.inr (.inr 33)), some (.inl a1), none], [], (gset q6.2 33 15 q6.1)) (congrArg some (if_neg hc)) ?_
          refine ev_runs 3 (90, [some (.inr (.inr 33)), some (.inl a1), none], [], (gset q6.2 33 15 q6.1)) (96, [some (.inr (.inr 33)), some (.inl a1), some (.inl 1)], [], (gset q6.2 33 15 q6.1)) rfl ?_
          refine ev_le (L := [some (.inr (.inr 33)), some (.inl a1), some (.inl 1)]) (by simp [Lle]) ?_
          refine ev_Hi_make_l96 a1 _ ?_ fu 1 (gset q6.2 33 15 q6.1) r g' h
          · intro g8 r g' h
            refine ev_runs 2 (140, [some (.inr (.inr 33)), none, none], [], g8) (144, [some (.inr (.inr 33)), none, none], [.inl (g8 33 15)], g8) rfl ?_
            by_cases hc : ¬ (g8 33 15) = 0
            · rw [if_pos hc] at h
              refine es (151, [some (.inr (.inr 33)), none, none], [], g8) (congrArg some (if_pos hc)) ?_
              refine ev_runs 1 (151, [some (.inr (.inr 33)), none, none], [], g8) (152, [some (.inr (.inr 33)), none, none], [.inl 0], g8) rfl ?_
              cases h
              exact er rfl
            · rw [if_neg hc] at h
              refine es (147, [some (.inr (.inr 33)), none, none], [], g8) (congrArg some (if_neg hc)) ?_
              refine ev_runs 2 (147, [some (.inr (.inr 33)), none, none], [], g8) (152, [some (.inr (.inr 33)), none, none], [.inl 1], g8) rfl ?_
              cases h
              exact er rfl
      · rw [if_neg hc] at h; cases h
    · rw [if_neg hc] at h
      refine es (22, [some (.inr (.inr 33)), some (.inl a1), none], [], g) (congrArg some (if_neg hc)) ?_
      refine ev_runs 2 (22, [some (.inr (.inr 33)), some (.inl a1), none], [], g) (26, [some (.inr (.inr 33)), some (.inl a1), none], [.inl (g 33 15)], g) rfl ?_
      by_cases hc : ¬ (g 33 15) = 0
      · rw [if_pos hc] at h
        refine es (33, [some (.inr (.inr 33)), some (.inl a1), none], [], g) (congrArg some (if_pos hc)) ?_
        refine ev_runs 1 (33, [some (.inr (.inr 33)), some (.inl a1), none], [], g) (34, [some (.inr (.inr 33)), some (.inl a1), none], [.inl 0], g) rfl ?_
        cases h
        exact er rfl
      · rw [if_neg hc] at h
        refine es (29, [some (.inr (.inr 33)), some (.inl a1), none], [], g) (congrArg some (if_neg hc)) ?_
        refine ev_runs 2 (29, [some (.inr (.inr 33)), some (.inl a1), none], [], g) (34, [some (.inr (.inr 33)), some (.inl a1), none], [.inl 1], g) rfl ?_
        cases h
        exact er rfl
set_option maxRecDepth 100000 in
set_option maxHeartbeats 4000000 in
theorem ev_Hi_size (g : Gx) (r : Int) (h : Hi_size g = r) : Ev 74 0 [some (.inr (.inr 33))] [] g (some (.inl r)) g := by
  rw [Hi_size] at h
  refine ev_runs 2 (0, [some (.inr (.inr 33))], [], g) (4, [some (.inr (.inr 33))], [.inl (g 33 9)], g) rfl ?_
  subst h
  exact er rfl
set_option maxRecDepth 100000 in
set_option maxHeartbeats 4000000 in
theorem ev_Op_hindrance (a1 : Int) (g : Gx) (r : Int) (g' : Gx) (h : Op_hindrance a1 g = some (r, g')) : Ev 75 0 [some (.inr (.inr 0)), some (.inl a1)] [] g (some (.inl r)) g' := by
  rw [Op_hindrance] at h
  refine ev_runs 2 (0, [some (.inr (.inr 0)), some (.inl a1)], [], g) (4, [some (.inr (.inr 0)), some (.inl a1)], [.inr (.inr 28)], g) rfl ?_
  obtain ⟨q1, hq, h⟩ := Option.bind_eq_some_iff.mp h
  refine ec 32 7 [.inr (.inr 28)] [] rfl (ev_Pr_firstFault g q1.1 q1.2 hq) ?_
  show Ev 75 7 [some (.inr (.inr 0)), some (.inl a1)] [.inl q1.1] q1.2 _ _
  refine ev_runs 1 (7, [some (.inr (.inr 0)), some (.inl a1)], [.inl q1.1], q1.2) (8, [some (.inr (.inr 0)), some (.inl a1)], [.inl (-1), .inl q1.1], q1.2) rfl ?_
  by_cases hc : q1.1 = (-1)
  · rw [if_pos hc] at h
    refine es (14, [some (.inr (.inr 0)), some (.inl a1)], [], q1.2) (congrArg some (if_pos hc)) ?_
    refine ev_runs 4 (14, [some (.inr (.inr 0)), some (.inl a1)], [], q1.2) (22, [some (.inr (.inr 0)), some (.inl a1)], [.inl (q1.2 0 11), .inr (.inr 33)], q1.2) rfl ?_
    obtain ⟨q2, hq, h⟩ := Option.bind_eq_some_iff.mp h
    refine ec 73 25 [.inr (.inr 33), .inl (q1.2 0 11)] [] rfl (ev_Hi_make (q1.2 0 11) q1.2 q2.1 q2.2 hq) ?_
    show Ev 75 25 [some (.inr (.inr 0)), some (.inl a1)] [.inl q2.1] q2.2 _ _
    by_cases hc : ¬ q2.1 = 0
    · rw [if_pos hc] at h
      refine es (31, [some (.inr (.inr 0)), some (.inl a1)], [], q2.2) (congrArg some (if_pos hc)) ?_
      refine ev_runs 3 (31, [some (.inr (.inr 0)), some (.inl a1)], [], q2.2) (36, [some (.inr (.inr 0)), some (.inl a1)], [.inr (.inr 33), .inl a1], q2.2) rfl ?_
      refine ec 74 39 [.inr (.inr 33)] [.inl a1] rfl (ev_Hi_size q2.2 _ rfl) ?_
      show Ev 75 39 [some (.inr (.inr 0)), some (.inl a1)] [.inl (Hi_size q2.2), .inl a1] q2.2 _ _
      by_cases hc : (Hi_size q2.2) ≤ a1
      · rw [if_pos hc] at h
        refine es (46, [some (.inr (.inr 0)), some (.inl a1)], [], q2.2) (congrArg some (if_pos hc)) ?_
        refine ev_runs 1 (46, [some (.inr (.inr 0)), some (.inl a1)], [], q2.2) (48, [some (.inr (.inr 0)), some (.inl a1)], [.inl (-2)], q2.2) rfl ?_
        cases h
        exact er rfl
      · rw [if_neg hc] at h
        refine es (42, [some (.inr (.inr 0)), some (.inl a1)], [], q2.2) (congrArg some (if_neg hc)) ?_
        refine ev_runs 2 (42, [some (.inr (.inr 0)), some (.inl a1)], [], q2.2) (48, [some (.inr (.inr 0)), some (.inl a1)], [.inl 0], q2.2) rfl ?_
        cases h
        exact er rfl
    · rw [if_neg hc] at h
      refine es (28, [some (.inr (.inr 0)), some (.inl a1)], [], q2.2) (congrArg some (if_neg hc)) ?_
      refine ev_runs 1 (28, [some (.inr (.inr 0)), some (.inl a1)], [], q2.2) (30, [some (.inr (.inr 0)), some (.inl a1)], [.inl (-4)], q2.2) rfl ?_
      cases h
      exact er rfl
  · rw [if_neg hc] at h
    refine es (11, [some (.inr (.inr 0)), some (.inl a1)], [], q1.2) (congrArg some (if_neg hc)) ?_
    refine ev_runs 1 (11, [some (.inr (.inr 0)), some (.inl a1)], [], q1.2) (13, [some (.inr (.inr 0)), some (.inl a1)], [.inl (-3)], q1.2) rfl ?_
    cases h
    exact er rfl
set_option maxRecDepth 100000 in
set_option maxHeartbeats 4000000 in
theorem ev_Op_histories (g : Gx) (r : Int) (g' : Gx) (h : Op_histories g = some (r, g')) : Ev 76 0 [some (.inr (.inr 0)), none] [] g (some (.inl r)) g' := by
  rw [Op_histories] at h
  refine ev_runs 2 (0, [some (.inr (.inr 0)), none], [], g) (2, [some (.inr (.inr 0)), none], [.inl 0, .inr (.inr 0)], g) rfl ?_
  obtain ⟨q1, hq, h⟩ := Option.bind_eq_some_iff.mp h
  refine ec 75 5 [.inr (.inr 0), .inl 0] [] rfl (ev_Op_hindrance 0 g q1.1 q1.2 hq) ?_
  show Ev 76 5 [some (.inr (.inr 0)), none] [.inl q1.1] q1.2 _ _
  refine ev_runs 2 (5, [some (.inr (.inr 0)), none], [.inl q1.1], q1.2) (7, [some (.inr (.inr 0)), some (.inl q1.1)], [.inl q1.1], q1.2) rfl ?_
  by_cases hc : q1.1 = 0
  · rw [if_pos hc] at h
    refine es (14, [some (.inr (.inr 0)), some (.inl q1.1)], [], q1.2) (congrArg some (if_pos hc)) ?_
    refine ev_runs 2 (14, [some (.inr (.inr 0)), some (.inl q1.1)], [], q1.2) (18, [some (.inr (.inr 0)), some (.inl q1.1)], [.inr (.inr 33)], q1.2) rfl ?_
    refine ec 74 21 [.inr (.inr 33)] [] rfl (ev_Hi_size q1.2 _ rfl) ?_
    show Ev 76 21 [some (.inr (.inr 0)), some (.inl q1.1)] [.inl (Hi_size q1.2)] q1.2 _ _
    cases h
    exact er rfl
  · rw [if_neg hc] at h
    refine es (10, [some (.inr (.inr 0)), some (.inl q1.1)], [], q1.2) (congrArg some (if_neg hc)) ?_
    refine ev_runs 2 (10, [some (.inr (.inr 0)), some (.inl q1.1)], [], q1.2) (21, [some (.inr (.inr 0)), some (.inl q1.1)], [.inl q1.1], q1.2) rfl ?_
    cases h
    exact er rfl
set_option maxRecDepth 100000 in
set_option maxHeartbeats 4000000 in
theorem ev_Md_says (a1 a2 a3 : Int) (g : Gx) (r : Int) (g' : Gx) (h : Md_says a1 a2 a3 g = some (r, g')) : Ev 77 0 [some (.inr (.inr 92)), some (.inl a1), some (.inl a2), some (.inl a3)] [] g (some (.inl r)) g' := by
  rw [Md_says] at h
  refine ev_runs 3 (0, [some (.inr (.inr 92)), some (.inl a1), some (.inl a2), some (.inl a3)], [], g) (6, [some (.inr (.inr 92)), some (.inl a1), some (.inl a2), some (.inl a3)], [.inl 24, .inl (g 92 36)], g) rfl ?_
  by_cases hc : ¬ (g 92 36) = 24
  · rw [if_pos hc] at h
    refine es (11, [some (.inr (.inr 92)), some (.inl a1), some (.inl a2), some (.inl a3)], [], g) (congrArg some (if_pos hc)) ?_
    refine ev_runs 3 (11, [some (.inr (.inr 92)), some (.inl a1), some (.inl a2), some (.inl a3)], [], g) (17, [some (.inr (.inr 92)), some (.inl a1), some (.inl a2), some (.inl a3)], [.inl 30, .inl (g 92 26)], g) rfl ?_
    by_cases hc : 30 ≤ (g 92 26)
    · rw [if_pos hc] at h
      refine es (49, [some (.inr (.inr 92)), some (.inl a1), some (.inl a2), some (.inl a3)], [], g) (congrArg some (if_pos hc)) ?_
      refine ev_runs 7 (49, [some (.inr (.inr 92)), some (.inl a1), some (.inl a2), some (.inl a3)], [], g) (60, [some (.inr (.inr 92)), some (.inl a1), some (.inl a2), some (.inl a3)], [.inl 1], (gset g 92 36 (wr ((g 92 36) + 1)))) rfl ?_
      cases h
      exact er rfl
    · rw [if_neg hc] at h
      refine es (20, [some (.inr (.inr 92)), some (.inl a1), some (.inl a2), some (.inl a3)], [], g) (congrArg some (if_neg hc)) ?_
      refine ev_runs 18 (20, [some (.inr (.inr 92)), some (.inl a1), some (.inl a2), some (.inl a3)], [], g) (48, [some (.inr (.inr 92)), some (.inl a1), some (.inl a2), some (.inl a3)], [.inl (wr ((wr ((wr (1000 * a1)) + (wr (100 * a2)))) + a3)), .inl (wr ((wr (24 * (g 92 26))) + (g 92 36))), .inr (.inr 111)], g) rfl ?_
      by_cases hc : 0 ≤ (wr ((wr (24 * (g 92 26))) + (g 92 36))) ∧ (wr ((wr (24 * (g 92 26))) + (g 92 36))) < 720
      · rw [if_pos hc] at h
        refine es (49, [some (.inr (.inr 92)), some (.inl a1), some (.inl a2), some (.inl a3)], [], (gset g 111 ((wr ((wr (24 * (g 92 26))) + (g 92 36))).toNat) (wr ((wr ((wr (1000 * a1)) + (wr (100 * a2)))) + a3)))) (if_pos hc) ?_
        refine ev_runs 7 (49, [some (.inr (.inr 92)), some (.inl a1), some (.inl a2), some (.inl a3)], [], (gset g 111 ((wr ((wr (24 * (g 92 26))) + (g 92 36))).toNat) (wr ((wr ((wr (1000 * a1)) + (wr (100 * a2)))) + a3)))) (60, [some (.inr (.inr 92)), some (.inl a1), some (.inl a2), some (.inl a3)], [.inl 1], (gset (gset g 111 ((wr ((wr (24 * (g 92 26))) + (g 92 36))).toNat) (wr ((wr ((wr (1000 * a1)) + (wr (100 * a2)))) + a3))) 92 36 (wr ((g 92 36) + 1)))) rfl ?_
        cases h
        exact er rfl
      · rw [if_neg hc] at h; cases h
  · rw [if_neg hc] at h
    refine es (9, [some (.inr (.inr 92)), some (.inl a1), some (.inl a2), some (.inl a3)], [], g) (congrArg some (if_neg hc)) ?_
    refine ev_runs 1 (9, [some (.inr (.inr 92)), some (.inl a1), some (.inl a2), some (.inl a3)], [], g) (10, [some (.inr (.inr 92)), some (.inl a1), some (.inl a2), some (.inl a3)], [.inl 0], g) rfl ?_
    cases h
    exact er rfl
set_option maxRecDepth 100000 in
set_option maxHeartbeats 4000000 in
theorem ev_Md_chooses_l67 (c1 : Int) (c3 : Int) (K67_160 : Int → Gx → Option (Int × Gx)) (hK67_160 : ∀ (x4 : Int) (g : Gx) (r : Int) (g' : Gx), K67_160 x4 g = some (r, g') → Ev 78 160 [some (.inr (.inr 92)), none, none, none, some (.inl x4), none] [] g (some (.inl r)) g') : ∀ (n67 : Nat) (v4 v5 : Int) (g : Gx) (r : Int) (g' : Gx), Md_chooses_l67 c1 c3 K67_160 n67 v4 v5 g = some (r, g') → Ev 78 67 [some (.inr (.inr 92)), some (.inl c1), none, some (.inl c3), some (.inl v4), some (.inl v5)] [] g (some (.inl r)) g' := by
  intro n67
  induction n67 with
  | zero => intro v4 v5 g r g' h; cases h
  | succ n67 ih67 =>
    intro v4 v5 g r g' h
    rw [Md_chooses_l67] at h
    refine ev_runs 2 (67, [some (.inr (.inr 92)), some (.inl c1), none, some (.inl c3), some (.inl v4), some (.inl v5)], [], g) (71, [some (.inr (.inr 92)), some (.inl c1), none, some (.inl c3), some (.inl v4), some (.inl v5)], [.inl 6, .inl v5], g) rfl ?_
    by_cases hc : 6 ≤ v5
    · rw [if_pos hc] at h
      refine es (160, [some (.inr (.inr 92)), some (.inl c1), none, some (.inl c3), some (.inl v4), some (.inl v5)], [], g) (congrArg some (if_pos hc)) ?_
      exact ev_le (L := [some (.inr (.inr 92)), none, none, none, some (.inl v4), none]) (by simp [Lle]) (hK67_160 v4 g r g' h)
    · rw [if_neg hc] at h
      refine es (74, [some (.inr (.inr 92)), some (.inl c1), none, some (.inl c3), some (.inl v4), some (.inl v5)], [], g) (congrArg some (if_neg hc)) ?_
      refine ev_runs 3 (74, [some (.inr (.inr 92)), some (.inl c1), none, some (.inl c3), some (.inl v4), some (.inl v5)], [], g) (79, [some (.inr (.inr 92)), some (.inl c1), none, some (.inl c3), some (.inl v4), some (.inl v5)], [.inl c1, .inr (.inr 102)], g) rfl ?_
      by_cases hc : 0 ≤ c1 ∧ c1 < 170
      · rw [if_pos hc] at h
        refine es (80, [some (.inr (.inr 92)), some (.inl c1), none, some (.inl c3), some (.inl v4), some (.inl v5)], [.inl (g 102 c1.toNat)], g) (if_pos hc) ?_
        refine ev_runs 1 (80, [some (.inr (.inr 92)), some (.inl c1), none, some (.inl c3), some (.inl v4), some (.inl v5)], [.inl (g 102 c1.toNat)], g) (81, [some (.inr (.inr 92)), some (.inl c1), none, some (.inl c3), some (.inl v4), some (.inl v5)], [.inl 5, .inl (g 102 c1.toNat)], g) rfl ?_
        by_cases hc : 5 ≤ (g 102 c1.toNat)
        · rw [if_pos hc] at h
          refine es (160, [some (.inr (.inr 92)), some (.inl c1), none, some (.inl c3), some (.inl v4), some (.inl v5)], [], g) (congrArg some (if_pos hc)) ?_
          exact ev_le (L := [some (.inr (.inr 92)), none, none, none, some (.inl v4), none]) (by simp [Lle]) (hK67_160 v4 g r g' h)
        · rw [if_neg hc] at h
          refine es (84, [some (.inr (.inr 92)), some (.inl c1), none, some (.inl c3), some (.inl v4), some (.inl v5)], [], g) (congrArg some (if_neg hc)) ?_
          refine ev_runs 4 (84, [some (.inr (.inr 92)), some (.inl c1), none, some (.inl c3), some (.inl v4), some (.inl v5)], [], g) (91, [some (.inr (.inr 92)), some (.inl c1), none, some (.inl c3), some (.inl v4), some (.inl v5)], [.inl c1, .inr (.inr 100), .inl v5], g) rfl ?_
          by_cases hc : 0 ≤ c1 ∧ c1 < 170
          · rw [if_pos hc] at h
            refine es (92, [some (.inr (.inr 92)), some (.inl c1), none, some (.inl c3), some (.inl v4), some (.inl v5)], [.inl (g 100 c1.toNat), .inl v5], g) (if_pos hc) ?_
            by_cases hc : v5 = (g 100 c1.toNat)
            · rw [if_pos hc] at h
              refine es (154, [some (.inr (.inr 92)), some (.inl c1), none, some (.inl c3), some (.inl v4), some (.inl v5)], [], g) (congrArg some (if_pos hc)) ?_
              refine ev_runs 2 (154, [some (.inr (.inr 92)), some (.inl c1), none, some (.inl c3), some (.inl v4), some (.inl v5)], [], g) (67, [some (.inr (.inr 92)), some (.inl c1), none, some (.inl c3), some (.inl v4), some (.inl (wr (v5 + 1)))], [], g) rfl ?_
              exact ev_le (L := [some (.inr (.inr 92)), some (.inl c1), none, some (.inl c3), some (.inl v4), some (.inl (wr (v5 + 1)))]) (by simp [Lle]) (ih67 v4 (wr (v5 + 1)) g r g' h)
            · rw [if_neg hc] at h
              refine es (95, [some (.inr (.inr 92)), some (.inl c1), none, some (.inl c3), some (.inl v4), some (.inl v5)], [], g) (congrArg some (if_neg hc)) ?_
              refine ev_runs 5 (95, [some (.inr (.inr 92)), some (.inl c1), none, some (.inl c3), some (.inl v4), some (.inl v5)], [], g) (103, [some (.inr (.inr 92)), some (.inl c1), none, some (.inl c3), some (.inl v4), some (.inl v5)], [.inl c1, .inr (.inr 102), .inl 6, .inl c3], g) rfl ?_
              by_cases hc : 0 ≤ c1 ∧ c1 < 170
              · rw [if_pos hc] at h
                refine es (104, [some (.inr (.inr 92)), some (.inl c1), none, some (.inl c3), some (.inl v4), some (.inl v5)], [.inl (g 102 c1.toNat), .inl 6, .inl c3], g) (if_pos hc) ?_
                refine ev_runs 7 (104, [some (.inr (.inr 92)), some (.inl c1), none, some (.inl c3), some (.inl v4), some (.inl v5)], [.inl (g 102 c1.toNat), .inl 6, .inl c3], g) (112, [some (.inr (.inr 92)), some (.inl c1), none, some (.inl c3), some (.inl v4), some (.inl v5)], [.inl 1, .inl (jand (jshr c3 (wr ((wr (6 * (g 102 c1.toNat))) + v5))) 1)], g) rfl ?_
                by_cases hc : ¬ (jand (jshr c3 (wr ((wr (6 * (g 102 c1.toNat))) + v5))) 1) = 1
                · rw [if_pos hc] at h
                  refine es (154, [some (.inr (.inr 92)), some (.inl c1), none, some (.inl c3), some (.inl v4), some (.inl v5)], [], g) (congrArg some (if_pos hc)) ?_
                  refine ev_runs 2 (154, [some (.inr (.inr 92)), some (.inl c1), none, some (.inl c3), some (.inl v4), some (.inl v5)], [], g) (67, [some (.inr (.inr 92)), some (.inl c1), none, some (.inl c3), some (.inl v4), some (.inl (wr (v5 + 1)))], [], g) rfl ?_
                  exact ev_le (L := [some (.inr (.inr 92)), some (.inl c1), none, some (.inl c3), some (.inl v4), some (.inl (wr (v5 + 1)))]) (by simp [Lle]) (ih67 v4 (wr (v5 + 1)) g r g' h)
                · rw [if_neg hc] at h
                  refine es (115, [some (.inr (.inr 92)), some (.inl c1), none, some (.inl c3), some (.inl v4), some (.inl v5)], [], g) (congrArg some (if_neg hc)) ?_
                  refine ev_runs 1 (115, [some (.inr (.inr 92)), some (.inl c1), none, some (.inl c3), some (.inl v4), some (.inl v5)], [], g) (117, [some (.inr (.inr 92)), some (.inl c1), none, some (.inl c3), some (.inl v4), some (.inl v5)], [.inl v4], g) rfl ?_
                  by_cases hc : v4 = 0
                  · rw [if_pos hc] at h
                    refine es (151, [some (.inr (.inr 92)), some (.inl c1), none, some (.inl c3), some (.inl v4), some (.inl v5)], [], g) (congrArg some (if_pos hc)) ?_
                    refine ev_runs 4 (151, [some (.inr (.inr 92)), some (.inl c1), none, some (.inl c3), some (.inl v4), some (.inl v5)], [], g) (67, [some (.inr (.inr 92)), some (.inl c1), none, some (.inl c3), some (.inl 0), some (.inl (wr (v5 + 1)))], [], g) rfl ?_
                    exact ev_le (L := [some (.inr (.inr 92)), some (.inl c1), none, some (.inl c3), some (.inl 0), some (.inl (wr (v5 + 1)))]) (by simp [Lle]) (ih67 0 (wr (v5 + 1)) g r g' h)
                  · rw [if_neg hc] at h
                    refine es (120, [some (.inr (.inr 92)), some (.inl c1), none, some (.inl c3), some (.inl v4), some (.inl v5)], [], g) (congrArg some (if_neg hc)) ?_
                    refine ev_runs 4 (120, [some (.inr (.inr 92)), some (.inl c1), none, some (.inl c3), some (.inl v4), some (.inl v5)], [], g) (126, [some (.inr (.inr 92)), some (.inl c1), none, some (.inl c3), some (.inl v4), some (.inl v5)], [.inl c1, .inr (.inr 100), .inr (.inr 92)], g) rfl ?_
                    by_cases hc : 0 ≤ c1 ∧ c1 < 170
                    · rw [if_pos hc] at h
                      refine es (127, [some (.inr (.inr 92)), some (.inl c1), none, some (.inl c3), some (.inl v4), some (.inl v5)], [.inl (g 100 c1.toNat), .inr (.inr 92)], g) (if_pos hc) ?_
                      refine ev_runs 6 (127, [some (.inr (.inr 92)), some (.inl c1), none, some (.inl c3), some (.inl v4), some (.inl v5)], [.inl (g 100 c1.toNat), .inr (.inr 92)], g) (139, [some (.inr (.inr 92)), some (.inl c1), none, some (.inl c3), some (.inl v4), some (.inl v5)], [.inl (g 92 35), .inr (.inr 114), .inl 26, .inl v5, .inl (g 100 c1.toNat), .inr (.inr 92)], g) rfl ?_
                      by_cases hc : 0 ≤ (g 92 35) ∧ (g 92 35) < 30
                      · rw [if_pos hc] at h
                        refine es (140, [some (.inr (.inr 92)), some (.inl c1), none, some (.inl c3), some (.inl v4), some (.inl v5)], [.inl (g 114 (g 92 35).toNat), .inl 26, .inl v5, .inl (g 100 c1.toNat), .inr (.inr 92)], g) (if_pos hc) ?_
                        refine ev_runs 1 (140, [some (.inr (.inr 92)), some (.inl c1), none, some (.inl c3), some (.inl v4), some (.inl v5)], [.inl (g 114 (g 92 35).toNat), .inl 26, .inl v5, .inl (g 100 c1.toNat), .inr (.inr 92)], g) (141, [some (.inr (.inr 92)), some (.inl c1), none, some (.inl c3), some (.inl v4), some (.inl v5)], [.inl (wr (26 + (g 114 (g 92 35).toNat))), .inl v5, .inl (g 100 c1.toNat), .inr (.inr 92)], g) rfl ?_
                        obtain ⟨q1, hq, h⟩ := Option.bind_eq_some_iff.mp h
                        refine ec 77 144 [.inr (.inr 92), .inl (g 100 c1.toNat), .inl v5, .inl (wr (26 + (g 114 (g 92 35).toNat)))] [] rfl (ev_Md_says (g 100 c1.toNat) v5 (wr (26 + (g 114 (g 92 35).toNat))) g q1.1 q1.2 hq) ?_
                        show Ev 78 144 [some (.inr (.inr 92)), some (.inl c1), none, some (.inl c3), some (.inl v4), some (.inl v5)] [.inl q1.1] q1.2 _ _
                        by_cases hc : q1.1 = 0
                        · rw [if_pos hc] at h
                          refine es (151, [some (.inr (.inr 92)), some (.inl c1), none, some (.inl c3), some (.inl v4), some (.inl v5)], [], q1.2) (congrArg some (if_pos hc)) ?_
                          refine ev_runs 4 (151, [some (.inr (.inr 92)), some (.inl c1), none, some (.inl c3), some (.inl v4), some (.inl v5)], [], q1.2) (67, [some (.inr (.inr 92)), some (.inl c1), none, some (.inl c3), some (.inl 0), some (.inl (wr (v5 + 1)))], [], q1.2) rfl ?_
                          exact ev_le (L := [some (.inr (.inr 92)), some (.inl c1), none, some (.inl c3), some (.inl 0), some (.inl (wr (v5 + 1)))]) (by simp [Lle]) (ih67 0 (wr (v5 + 1)) q1.2 r g' h)
                        · rw [if_neg hc] at h
                          refine es (147, [some (.inr (.inr 92)), some (.inl c1), none, some (.inl c3), some (.inl v4), some (.inl v5)], [], q1.2) (congrArg some (if_neg hc)) ?_
                          refine ev_runs 5 (147, [some (.inr (.inr 92)), some (.inl c1), none, some (.inl c3), some (.inl v4), some (.inl v5)], [], q1.2) (67, [some (.inr (.inr 92)), some (.inl c1), none, some (.inl c3), some (.inl 1), some (.inl (wr (v5 + 1)))], [], q1.2) rfl ?_
                          exact ev_le (L := [some (.inr (.inr 92)), some (.inl c1), none, some (.inl c3), some (.inl 1), some (.inl (wr (v5 + 1)))]) (by simp [Lle]) (ih67 1 (wr (v5 + 1)) q1.2 r g' h)
                      · rw [if_neg hc] at h; cases h
                    · rw [if_neg hc] at h; cases h
              · rw [if_neg hc] at h; cases h
          · rw [if_neg hc] at h; cases h
      · rw [if_neg hc] at h; cases h
set_option maxRecDepth 100000 in
set_option maxHeartbeats 4000000 in
theorem ev_Md_chooses (a1 a2 a3 : Int) (g : Gx) (r : Int) (g' : Gx) (h : Md_chooses a1 a2 a3 g = some (r, g')) : Ev 78 0 [some (.inr (.inr 92)), some (.inl a1), some (.inl a2), some (.inl a3), none, none] [] g (some (.inl r)) g' := by
  rw [Md_chooses] at h
  refine ev_runs 3 (0, [some (.inr (.inr 92)), some (.inl a1), some (.inl a2), some (.inl a3), none, none], [], g) (6, [some (.inr (.inr 92)), some (.inl a1), some (.inl a2), some (.inl a3), none, none], [.inl 30, .inl (g 92 35)], g) rfl ?_
  by_cases hc : ¬ (g 92 35) = 30
  · rw [if_pos hc] at h
    refine es (11, [some (.inr (.inr 92)), some (.inl a1), some (.inl a2), some (.inl a3), none, none], [], g) (congrArg some (if_pos hc)) ?_
    refine ev_runs 3 (11, [some (.inr (.inr 92)), some (.inl a1), some (.inl a2), some (.inl a3), none, none], [], g) (16, [some (.inr (.inr 92)), some (.inl a1), some (.inl a2), some (.inl a3), none, none], [.inl a2, .inl (g 92 35)], g) rfl ?_
    by_cases hc : (g 92 35) < a2
    · rw [if_pos hc] at h
      refine es (29, [some (.inr (.inr 92)), some (.inl a1), some (.inl a2), some (.inl a3), none, none], [], g) (congrArg some (if_pos hc)) ?_
      refine ev_runs 7 (29, [some (.inr (.inr 92)), some (.inl a1), some (.inl a2), some (.inl a3), none, none], [], g) (42, [some (.inr (.inr 92)), some (.inl a1), some (.inl a2), some (.inl a3), none, none], [.inl a1, .inr (.inr 101), .inl (g 92 35), .inr (.inr 115)], g) rfl ?_
      by_cases hc : 0 ≤ a1 ∧ a1 < 170
      · rw [if_pos hc] at h
        refine es (43, [some (.inr (.inr 92)), some (.inl a1), some (.inl a2), some (.inl a3), none, none], [.inl (g 101 a1.toNat), .inl (g 92 35), .inr (.inr 115)], g) (if_pos hc) ?_
        refine ev_runs 2 (43, [some (.inr (.inr 92)), some (.inl a1), some (.inl a2), some (.inl a3), none, none], [.inl (g 101 a1.toNat), .inl (g 92 35), .inr (.inr 115)], g) (45, [some (.inr (.inr 92)), some (.inl a1), some (.inl a2), some (.inl a3), none, none], [.inl (wr ((g 101 a1.toNat) - 1)), .inl (g 92 35), .inr (.inr 115)], g) rfl ?_
        by_cases hc : 0 ≤ (g 92 35) ∧ (g 92 35) < 30
        · rw [if_pos hc] at h
          refine es (46, [some (.inr (.inr 92)), some (.inl a1), some (.inl a2), some (.inl a3), none, none], [], (gset g 115 ((g 92 35).toNat) (wr ((g 101 a1.toNat) - 1)))) (if_pos hc) ?_
          refine ev_runs 7 (46, [some (.inr (.inr 92)), some (.inl a1), some (.inl a2), some (.inl a3), none, none], [], (gset g 115 ((g 92 35).toNat) (wr ((g 101 a1.toNat) - 1)))) (59, [some (.inr (.inr 92)), some (.inl a1), some (.inl a2), some (.inl a3), none, none], [.inl a1, .inr (.inr 100), .inl (g 92 35), .inr (.inr 116)], (gset g 115 ((g 92 35).toNat) (wr ((g 101 a1.toNat) - 1)))) rfl ?_
          by_cases hc : 0 ≤ a1 ∧ a1 < 170
          · rw [if_pos hc] at h
            refine es (60, [some (.inr (.inr 92)), some (.inl a1), some (.inl a2), some (.inl a3), none, none], [.inl (g 100 a1.toNat), .inl (g 92 35), .inr (.inr 116)], (gset g 115 ((g 92 35).toNat) (wr ((g 101 a1.toNat) - 1)))) (if_pos hc) ?_
            by_cases hc : 0 ≤ (g 92 35) ∧ (g 92 35) < 30
            · rw [if_pos hc] at h
              refine es (61, [some (.inr (.inr 92)), some (.inl a1), some (.inl a2), some (.inl a3), none, none], [], (gset (gset g 115 ((g 92 35).toNat) (wr ((g 101 a1.toNat) - 1))) 116 ((g 92 35).toNat) (g 100 a1.toNat))) (if_pos hc) ?_
              refine ev_runs 4 (61, [some (.inr (.inr 92)), some (.inl a1), some (.inl a2), some (.inl a3), none, none], [], (gset (gset g 115 ((g 92 35).toNat) (wr ((g 101 a1.toNat) - 1))) 116 ((g 92 35).toNat) (g 100 a1.toNat))) (67, [some (.inr (.inr 92)), some (.inl a1), some (.inl a2), some (.inl a3), some (.inl 1), some (.inl 0)], [], (gset (gset g 115 ((g 92 35).toNat) (wr ((g 101 a1.toNat) - 1))) 116 ((g 92 35).toNat) (g 100 a1.toNat))) rfl ?_
              refine ev_le (L := [some (.inr (.inr 92)), some (.inl a1), none, some (.inl a3), some (.inl 1), some (.inl 0)]) (by simp [Lle]) ?_
              refine ev_Md_chooses_l67 a1 a3 _ ?_ fu 1 0 (gset (gset g 115 ((g 92 35).toNat) (wr ((g 101 a1.toNat) - 1))) 116 ((g 92 35).toNat) (g 100 a1.toNat)) r g' h
              · intro x2 g3 r g' h
                refine ev_runs 7 (160, [some (.inr (.inr 92)), none, none, none, some (.inl x2), none], [], g3) (172, [some (.inr (.inr 92)), none, none, none, some (.inl x2), none], [.inl x2], (gset g3 92 35 (wr ((g3 92 35) + 1)))) rfl ?_
                by_cases hc : x2 = 0 ∨ x2 = 1
                · rw [if_pos hc] at h
                  cases h
                  exact er (if_pos hc)
                · rw [if_neg hc] at h; cases h
            · rw [if_neg hc] at h; cases h
          · rw [if_neg hc] at h; cases h
        · rw [if_neg hc] at h; cases h
      · rw [if_neg hc] at h; cases h
    · rw [if_neg hc] at h
      refine es (19, [some (.inr (.inr 92)), some (.inl a1), some (.inl a2), some (.inl a3), none, none], [], g) (congrArg some (if_neg hc)) ?_
      refine ev_runs 5 (19, [some (.inr (.inr 92)), some (.inl a1), some (.inl a2), some (.inl a3), none, none], [], g) (28, [some (.inr (.inr 92)), some (.inl a1), some (.inl a2), some (.inl a3), none, none], [.inl 0, .inl (g 92 35), .inr (.inr 114)], g) rfl ?_
      by_cases hc : 0 ≤ (g 92 35) ∧ (g 92 35) < 30
      · rw [if_pos hc] at h
        refine es (29, [some (.inr (.inr 92)), some (.inl a1), some (.inl a2), some (.inl a3), none, none], [], (gset g 114 ((g 92 35).toNat) 0)) (if_pos hc) ?_
        refine ev_runs 7 (29, [some (.inr (.inr 92)), some (.inl a1), some (.inl a2), some (.inl a3), none, none], [], (gset g 114 ((g 92 35).toNat) 0)) (42, [some (.inr (.inr 92)), some (.inl a1), some (.inl a2), some (.inl a3), none, none], [.inl a1, .inr (.inr 101), .inl (g 92 35), .inr (.inr 115)], (gset g 114 ((g 92 35).toNat) 0)) rfl ?_
        by_cases hc : 0 ≤ a1 ∧ a1 < 170
        · rw [if_pos hc] at h
          refine es (43, [some (.inr (.inr 92)), some (.inl a1), some (.inl a2), some (.inl a3), none, none], [.inl (g 101 a1.toNat), .inl (g 92 35), .inr (.inr 115)], (gset g 114 ((g 92 35).toNat) 0)) (if_pos hc) ?_
          refine ev_runs 2 (43, [some (.inr (.inr 92)), some (.inl a1), some (.inl a2), some (.inl a3), none, none], [.inl (g 101 a1.toNat), .inl (g 92 35), .inr (.inr 115)], (gset g 114 ((g 92 35).toNat) 0)) (45, [some (.inr (.inr 92)), some (.inl a1), some (.inl a2), some (.inl a3), none, none], [.inl (wr ((g 101 a1.toNat) - 1)), .inl (g 92 35), .inr (.inr 115)], (gset g 114 ((g 92 35).toNat) 0)) rfl ?_
          by_cases hc : 0 ≤ (g 92 35) ∧ (g 92 35) < 30
          · rw [if_pos hc] at h
            refine es (46, [some (.inr (.inr 92)), some (.inl a1), some (.inl a2), some (.inl a3), none, none], [], (gset (gset g 114 ((g 92 35).toNat) 0) 115 ((g 92 35).toNat) (wr ((g 101 a1.toNat) - 1)))) (if_pos hc) ?_
            refine ev_runs 7 (46, [some (.inr (.inr 92)), some (.inl a1), some (.inl a2), some (.inl a3), none, none], [], (gset (gset g 114 ((g 92 35).toNat) 0) 115 ((g 92 35).toNat) (wr ((g 101 a1.toNat) - 1)))) (59, [some (.inr (.inr 92)), some (.inl a1), some (.inl a2), some (.inl a3), none, none], [.inl a1, .inr (.inr 100), .inl (g 92 35), .inr (.inr 116)], (gset (gset g 114 ((g 92 35).toNat) 0) 115 ((g 92 35).toNat) (wr ((g 101 a1.toNat) - 1)))) rfl ?_
            by_cases hc : 0 ≤ a1 ∧ a1 < 170
            · rw [if_pos hc] at h
              refine es (60, [some (.inr (.inr 92)), some (.inl a1), some (.inl a2), some (.inl a3), none, none], [.inl (g 100 a1.toNat), .inl (g 92 35), .inr (.inr 116)], (gset (gset g 114 ((g 92 35).toNat) 0) 115 ((g 92 35).toNat) (wr ((g 101 a1.toNat) - 1)))) (if_pos hc) ?_
              by_cases hc : 0 ≤ (g 92 35) ∧ (g 92 35) < 30
              · rw [if_pos hc] at h
                refine es (61, [some (.inr (.inr 92)), some (.inl a1), some (.inl a2), some (.inl a3), none, none], [], (gset (gset (gset g 114 ((g 92 35).toNat) 0) 115 ((g 92 35).toNat) (wr ((g 101 a1.toNat) - 1))) 116 ((g 92 35).toNat) (g 100 a1.toNat))) (if_pos hc) ?_
                refine ev_runs 4 (61, [some (.inr (.inr 92)), some (.inl a1), some (.inl a2), some (.inl a3), none, none], [], (gset (gset (gset g 114 ((g 92 35).toNat) 0) 115 ((g 92 35).toNat) (wr ((g 101 a1.toNat) - 1))) 116 ((g 92 35).toNat) (g 100 a1.toNat))) (67, [some (.inr (.inr 92)), some (.inl a1), some (.inl a2), some (.inl a3), some (.inl 1), some (.inl 0)], [], (gset (gset (gset g 114 ((g 92 35).toNat) 0) 115 ((g 92 35).toNat) (wr ((g 101 a1.toNat) - 1))) 116 ((g 92 35).toNat) (g 100 a1.toNat))) rfl ?_
                refine ev_le (L := [some (.inr (.inr 92)), some (.inl a1), none, some (.inl a3), some (.inl 1), some (.inl 0)]) (by simp [Lle]) ?_
                refine ev_Md_chooses_l67 a1 a3 _ ?_ fu 1 0 (gset (gset (gset g 114 ((g 92 35).toNat) 0) 115 ((g 92 35).toNat) (wr ((g 101 a1.toNat) - 1))) 116 ((g 92 35).toNat) (g 100 a1.toNat)) r g' h
                · intro x4 g5 r g' h
                  refine ev_runs 7 (160, [some (.inr (.inr 92)), none, none, none, some (.inl x4), none], [], g5) (172, [some (.inr (.inr 92)), none, none, none, some (.inl x4), none], [.inl x4], (gset g5 92 35 (wr ((g5 92 35) + 1)))) rfl ?_
                  by_cases hc : x4 = 0 ∨ x4 = 1
                  · rw [if_pos hc] at h
                    cases h
                    exact er (if_pos hc)
                  · rw [if_neg hc] at h; cases h
              · rw [if_neg hc] at h; cases h
            · rw [if_neg hc] at h; cases h
          · rw [if_neg hc] at h; cases h
        · rw [if_neg hc] at h; cases h
      · rw [if_neg hc] at h; cases h
  · rw [if_neg hc] at h
    refine es (9, [some (.inr (.inr 92)), some (.inl a1), some (.inl a2), some (.inl a3), none, none], [], g) (congrArg some (if_neg hc)) ?_
    refine ev_runs 1 (9, [some (.inr (.inr 92)), some (.inl a1), some (.inl a2), some (.inl a3), none, none], [], g) (10, [some (.inr (.inr 92)), some (.inl a1), some (.inl a2), some (.inl a3), none, none], [.inl 0], g) rfl ?_
    cases h
    exact er rfl
set_option maxRecDepth 100000 in
set_option maxHeartbeats 4000000 in
theorem ev_Md_goes_l12 (c1 : Int) (c2 : Int) (K12_208 : Gx → Option (Int × Gx)) (hK12_208 : ∀ (g : Gx) (r : Int) (g' : Gx), K12_208 g = some (r, g') → Ev 79 208 [none, none, none, none, none, none] [] g (some (.inl r)) g') : ∀ (n12 : Nat) (v3 : Int) (g : Gx) (r : Int) (g' : Gx), Md_goes_l12 c1 c2 K12_208 n12 v3 g = some (r, g') → Ev 79 12 [some (.inr (.inr 92)), some (.inl c1), some (.inl c2), some (.inl v3), none, none] [] g (some (.inl r)) g' := by
  intro n12
  induction n12 with
  | zero => intro v3 g r g' h; cases h
  | succ n12 ih12 =>
    intro v3 g r g' h
    rw [Md_goes_l12] at h
    refine ev_runs 3 (12, [some (.inr (.inr 92)), some (.inl c1), some (.inl c2), some (.inl v3), none, none], [], g) (17, [some (.inr (.inr 92)), some (.inl c1), some (.inl c2), some (.inl v3), none, none], [.inl (g 92 9), .inl v3], g) rfl ?_
    by_cases hc : (g 92 9) ≤ v3
    · rw [if_pos hc] at h
      refine es (208, [some (.inr (.inr 92)), some (.inl c1), some (.inl c2), some (.inl v3), none, none], [], g) (congrArg some (if_pos hc)) ?_
      exact ev_le (L := [none, none, none, none, none, none]) (by simp [Lle]) (hK12_208 g r g' h)
    · rw [if_neg hc] at h
      refine es (20, [some (.inr (.inr 92)), some (.inl c1), some (.inl c2), some (.inl v3), none, none], [], g) (congrArg some (if_neg hc)) ?_
      refine ev_runs 7 (20, [some (.inr (.inr 92)), some (.inl c1), some (.inl c2), some (.inl v3), none, none], [], g) (30, [some (.inr (.inr 92)), some (.inl c1), some (.inl c2), some (.inl v3), some (.inl (wr (v3 + 1))), none], [.inl v3, .inr (.inr 99)], g) rfl ?_
      by_cases hc : 0 ≤ v3 ∧ v3 < 170
      · rw [if_pos hc] at h
        refine es (31, [some (.inr (.inr 92)), some (.inl c1), some (.inl c2), some (.inl v3), some (.inl (wr (v3 + 1))), none], [.inl (g 99 v3.toNat)], g) (if_pos hc) ?_
        by_cases hc : ¬ (g 99 v3.toNat) = 0
        · rw [if_pos hc] at h
          refine es (61, [some (.inr (.inr 92)), some (.inl c1), some (.inl c2), some (.inl v3), some (.inl (wr (v3 + 1))), none], [], g) (congrArg some (if_pos hc)) ?_
          refine ev_runs 3 (61, [some (.inr (.inr 92)), some (.inl c1), some (.inl c2), some (.inl v3), some (.inl (wr (v3 + 1))), none], [], g) (66, [some (.inr (.inr 92)), some (.inl c1), some (.inl c2), some (.inl v3), some (.inl (wr (v3 + 1))), none], [.inl v3, .inr (.inr 99)], g) rfl ?_
          by_cases hc : 0 ≤ v3 ∧ v3 < 170
          · rw [if_pos hc] at h
            refine es (67, [some (.inr (.inr 92)), some (.inl c1), some (.inl c2), some (.inl v3), some (.inl (wr (v3 + 1))), none], [.inl (g 99 v3.toNat)], g) (if_pos hc) ?_
            refine ev_runs 1 (67, [some (.inr (.inr 92)), some (.inl c1), some (.inl c2), some (.inl v3), some (.inl (wr (v3 + 1))), none], [.inl (g 99 v3.toNat)], g) (68, [some (.inr (.inr 92)), some (.inl c1), some (.inl c2), some (.inl v3), some (.inl (wr (v3 + 1))), none], [.inl 1, .inl (g 99 v3.toNat)], g) rfl ?_
            by_cases hc : ¬ (g 99 v3.toNat) = 1
            · rw [if_pos hc] at h
              refine es (108, [some (.inr (.inr 92)), some (.inl c1), some (.inl c2), some (.inl v3), some (.inl (wr (v3 + 1))), none], [], g) (congrArg some (if_pos hc)) ?_
              refine ev_runs 3 (108, [some (.inr (.inr 92)), some (.inl c1), some (.inl c2), some (.inl v3), some (.inl (wr (v3 + 1))), none], [], g) (113, [some (.inr (.inr 92)), some (.inl c1), some (.inl c2), some (.inl v3), some (.inl (wr (v3 + 1))), none], [.inl v3, .inr (.inr 99)], g) rfl ?_
              by_cases hc : 0 ≤ v3 ∧ v3 < 170
              · rw [if_pos hc] at h
                refine es (114, [some (.inr (.inr 92)), some (.inl c1), some (.inl c2), some (.inl v3), some (.inl (wr (v3 + 1))), none], [.inl (g 99 v3.toNat)], g) (if_pos hc) ?_
                refine ev_runs 1 (114, [some (.inr (.inr 92)), some (.inl c1), some (.inl c2), some (.inl v3), some (.inl (wr (v3 + 1))), none], [.inl (g 99 v3.toNat)], g) (115, [some (.inr (.inr 92)), some (.inl c1), some (.inl c2), some (.inl v3), some (.inl (wr (v3 + 1))), none], [.inl 2, .inl (g 99 v3.toNat)], g) rfl ?_
                by_cases hc : ¬ (g 99 v3.toNat) = 2
                · rw [if_pos hc] at h
                  refine es (134, [some (.inr (.inr 92)), some (.inl c1), some (.inl c2), some (.inl v3), some (.inl (wr (v3 + 1))), none], [], g) (congrArg some (if_pos hc)) ?_
                  refine ev_runs 3 (134, [some (.inr (.inr 92)), some (.inl c1), some (.inl c2), some (.inl v3), some (.inl (wr (v3 + 1))), none], [], g) (139, [some (.inr (.inr 92)), some (.inl c1), some (.inl c2), some (.inl v3), some (.inl (wr (v3 + 1))), none], [.inl v3, .inr (.inr 99)], g) rfl ?_
                  by_cases hc : 0 ≤ v3 ∧ v3 < 170
                  · rw [if_pos hc] at h
                    refine es (140, [some (.inr (.inr 92)), some (.inl c1), some (.inl c2), some (.inl v3), some (.inl (wr (v3 + 1))), none], [.inl (g 99 v3.toNat)], g) (if_pos hc) ?_
                    refine ev_runs 1 (140, [some (.inr (.inr 92)), some (.inl c1), some (.inl c2), some (.inl v3), some (.inl (wr (v3 + 1))), none], [.inl (g 99 v3.toNat)], g) (141, [some (.inr (.inr 92)), some (.inl c1), some (.inl c2), some (.inl v3), some (.inl (wr (v3 + 1))), none], [.inl 3, .inl (g 99 v3.toNat)], g) rfl ?_
                    by_cases hc : ¬ (g 99 v3.toNat) = 3
                    · rw [if_pos hc] at h
                      refine es (154, [some (.inr (.inr 92)), some (.inl c1), some (.inl c2), some (.inl v3), some (.inl (wr (v3 + 1))), none], [], g) (congrArg some (if_pos hc)) ?_
                      refine ev_runs 3 (154, [some (.inr (.inr 92)), some (.inl c1), some (.inl c2), some (.inl v3), some (.inl (wr (v3 + 1))), none], [], g) (159, [some (.inr (.inr 92)), some (.inl c1), some (.inl c2), some (.inl v3), some (.inl (wr (v3 + 1))), none], [.inl v3, .inr (.inr 102)], g) rfl ?_
                      by_cases hc : 0 ≤ v3 ∧ v3 < 170
                      · rw [if_pos hc] at h
                        refine es (160, [some (.inr (.inr 92)), some (.inl c1), some (.inl c2), some (.inl v3), some (.inl (wr (v3 + 1))), none], [.inl (g 102 v3.toNat)], g) (if_pos hc) ?_
                        refine ev_runs 4 (160, [some (.inr (.inr 92)), some (.inl c1), some (.inl c2), some (.inl v3), some (.inl (wr (v3 + 1))), none], [.inl (g 102 v3.toNat)], g) (168, [some (.inr (.inr 92)), some (.inl c1), some (.inl c2), some (.inl v3), some (.inl (wr (v3 + 1))), some (.inl (g 102 v3.toNat))], [.inl (g 102 v3.toNat), .inr (.inr 117)], g) rfl ?_
                        by_cases hc : 0 ≤ (g 102 v3.toNat) ∧ (g 102 v3.toNat) < 170
                        · rw [if_pos hc] at h
                          refine es (169, [some (.inr (.inr 92)), some (.inl c1), some (.inl c2), some (.inl v3), some (.inl (wr (v3 + 1))), some (.inl (g 102 v3.toNat))], [.inl (g 117 (g 102 v3.toNat).toNat)], g) (if_pos hc) ?_
                          refine ev_runs 3 (169, [some (.inr (.inr 92)), some (.inl c1), some (.inl c2), some (.inl v3), some (.inl (wr (v3 + 1))), some (.inl (g 102 v3.toNat))], [.inl (g 117 (g 102 v3.toNat).toNat)], g) (175, [some (.inr (.inr 92)), some (.inl c1), some (.inl c2), some (.inl v3), some (.inl (wr (v3 + 1))), some (.inl (g 102 v3.toNat))], [.inl (g 102 v3.toNat), .inr (.inr 101), .inl (g 117 (g 102 v3.toNat).toNat)], g) rfl ?_
                          by_cases hc : 0 ≤ (g 102 v3.toNat) ∧ (g 102 v3.toNat) < 170
                          · rw [if_pos hc] at h
                            refine es (176, [some (.inr (.inr 92)), some (.inl c1), some (.inl c2), some (.inl v3), some (.inl (wr (v3 + 1))), some (.inl (g 102 v3.toNat))], [.inl (g 101 (g 102 v3.toNat).toNat), .inl (g 117 (g 102 v3.toNat).toNat)], g) (if_pos hc) ?_
                            obtain ⟨y1, hy1, h⟩ := lett_inv h
                            have hjy1 : Ev 79 189 [some (.inr (.inr 92)), some (.inl c1), some (.inl c2), none, none, some (.inl (g 102 v3.toNat))] [.inl y1] g (some (.inl r)) g' := by
                              refine ev_runs 5 (189, [some (.inr (.inr 92)), some (.inl c1), some (.inl c2), none, none, some (.inl (g 102 v3.toNat))], [.inl y1], g) (198, [some (.inr (.inr 92)), some (.inl c1), some (.inl c2), none, some (.inl y1), some (.inl (g 102 v3.toNat))], [.inl (g 102 v3.toNat), .inr (.inr 117), .inl (g 102 v3.toNat), .inr (.inr 117)], g) rfl ?_
                              by_cases hc : 0 ≤ (g 102 v3.toNat) ∧ (g 102 v3.toNat) < 170
                              · rw [if_pos hc] at h
                                refine es (199, [some (.inr (.inr 92)), some (.inl c1), some (.inl c2), none, some (.inl y1), some (.inl (g 102 v3.toNat))], [.inl (g 117 (g 102 v3.toNat).toNat), .inl (g 102 v3.toNat), .inr (.inr 117)], g) (if_pos hc) ?_
                                refine ev_runs 2 (199, [some (.inr (.inr 92)), some (.inl c1), some (.inl c2), none, some (.inl y1), some (.inl (g 102 v3.toNat))], [.inl (g 117 (g 102 v3.toNat).toNat), .inl (g 102 v3.toNat), .inr (.inr 117)], g) (201, [some (.inr (.inr 92)), some (.inl c1), some (.inl c2), none, some (.inl y1), some (.inl (g 102 v3.toNat))], [.inl (wr ((g 117 (g 102 v3.toNat).toNat) + 1)), .inl (g 102 v3.toNat), .inr (.inr 117)], g) rfl ?_
                                by_cases hc : 0 ≤ (g 102 v3.toNat) ∧ (g 102 v3.toNat) < 170
                                · rw [if_pos hc] at h
                                  refine es (202, [some (.inr (.inr 92)), some (.inl c1), some (.inl c2), none, some (.inl y1), some (.inl (g 102 v3.toNat))], [], (gset g 117 ((g 102 v3.toNat).toNat) (wr ((g 117 (g 102 v3.toNat).toNat) + 1)))) (if_pos hc) ?_
                                  refine ev_runs 3 (202, [some (.inr (.inr 92)), some (.inl c1), some (.inl c2), none, some (.inl y1), some (.inl (g 102 v3.toNat))], [], (gset g 117 ((g 102 v3.toNat).toNat) (wr ((g 117 (g 102 v3.toNat).toNat) + 1)))) (12, [some (.inr (.inr 92)), some (.inl c1), some (.inl c2), some (.inl y1), some (.inl y1), some (.inl (g 102 v3.toNat))], [], (gset g 117 ((g 102 v3.toNat).toNat) (wr ((g 117 (g 102 v3.toNat).toNat) + 1)))) rfl ?_
                                  exact ev_le (L := [some (.inr (.inr 92)), some (.inl c1), some (.inl c2), some (.inl y1), none, none]) (by simp [Lle]) (ih12 y1 (gset g 117 ((g 102 v3.toNat).toNat) (wr ((g 117 (g 102 v3.toNat).toNat) + 1))) r g' h)
                                · rw [if_neg hc] at h; cases h
                              · rw [if_neg hc] at h; cases h
                            by_cases hc : (g 101 (g 102 v3.toNat).toNat) ≤ (g 117 (g 102 v3.toNat).toNat)
                            · rw [if_pos hc] at hy1
                              refine es (186, [some (.inr (.inr 92)), some (.inl c1), some (.inl c2), some (.inl v3), some (.inl (wr (v3 + 1))), some (.inl (g 102 v3.toNat))], [], g) (congrArg some (if_pos hc)) ?_
                              refine ev_runs 3 (186, [some (.inr (.inr 92)), some (.inl c1), some (.inl c2), some (.inl v3), some (.inl (wr (v3 + 1))), some (.inl (g 102 v3.toNat))], [], g) (189, [some (.inr (.inr 92)), some (.inl c1), some (.inl c2), some (.inl v3), some (.inl (wr (v3 + 1))), some (.inl (g 102 v3.toNat))], [.inl (wr (v3 + 1))], g) rfl ?_
                              rw [hy1] at hjy1
                              exact ev_le (L := [some (.inr (.inr 92)), some (.inl c1), some (.inl c2), none, none, some (.inl (g 102 v3.toNat))]) (by simp [Lle]) hjy1
                            · rw [if_neg hc] at hy1
                              refine es (179, [some (.inr (.inr 92)), some (.inl c1), some (.inl c2), some (.inl v3), some (.inl (wr (v3 + 1))), some (.inl (g 102 v3.toNat))], [], g) (congrArg some (if_neg hc)) ?_
                              refine ev_runs 4 (179, [some (.inr (.inr 92)), some (.inl c1), some (.inl c2), some (.inl v3), some (.inl (wr (v3 + 1))), some (.inl (g 102 v3.toNat))], [], g) (189, [some (.inr (.inr 92)), some (.inl c1), some (.inl c2), some (.inl v3), some (.inl (wr (v3 + 1))), some (.inl (g 102 v3.toNat))], [.inl (wr ((g 102 v3.toNat) + 1))], g) rfl ?_
                              rw [hy1] at hjy1
                              exact ev_le (L := [some (.inr (.inr 92)), some (.inl c1), some (.inl c2), none, none, some (.inl (g 102 v3.toNat))]) (by simp [Lle]) hjy1
                          · rw [if_neg hc] at h; cases h
                        · rw [if_neg hc] at h; cases h
                      · rw [if_neg hc] at h; cases h
                    · rw [if_neg hc] at h
                      refine es (144, [some (.inr (.inr 92)), some (.inl c1), some (.inl c2), some (.inl v3), some (.inl (wr (v3 + 1))), none], [], g) (congrArg some (if_neg hc)) ?_
                      refine ev_runs 4 (144, [some (.inr (.inr 92)), some (.inl c1), some (.inl c2), some (.inl v3), some (.inl (wr (v3 + 1))), none], [], g) (150, [some (.inr (.inr 92)), some (.inl c1), some (.inl c2), some (.inl v3), some (.inl (wr (v3 + 1))), none], [.inl 1, .inl v3, .inr (.inr 117)], g) rfl ?_
                      by_cases hc : 0 ≤ v3 ∧ v3 < 170
                      · rw [if_pos hc] at h
                        refine es (151, [some (.inr (.inr 92)), some (.inl c1), some (.inl c2), some (.inl v3), some (.inl (wr (v3 + 1))), none], [], (gset g 117 v3.toNat 1)) (if_pos hc) ?_
                        refine ev_runs 4 (151, [some (.inr (.inr 92)), some (.inl c1), some (.inl c2), some (.inl v3), some (.inl (wr (v3 + 1))), none], [], (gset g 117 v3.toNat 1)) (12, [some (.inr (.inr 92)), some (.inl c1), some (.inl c2), some (.inl (wr (v3 + 1))), some (.inl (wr (v3 + 1))), none], [], (gset g 117 v3.toNat 1)) rfl ?_
                        exact ev_le (L := [some (.inr (.inr 92)), some (.inl c1), some (.inl c2), some (.inl (wr (v3 + 1))), none, none]) (by simp [Lle]) (ih12 (wr (v3 + 1)) (gset g 117 v3.toNat 1) r g' h)
                      · rw [if_neg hc] at h; cases h
                  · rw [if_neg hc] at h; cases h
                · rw [if_neg hc] at h
                  refine es (118, [some (.inr (.inr 92)), some (.inl c1), some (.inl c2), some (.inl v3), some (.inl (wr (v3 + 1))), none], [], g) (congrArg some (if_neg hc)) ?_
                  refine ev_runs 5 (118, [some (.inr (.inr 92)), some (.inl c1), some (.inl c2), some (.inl v3), some (.inl (wr (v3 + 1))), none], [], g) (127, [some (.inr (.inr 92)), some (.inl c1), some (.inl c2), some (.inl v3), some (.inl (wr (v3 + 1))), none], [.inl v3, .inr (.inr 102), .inr (.inr 103)], g) rfl ?_
                  by_cases hc : 0 ≤ v3 ∧ v3 < 170
                  · rw [if_pos hc] at h
                    refine es (128, [some (.inr (.inr 92)), some (.inl c1), some (.inl c2), some (.inl v3), some (.inl (wr (v3 + 1))), none], [.inl (g 102 v3.toNat), .inr (.inr 103)], g) (if_pos hc) ?_
                    by_cases hc : 0 ≤ (g 102 v3.toNat) ∧ (g 102 v3.toNat) < 170
                    · rw [if_pos hc] at h
                      refine es (129, [some (.inr (.inr 92)), some (.inl c1), some (.inl c2), some (.inl v3), some (.inl (wr (v3 + 1))), none], [.inl (g 103 (g 102 v3.toNat).toNat)], g) (if_pos hc) ?_
                      refine ev_runs 5 (129, [some (.inr (.inr 92)), some (.inl c1), some (.inl c2), some (.inl v3), some (.inl (wr (v3 + 1))), none], [.inl (g 103 (g 102 v3.toNat).toNat)], g) (12, [some (.inr (.inr 92)), some (.inl c1), some (.inl c2), some (.inl (g 103 (g 102 v3.toNat).toNat)), some (.inl (g 103 (g 102 v3.toNat).toNat)), none], [], g) rfl ?_
                      exact ev_le (L := [some (.inr (.inr 92)), some (.inl c1), some (.inl c2), some (.inl (g 103 (g 102 v3.toNat).toNat)), none, none]) (by simp [Lle]) (ih12 (g 103 (g 102 v3.toNat).toNat) g r g' h)
                    · rw [if_neg hc] at h; cases h
                  · rw [if_neg hc] at h; cases h
              · rw [if_neg hc] at h; cases h
            · rw [if_neg hc] at h
              refine es (71, [some (.inr (.inr 92)), some (.inl c1), some (.inl c2), some (.inl v3), some (.inl (wr (v3 + 1))), none], [], g) (congrArg some (if_neg hc)) ?_
              refine ev_runs 4 (71, [some (.inr (.inr 92)), some (.inl c1), some (.inl c2), some (.inl v3), some (.inl (wr (v3 + 1))), none], [], g) (75, [some (.inr (.inr 92)), some (.inl c1), some (.inl c2), some (.inl v3), some (.inl (wr (v3 + 1))), none], [.inl c2, .inl c1, .inl v3, .inr (.inr 92)], g) rfl ?_
              obtain ⟨q2, hq, h⟩ := Option.bind_eq_some_iff.mp h
              refine ec 78 78 [.inr (.inr 92), .inl v3, .inl c1, .inl c2] [] rfl (ev_Md_chooses v3 c1 c2 g q2.1 q2.2 hq) ?_
              show Ev 79 78 [some (.inr (.inr 92)), some (.inl c1), some (.inl c2), some (.inl v3), some (.inl (wr (v3 + 1))), none] [.inl q2.1] q2.2 _ _
              by_cases hc : ¬ q2.1 = 0
              · rw [if_pos hc] at h
                refine es (83, [some (.inr (.inr 92)), some (.inl c1), some (.inl c2), some (.inl v3), some (.inl (wr (v3 + 1))), none], [], q2.2) (congrArg some (if_pos hc)) ?_
                refine ev_runs 11 (83, [some (.inr (.inr 92)), some (.inl c1), some (.inl c2), some (.inl v3), some (.inl (wr (v3 + 1))), none], [], q2.2) (100, [some (.inr (.inr 92)), some (.inl c1), some (.inl c2), some (.inl v3), some (.inl (wr (v3 + 1))), none], [.inl (wr ((q2.2 92 35) - 1)), .inr (.inr 114), .inl (wr (4 * v3)), .inr (.inr 104)], q2.2) rfl ?_
                by_cases hc : 0 ≤ (wr ((q2.2 92 35) - 1)) ∧ (wr ((q2.2 92 35) - 1)) < 30
                · rw [if_pos hc] at h
                  refine es (101, [some (.inr (.inr 92)), some (.inl c1), some (.inl c2), some (.inl v3), some (.inl (wr (v3 + 1))), none], [.inl (q2.2 114 (wr ((q2.2 92 35) - 1)).toNat), .inl (wr (4 * v3)), .inr (.inr 104)], q2.2) (if_pos hc) ?_
                  refine ev_runs 1 (101, [some (.inr (.inr 92)), some (.inl c1), some (.inl c2), some (.inl v3), some (.inl (wr (v3 + 1))), none], [.inl (q2.2 114 (wr ((q2.2 92 35) - 1)).toNat), .inl (wr (4 * v3)), .inr (.inr 104)], q2.2) (102, [some (.inr (.inr 92)), some (.inl c1), some (.inl c2), some (.inl v3), some (.inl (wr (v3 + 1))), none], [.inl (wr ((wr (4 * v3)) + (q2.2 114 (wr ((q2.2 92 35) - 1)).toNat))), .inr (.inr 104)], q2.2) rfl ?_
                  by_cases hc : 0 ≤ (wr ((wr (4 * v3)) + (q2.2 114 (wr ((q2.2 92 35) - 1)).toNat))) ∧ (wr ((wr (4 * v3)) + (q2.2 114 (wr ((q2.2 92 35) - 1)).toNat))) < 680
                  · rw [if_pos hc] at h
                    refine es (103, [some (.inr (.inr 92)), some (.inl c1), some (.inl c2), some (.inl v3), some (.inl (wr (v3 + 1))), none], [.inl (q2.2 104 (wr ((wr (4 * v3)) + (q2.2 114 (wr ((q2.2 92 35) - 1)).toNat))).toNat)], q2.2) (if_pos hc) ?_
                    refine ev_runs 5 (103, [some (.inr (.inr 92)), some (.inl c1), some (.inl c2), some (.inl v3), some (.inl (wr (v3 + 1))), none], [.inl (q2.2 104 (wr ((wr (4 * v3)) + (q2.2 114 (wr ((q2.2 92 35) - 1)).toNat))).toNat)], q2.2) (12, [some (.inr (.inr 92)), some (.inl c1), some (.inl c2), some (.inl (q2.2 104 (wr ((wr (4 * v3)) + (q2.2 114 (wr ((q2.2 92 35) - 1)).toNat))).toNat)), some (.inl (q2.2 104 (wr ((wr (4 * v3)) + (q2.2 114 (wr ((q2.2 92 35) - 1)).toNat))).toNat)), none], [], q2.2) rfl ?_
                    exact ev_le (L := [some (.inr (.inr 92)), some (.inl c1), some (.inl c2), some (.inl (q2.2 104 (wr ((wr (4 * v3)) + (q2.2 114 (wr ((q2.2 92 35) - 1)).toNat))).toNat)), none, none]) (by simp [Lle]) (ih12 (q2.2 104 (wr ((wr (4 * v3)) + (q2.2 114 (wr ((q2.2 92 35) - 1)).toNat))).toNat) q2.2 r g' h)
                  · rw [if_neg hc] at h; cases h
                · rw [if_neg hc] at h; cases h
              · rw [if_neg hc] at h
                refine es (81, [some (.inr (.inr 92)), some (.inl c1), some (.inl c2), some (.inl v3), some (.inl (wr (v3 + 1))), none], [], q2.2) (congrArg some (if_neg hc)) ?_
                refine ev_runs 1 (81, [some (.inr (.inr 92)), some (.inl c1), some (.inl c2), some (.inl v3), some (.inl (wr (v3 + 1))), none], [], q2.2) (82, [some (.inr (.inr 92)), some (.inl c1), some (.inl c2), some (.inl v3), some (.inl (wr (v3 + 1))), none], [.inl 0], q2.2) rfl ?_
                cases h
                exact er rfl
          · rw [if_neg hc] at h; cases h
        · rw [if_neg hc] at h
          refine es (34, [some (.inr (.inr 92)), some (.inl c1), some (.inl c2), some (.inl v3), some (.inl (wr (v3 + 1))), none], [], g) (congrArg some (if_neg hc)) ?_
          refine ev_runs 4 (34, [some (.inr (.inr 92)), some (.inl c1), some (.inl c2), some (.inl v3), some (.inl (wr (v3 + 1))), none], [], g) (40, [some (.inr (.inr 92)), some (.inl c1), some (.inl c2), some (.inl v3), some (.inl (wr (v3 + 1))), none], [.inl v3, .inr (.inr 100), .inr (.inr 92)], g) rfl ?_
          by_cases hc : 0 ≤ v3 ∧ v3 < 170
          · rw [if_pos hc] at h
            refine es (41, [some (.inr (.inr 92)), some (.inl c1), some (.inl c2), some (.inl v3), some (.inl (wr (v3 + 1))), none], [.inl (g 100 v3.toNat), .inr (.inr 92)], g) (if_pos hc) ?_
            refine ev_runs 3 (41, [some (.inr (.inr 92)), some (.inl c1), some (.inl c2), some (.inl v3), some (.inl (wr (v3 + 1))), none], [.inl (g 100 v3.toNat), .inr (.inr 92)], g) (46, [some (.inr (.inr 92)), some (.inl c1), some (.inl c2), some (.inl v3), some (.inl (wr (v3 + 1))), none], [.inl v3, .inr (.inr 101), .inl (g 100 v3.toNat), .inr (.inr 92)], g) rfl ?_
            by_cases hc : 0 ≤ v3 ∧ v3 < 170
            · rw [if_pos hc] at h
              refine es (47, [some (.inr (.inr 92)), some (.inl c1), some (.inl c2), some (.inl v3), some (.inl (wr (v3 + 1))), none], [.inl (g 101 v3.toNat), .inl (g 100 v3.toNat), .inr (.inr 92)], g) (if_pos hc) ?_
              refine ev_runs 3 (47, [some (.inr (.inr 92)), some (.inl c1), some (.inl c2), some (.inl v3), some (.inl (wr (v3 + 1))), none], [.inl (g 101 v3.toNat), .inl (g 100 v3.toNat), .inr (.inr 92)], g) (52, [some (.inr (.inr 92)), some (.inl c1), some (.inl c2), some (.inl v3), some (.inl (wr (v3 + 1))), none], [.inl v3, .inr (.inr 102), .inl (g 101 v3.toNat), .inl (g 100 v3.toNat), .inr (.inr 92)], g) rfl ?_
              by_cases hc : 0 ≤ v3 ∧ v3 < 170
              · rw [if_pos hc] at h
                refine es (53, [some (.inr (.inr 92)), some (.inl c1), some (.inl c2), some (.inl v3), some (.inl (wr (v3 + 1))), none], [.inl (g 102 v3.toNat), .inl (g 101 v3.toNat), .inl (g 100 v3.toNat), .inr (.inr 92)], g) (if_pos hc) ?_
                obtain ⟨q3, hq, h⟩ := Option.bind_eq_some_iff.mp h
                refine ec 77 56 [.inr (.inr 92), .inl (g 100 v3.toNat), .inl (g 101 v3.toNat), .inl (g 102 v3.toNat)] [] rfl (ev_Md_says (g 100 v3.toNat) (g 101 v3.toNat) (g 102 v3.toNat) g q3.1 q3.2 hq) ?_
                show Ev 79 56 [some (.inr (.inr 92)), some (.inl c1), some (.inl c2), some (.inl v3), some (.inl (wr (v3 + 1))), none] [.inl q3.1] q3.2 _ _
                by_cases hc : ¬ q3.1 = 0
                · rw [if_pos hc] at h
                  refine es (202, [some (.inr (.inr 92)), some (.inl c1), some (.inl c2), some (.inl v3), some (.inl (wr (v3 + 1))), none], [], q3.2) (congrArg some (if_pos hc)) ?_
                  refine ev_runs 3 (202, [some (.inr (.inr 92)), some (.inl c1), some (.inl c2), some (.inl v3), some (.inl (wr (v3 + 1))), none], [], q3.2) (12, [some (.inr (.inr 92)), some (.inl c1), some (.inl c2), some (.inl (wr (v3 + 1))), some (.inl (wr (v3 + 1))), none], [], q3.2) rfl ?_
                  exact ev_le (L := [some (.inr (.inr 92)), some (.inl c1), some (.inl c2), some (.inl (wr (v3 + 1))), none, none]) (by simp [Lle]) (ih12 (wr (v3 + 1)) q3.2 r g' h)
                · rw [if_neg hc] at h
                  refine es (59, [some (.inr (.inr 92)), some (.inl c1), some (.inl c2), some (.inl v3), some (.inl (wr (v3 + 1))), none], [], q3.2) (congrArg some (if_neg hc)) ?_
                  refine ev_runs 1 (59, [some (.inr (.inr 92)), some (.inl c1), some (.inl c2), some (.inl v3), some (.inl (wr (v3 + 1))), none], [], q3.2) (60, [some (.inr (.inr 92)), some (.inl c1), some (.inl c2), some (.inl v3), some (.inl (wr (v3 + 1))), none], [.inl 0], q3.2) rfl ?_
                  cases h
                  exact er rfl
              · rw [if_neg hc] at h; cases h
            · rw [if_neg hc] at h; cases h
          · rw [if_neg hc] at h; cases h
      · rw [if_neg hc] at h; cases h
set_option maxRecDepth 100000 in
set_option maxHeartbeats 4000000 in
theorem ev_Md_goes (a1 a2 : Int) (g : Gx) (r : Int) (g' : Gx) (h : Md_goes a1 a2 g = some (r, g')) : Ev 79 0 [some (.inr (.inr 92)), some (.inl a1), some (.inl a2), none, none, none] [] g (some (.inl r)) g' := by
  rw [Md_goes] at h
  refine ev_runs 8 (0, [some (.inr (.inr 92)), some (.inl a1), some (.inl a2), none, none, none], [], g) (12, [some (.inr (.inr 92)), some (.inl a1), some (.inl a2), some (.inl 0), none, none], [], (gset (gset g 92 36 0) 92 35 0)) rfl ?_
  refine ev_le (L := [some (.inr (.inr 92)), some (.inl a1), some (.inl a2), some (.inl 0), none, none]) (by simp [Lle]) ?_
  refine ev_Md_goes_l12 a1 a2 _ ?_ fu 0 (gset (gset g 92 36 0) 92 35 0) r g' h
  · intro g4 r g' h
    refine ev_runs 1 (208, [none, none, none, none, none, none], [], g4) (209, [none, none, none, none, none, none], [.inl 1], g4) rfl ?_
    cases h
    exact er rfl
