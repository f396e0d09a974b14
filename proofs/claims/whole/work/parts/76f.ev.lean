/-! The small machine does what the functions say. Printed by wip/gen/gen_parts.py. -/
set_option maxRecDepth 100000 in
set_option maxHeartbeats 4000000 in
theorem ev_Md_mended_l36 (c2 : Int) (K36_110 : Int → Gx → Option (Int × Gx)) (hK36_110 : ∀ (x1 : Int) (g : Gx) (r : Int) (g' : Gx), K36_110 x1 g = some (r, g') → Ev 138 110 [some (.inr (.inr 92)), some (.inl x1), some (.inl c2), none, none] [] g (some (.inl r)) g') : ∀ (n36 : Nat) (v1 v3 : Int) (g : Gx) (r : Int) (g' : Gx), Md_mended_l36 c2 K36_110 n36 v1 v3 g = some (r, g') → Ev 138 36 [some (.inr (.inr 92)), some (.inl v1), some (.inl c2), some (.inl v3), none] [] g (some (.inl r)) g' := by
  intro n36
  induction n36 with
  | zero => intro v1 v3 g r g' h; cases h
  | succ n36 ih36 =>
    intro v1 v3 g r g' h
    rw [Md_mended_l36] at h
    refine ev_runs 2 (36, [some (.inr (.inr 92)), some (.inl v1), some (.inl c2), some (.inl v3), none], [], g) (39, [some (.inr (.inr 92)), some (.inl v1), some (.inl c2), some (.inl v3), none], [.inl 6, .inl v3], g) rfl ?_
    by_cases hc : 6 ≤ v3
    · rw [if_pos hc] at h
      refine es (110, [some (.inr (.inr 92)), some (.inl v1), some (.inl c2), some (.inl v3), none], [], g) (congrArg some (if_pos hc)) ?_
      exact ev_le (L := [some (.inr (.inr 92)), some (.inl v1), some (.inl c2), none, none]) (by simp [Lle]) (hK36_110 v1 g r g' h)
    · rw [if_neg hc] at h
      refine es (42, [some (.inr (.inr 92)), some (.inl v1), some (.inl c2), some (.inl v3), none], [], g) (congrArg some (if_neg hc)) ?_
      refine ev_runs 3 (42, [some (.inr (.inr 92)), some (.inl v1), some (.inl c2), some (.inl v3), none], [], g) (47, [some (.inr (.inr 92)), some (.inl v1), some (.inl c2), some (.inl v3), none], [.inl c2, .inr (.inr 99)], g) rfl ?_
      by_cases hc : 0 ≤ c2 ∧ c2 < 170
      · rw [if_pos hc] at h
        refine es (48, [some (.inr (.inr 92)), some (.inl v1), some (.inl c2), some (.inl v3), none], [.inl (g 99 c2.toNat)], g) (if_pos hc) ?_
        refine ev_runs 1 (48, [some (.inr (.inr 92)), some (.inl v1), some (.inl c2), some (.inl v3), none], [.inl (g 99 c2.toNat)], g) (49, [some (.inr (.inr 92)), some (.inl v1), some (.inl c2), some (.inl v3), none], [.inl 1, .inl (g 99 c2.toNat)], g) rfl ?_
        by_cases hc : ¬ (g 99 c2.toNat) = 1
        · rw [if_pos hc] at h
          refine es (110, [some (.inr (.inr 92)), some (.inl v1), some (.inl c2), some (.inl v3), none], [], g) (congrArg some (if_pos hc)) ?_
          exact ev_le (L := [some (.inr (.inr 92)), some (.inl v1), some (.inl c2), none, none]) (by simp [Lle]) (hK36_110 v1 g r g' h)
        · rw [if_neg hc] at h
          refine es (52, [some (.inr (.inr 92)), some (.inl v1), some (.inl c2), some (.inl v3), none], [], g) (congrArg some (if_neg hc)) ?_
          refine ev_runs 3 (52, [some (.inr (.inr 92)), some (.inl v1), some (.inl c2), some (.inl v3), none], [], g) (57, [some (.inr (.inr 92)), some (.inl v1), some (.inl c2), some (.inl v3), none], [.inl c2, .inr (.inr 102)], g) rfl ?_
          by_cases hc : 0 ≤ c2 ∧ c2 < 170
          · rw [if_pos hc] at h
            refine es (58, [some (.inr (.inr 92)), some (.inl v1), some (.inl c2), some (.inl v3), none], [.inl (g 102 c2.toNat)], g) (if_pos hc) ?_
            refine ev_runs 1 (58, [some (.inr (.inr 92)), some (.inl v1), some (.inl c2), some (.inl v3), none], [.inl (g 102 c2.toNat)], g) (59, [some (.inr (.inr 92)), some (.inl v1), some (.inl c2), some (.inl v3), none], [.inl 5, .inl (g 102 c2.toNat)], g) rfl ?_
            by_cases hc : 5 ≤ (g 102 c2.toNat)
            · rw [if_pos hc] at h
              refine es (110, [some (.inr (.inr 92)), some (.inl v1), some (.inl c2), some (.inl v3), none], [], g) (congrArg some (if_pos hc)) ?_
              exact ev_le (L := [some (.inr (.inr 92)), some (.inl v1), some (.inl c2), none, none]) (by simp [Lle]) (hK36_110 v1 g r g' h)
            · rw [if_neg hc] at h
              refine es (62, [some (.inr (.inr 92)), some (.inl v1), some (.inl c2), some (.inl v3), none], [], g) (congrArg some (if_neg hc)) ?_
              refine ev_runs 5 (62, [some (.inr (.inr 92)), some (.inl v1), some (.inl c2), some (.inl v3), none], [], g) (69, [some (.inr (.inr 92)), some (.inl v1), some (.inl c2), some (.inl v3), none], [.inl c2, .inr (.inr 100), .inl v3, .inl v1], g) rfl ?_
              by_cases hc : 0 ≤ c2 ∧ c2 < 170
              · rw [if_pos hc] at h
                refine es (70, [some (.inr (.inr 92)), some (.inl v1), some (.inl c2), some (.inl v3), none], [.inl (g 100 c2.toNat), .inl v3, .inl v1], g) (if_pos hc) ?_
                by_cases hc : v3 = (g 100 c2.toNat)
                · rw [if_pos hc] at h
                  refine es (101, [some (.inr (.inr 92)), some (.inl v1), some (.inl c2), some (.inl v3), none], [.inl v1], g) (congrArg some (if_pos hc)) ?_
                  refine ev_runs 5 (101, [some (.inr (.inr 92)), some (.inl v1), some (.inl c2), some (.inl v3), none], [.inl v1], g) (36, [some (.inr (.inr 92)), some (.inl (jor v1 0)), some (.inl c2), some (.inl (wr (v3 + 1))), none], [], g) rfl ?_
                  exact ev_le (L := [some (.inr (.inr 92)), some (.inl (jor v1 0)), some (.inl c2), some (.inl (wr (v3 + 1))), none]) (by simp [Lle]) (ih36 (jor v1 0) (wr (v3 + 1)) g r g' h)
                · rw [if_neg hc] at h
                  refine es (73, [some (.inr (.inr 92)), some (.inl v1), some (.inl c2), some (.inl v3), none], [.inl v1], g) (congrArg some (if_neg hc)) ?_
                  refine ev_runs 7 (73, [some (.inr (.inr 92)), some (.inl v1), some (.inl c2), some (.inl v3), none], [.inl v1], g) (82, [some (.inr (.inr 92)), some (.inl v1), some (.inl c2), some (.inl v3), none], [.inl 1, .inl (jand (jshr (g 92 18) v3) 1), .inl v1], g) rfl ?_
                  by_cases hc : ¬ (jand (jshr (g 92 18) v3) 1) = 1
                  · rw [if_pos hc] at h
                    refine es (101, [some (.inr (.inr 92)), some (.inl v1), some (.inl c2), some (.inl v3), none], [.inl v1], g) (congrArg some (if_pos hc)) ?_
                    refine ev_runs 5 (101, [some (.inr (.inr 92)), some (.inl v1), some (.inl c2), some (.inl v3), none], [.inl v1], g) (36, [some (.inr (.inr 92)), some (.inl (jor v1 0)), some (.inl c2), some (.inl (wr (v3 + 1))), none], [], g) rfl ?_
                    exact ev_le (L := [some (.inr (.inr 92)), some (.inl (jor v1 0)), some (.inl c2), some (.inl (wr (v3 + 1))), none]) (by simp [Lle]) (ih36 (jor v1 0) (wr (v3 + 1)) g r g' h)
                  · rw [if_neg hc] at h
                    refine es (85, [some (.inr (.inr 92)), some (.inl v1), some (.inl c2), some (.inl v3), none], [.inl v1], g) (congrArg some (if_neg hc)) ?_
                    refine ev_runs 5 (85, [some (.inr (.inr 92)), some (.inl v1), some (.inl c2), some (.inl v3), none], [.inl v1], g) (93, [some (.inr (.inr 92)), some (.inl v1), some (.inl c2), some (.inl v3), none], [.inl c2, .inr (.inr 102), .inl 6, .inl 1, .inl v1], g) rfl ?_
                    by_cases hc : 0 ≤ c2 ∧ c2 < 170
                    · rw [if_pos hc] at h
                      refine es (94, [some (.inr (.inr 92)), some (.inl v1), some (.inl c2), some (.inl v3), none], [.inl (g 102 c2.toNat), .inl 6, .inl 1, .inl v1], g) (if_pos hc) ?_
                      refine ev_runs 9 (94, [some (.inr (.inr 92)), some (.inl v1), some (.inl c2), some (.inl v3), none], [.inl (g 102 c2.toNat), .inl 6, .inl 1, .inl v1], g) (36, [some (.inr (.inr 92)), some (.inl (jor v1 (jshl 1 (wr ((wr (6 * (g 102 c2.toNat))) + v3))))), some (.inl c2), some (.inl (wr (v3 + 1))), none], [], g) rfl ?_
                      exact ev_le (L := [some (.inr (.inr 92)), some (.inl (jor v1 (jshl 1 (wr ((wr (6 * (g 102 c2.toNat))) + v3))))), some (.inl c2), some (.inl (wr (v3 + 1))), none]) (by simp [Lle]) (ih36 (jor v1 (jshl 1 (wr ((wr (6 * (g 102 c2.toNat))) + v3)))) (wr (v3 + 1)) g r g' h)
                    · rw [if_neg hc] at h; cases h
              · rw [if_neg hc] at h; cases h
          · rw [if_neg hc] at h; cases h
      · rw [if_neg hc] at h; cases h
set_option maxRecDepth 100000 in
set_option maxHeartbeats 4000000 in
theorem ev_Md_mended_l26 (K26_116 : Int → Gx → Option (Int × Gx)) (hK26_116 : ∀ (x1 : Int) (g : Gx) (r : Int) (g' : Gx), K26_116 x1 g = some (r, g') → Ev 138 116 [some (.inr (.inr 92)), some (.inl x1), none, none, none] [] g (some (.inl r)) g') : ∀ (n26 : Nat) (v1 v2 : Int) (g : Gx) (r : Int) (g' : Gx), Md_mended_l26 K26_116 n26 v1 v2 g = some (r, g') → Ev 138 26 [some (.inr (.inr 92)), some (.inl v1), some (.inl v2), none, none] [] g (some (.inl r)) g' := by
  intro n26
  induction n26 with
  | zero => intro v1 v2 g r g' h; cases h
  | succ n26 ih26 =>
    intro v1 v2 g r g' h
    rw [Md_mended_l26] at h
    refine ev_runs 3 (26, [some (.inr (.inr 92)), some (.inl v1), some (.inl v2), none, none], [], g) (31, [some (.inr (.inr 92)), some (.inl v1), some (.inl v2), none, none], [.inl (g 92 9), .inl v2], g) rfl ?_
    by_cases hc : (g 92 9) ≤ v2
    · rw [if_pos hc] at h
      refine es (116, [some (.inr (.inr 92)), some (.inl v1), some (.inl v2), none, none], [], g) (congrArg some (if_pos hc)) ?_
      exact ev_le (L := [some (.inr (.inr 92)), some (.inl v1), none, none, none]) (by simp [Lle]) (hK26_116 v1 g r g' h)
    · rw [if_neg hc] at h
      refine es (34, [some (.inr (.inr 92)), some (.inl v1), some (.inl v2), none, none], [], g) (congrArg some (if_neg hc)) ?_
      refine ev_runs 2 (34, [some (.inr (.inr 92)), some (.inl v1), some (.inl v2), none, none], [], g) (36, [some (.inr (.inr 92)), some (.inl v1), some (.inl v2), some (.inl 0), none], [], g) rfl ?_
      refine ev_le (L := [some (.inr (.inr 92)), some (.inl v1), some (.inl v2), some (.inl 0), none]) (by simp [Lle]) ?_
      refine ev_Md_mended_l36 v2 _ ?_ fu v1 0 g r g' h
      · intro x3 g4 r g' h
        refine ev_runs 2 (110, [some (.inr (.inr 92)), some (.inl x3), some (.inl v2), none, none], [], g4) (26, [some (.inr (.inr 92)), some (.inl x3), some (.inl (wr (v2 + 1))), none, none], [], g4) rfl ?_
        exact ev_le (L := [some (.inr (.inr 92)), some (.inl x3), some (.inl (wr (v2 + 1))), none, none]) (by simp [Lle]) (ih26 x3 (wr (v2 + 1)) g4 r g' h)
set_option maxRecDepth 100000 in
set_option maxHeartbeats 4000000 in
theorem ev_Md_mended_l135 (c1 : Int) (K135_193 : Int → Gx → Option (Int × Gx)) (hK135_193 : ∀ (x2 : Int) (g : Gx) (r : Int) (g' : Gx), K135_193 x2 g = some (r, g') → Ev 138 193 [none, none, some (.inl x2), none, none] [] g (some (.inl r)) g') : ∀ (n135 : Nat) (v2 v3 v4 : Int) (g : Gx) (r : Int) (g' : Gx), Md_mended_l135 c1 K135_193 n135 v2 v3 v4 g = some (r, g') → Ev 138 135 [some (.inr (.inr 92)), some (.inl c1), some (.inl v2), some (.inl v3), some (.inl v4)] [] g (some (.inl r)) g' := by
  intro n135
  induction n135 with
  | zero => intro v2 v3 v4 g r g' h; cases h
  | succ n135 ih135 =>
    intro v2 v3 v4 g r g' h
    rw [Md_mended_l135] at h
    refine ev_runs 1 (135, [some (.inr (.inr 92)), some (.inl c1), some (.inl v2), some (.inl v3), some (.inl v4)], [], g) (137, [some (.inr (.inr 92)), some (.inl c1), some (.inl v2), some (.inl v3), some (.inl v4)], [.inl v4], g) rfl ?_
    by_cases hc : v4 = 0
    · rw [if_pos hc] at h
      refine es (193, [some (.inr (.inr 92)), some (.inl c1), some (.inl v2), some (.inl v3), some (.inl v4)], [], g) (congrArg some (if_pos hc)) ?_
      exact ev_le (L := [none, none, some (.inl v2), none, none]) (by simp [Lle]) (hK135_193 v2 g r g' h)
    · rw [if_neg hc] at h
      refine es (140, [some (.inr (.inr 92)), some (.inl c1), some (.inl v2), some (.inl v3), some (.inl v4)], [], g) (congrArg some (if_neg hc)) ?_
      refine ev_runs 2 (140, [some (.inr (.inr 92)), some (.inl c1), some (.inl v2), some (.inl v3), some (.inl v4)], [], g) (142, [some (.inr (.inr 92)), some (.inl c1), some (.inl v2), some (.inl v3), some (.inl v4)], [.inl (-1), .inl v2], g) rfl ?_
      by_cases hc : v2 = (-1)
      · rw [if_pos hc] at h
        refine es (156, [some (.inr (.inr 92)), some (.inl c1), some (.inl v2), some (.inl v3), some (.inl v4)], [], g) (congrArg some (if_pos hc)) ?_
        refine ev_runs 2 (156, [some (.inr (.inr 92)), some (.inl c1), some (.inl v2), some (.inl v3), some (.inl v4)], [], g) (158, [some (.inr (.inr 92)), some (.inl c1), some (.inl v2), some (.inl v3), some (.inl v4)], [.inl v3, .inr (.inr 92)], g) rfl ?_
        obtain ⟨q8, hq, h⟩ := Option.bind_eq_some_iff.mp h
        refine ec 80 161 [.inr (.inr 92), .inl v3] [] rfl (ev_Md_unfolds v3 g q8.1 q8.2 hq) ?_
        show Ev 138 161 [some (.inr (.inr 92)), some (.inl c1), some (.inl v2), some (.inl v3), some (.inl v4)] [.inl q8.1] q8.2 _ _
        by_cases hc : ¬ q8.1 = 0
        · rw [if_pos hc] at h
          refine es (173, [some (.inr (.inr 92)), some (.inl c1), some (.inl v2), some (.inl v3), some (.inl v4)], [], q8.2) (congrArg some (if_pos hc)) ?_
          refine ev_runs 7 (173, [some (.inr (.inr 92)), some (.inl c1), some (.inl v2), some (.inl v3), some (.inl v4)], [], q8.2) (180, [some (.inr (.inr 92)), some (.inl c1), some (.inl v2), some (.inl (jand (wr (v3 - c1)) c1)), some (.inl v4)], [.inl (jand (wr (v3 - c1)) c1)], q8.2) rfl ?_
          by_cases hc : (jand (wr (v3 - c1)) c1) = 0
          · rw [if_pos hc] at h
            refine es (187, [some (.inr (.inr 92)), some (.inl c1), some (.inl v2), some (.inl (jand (wr (v3 - c1)) c1)), some (.inl v4)], [], q8.2) (congrArg some (if_pos hc)) ?_
            refine ev_runs 3 (187, [some (.inr (.inr 92)), some (.inl c1), some (.inl v2), some (.inl (jand (wr (v3 - c1)) c1)), some (.inl v4)], [], q8.2) (135, [some (.inr (.inr 92)), some (.inl c1), some (.inl v2), some (.inl (jand (wr (v3 - c1)) c1)), some (.inl 0)], [], q8.2) rfl ?_
            exact ev_le (L := [some (.inr (.inr 92)), some (.inl c1), some (.inl v2), some (.inl (jand (wr (v3 - c1)) c1)), some (.inl 0)]) (by simp [Lle]) (ih135 v2 (jand (wr (v3 - c1)) c1) 0 q8.2 r g' h)
          · rw [if_neg hc] at h
            refine es (183, [some (.inr (.inr 92)), some (.inl c1), some (.inl v2), some (.inl (jand (wr (v3 - c1)) c1)), some (.inl v4)], [], q8.2) (congrArg some (if_neg hc)) ?_
            refine ev_runs 4 (183, [some (.inr (.inr 92)), some (.inl c1), some (.inl v2), some (.inl (jand (wr (v3 - c1)) c1)), some (.inl v4)], [], q8.2) (135, [some (.inr (.inr 92)), some (.inl c1), some (.inl v2), some (.inl (jand (wr (v3 - c1)) c1)), some (.inl 1)], [], q8.2) rfl ?_
            exact ev_le (L := [some (.inr (.inr 92)), some (.inl c1), some (.inl v2), some (.inl (jand (wr (v3 - c1)) c1)), some (.inl 1)]) (by simp [Lle]) (ih135 v2 (jand (wr (v3 - c1)) c1) 1 q8.2 r g' h)
        · rw [if_neg hc] at h
          refine es (164, [some (.inr (.inr 92)), some (.inl c1), some (.inl v2), some (.inl v3), some (.inl v4)], [], q8.2) (congrArg some (if_neg hc)) ?_
          refine ev_runs 1 (164, [some (.inr (.inr 92)), some (.inl c1), some (.inl v2), some (.inl v3), some (.inl v4)], [], q8.2) (165, [some (.inr (.inr 92)), some (.inl c1), some (.inl v2), some (.inl v3), some (.inl v4)], [.inr (.inr 92)], q8.2) rfl ?_
          obtain ⟨q9, hq, h⟩ := Option.bind_eq_some_iff.mp h
          refine ec 126 168 [.inr (.inr 92)] [] rfl (ev_Md_isSound q8.2 q9.1 q9.2 hq) ?_
          show Ev 138 168 [some (.inr (.inr 92)), some (.inl c1), some (.inl v2), some (.inl v3), some (.inl v4)] [.inl q9.1] q9.2 _ _
          obtain ⟨y10, hy10, h⟩ := lett_inv h
          have hjy10 : Ev 138 173 [some (.inr (.inr 92)), some (.inl c1), some (.inl y10), some (.inl v3), none] [] q9.2 (some (.inl r)) g' := by
            refine ev_runs 7 (173, [some (.inr (.inr 92)), some (.inl c1), some (.inl y10), some (.inl v3), none], [], q9.2) (180, [some (.inr (.inr 92)), some (.inl c1), some (.inl y10), some (.inl (jand (wr (v3 - c1)) c1)), none], [.inl (jand (wr (v3 - c1)) c1)], q9.2) rfl ?_
            by_cases hc : (jand (wr (v3 - c1)) c1) = 0
            · rw [if_pos hc] at h
              refine es (187, [some (.inr (.inr 92)), some (.inl c1), some (.inl y10), some (.inl (jand (wr (v3 - c1)) c1)), none], [], q9.2) (congrArg some (if_pos hc)) ?_
              refine ev_runs 3 (187, [some (.inr (.inr 92)), some (.inl c1), some (.inl y10), some (.inl (jand (wr (v3 - c1)) c1)), none], [], q9.2) (135, [some (.inr (.inr 92)), some (.inl c1), some (.inl y10), some (.inl (jand (wr (v3 - c1)) c1)), some (.inl 0)], [], q9.2) rfl ?_
              exact ev_le (L := [some (.inr (.inr 92)), some (.inl c1), some (.inl y10), some (.inl (jand (wr (v3 - c1)) c1)), some (.inl 0)]) (by simp [Lle]) (ih135 y10 (jand (wr (v3 - c1)) c1) 0 q9.2 r g' h)
            · rw [if_neg hc] at h
              refine es (183, [some (.inr (.inr 92)), some (.inl c1), some (.inl y10), some (.inl (jand (wr (v3 - c1)) c1)), none], [], q9.2) (congrArg some (if_neg hc)) ?_
              refine ev_runs 4 (183, [some (.inr (.inr 92)), some (.inl c1), some (.inl y10), some (.inl (jand (wr (v3 - c1)) c1)), none], [], q9.2) (135, [some (.inr (.inr 92)), some (.inl c1), some (.inl y10), some (.inl (jand (wr (v3 - c1)) c1)), some (.inl 1)], [], q9.2) rfl ?_
              exact ev_le (L := [some (.inr (.inr 92)), some (.inl c1), some (.inl y10), some (.inl (jand (wr (v3 - c1)) c1)), some (.inl 1)]) (by simp [Lle]) (ih135 y10 (jand (wr (v3 - c1)) c1) 1 q9.2 r g' h)
          by_cases hc : q9.1 = 0
          · rw [if_pos hc] at hy10
            refine es (173, [some (.inr (.inr 92)), some (.inl c1), some (.inl v2), some (.inl v3), some (.inl v4)], [], q9.2) (congrArg some (if_pos hc)) ?_
            rw [hy10] at hjy10
            exact ev_le (L := [some (.inr (.inr 92)), some (.inl c1), some (.inl v2), some (.inl v3), none]) (by simp [Lle]) hjy10
          · rw [if_neg hc] at hy10
            refine es (171, [some (.inr (.inr 92)), some (.inl c1), some (.inl v2), some (.inl v3), some (.inl v4)], [], q9.2) (congrArg some (if_neg hc)) ?_
            refine ev_runs 2 (171, [some (.inr (.inr 92)), some (.inl c1), some (.inl v2), some (.inl v3), some (.inl v4)], [], q9.2) (173, [some (.inr (.inr 92)), some (.inl c1), some (.inl v3), some (.inl v3), some (.inl v4)], [], q9.2) rfl ?_
            rw [hy10] at hjy10
            exact ev_le (L := [some (.inr (.inr 92)), some (.inl c1), some (.inl v3), some (.inl v3), none]) (by simp [Lle]) hjy10
      · rw [if_neg hc] at h
        refine es (145, [some (.inr (.inr 92)), some (.inl c1), some (.inl v2), some (.inl v3), some (.inl v4)], [], g) (congrArg some (if_neg hc)) ?_
        refine ev_runs 1 (145, [some (.inr (.inr 92)), some (.inl c1), some (.inl v2), some (.inl v3), some (.inl v4)], [], g) (146, [some (.inr (.inr 92)), some (.inl c1), some (.inl v2), some (.inl v3), some (.inl v4)], [.inl v3], g) rfl ?_
        obtain ⟨q11, hq, h⟩ := Option.bind_eq_some_iff.mp h
        refine ec 137 149 [.inl v3] [] rfl (ev_Md_ones v3 g q11.1 q11.2 hq) ?_
        show Ev 138 149 [some (.inr (.inr 92)), some (.inl c1), some (.inl v2), some (.inl v3), some (.inl v4)] [.inl q11.1] q11.2 _ _
        refine ev_runs 1 (149, [some (.inr (.inr 92)), some (.inl c1), some (.inl v2), some (.inl v3), some (.inl v4)], [.inl q11.1], q11.2) (150, [some (.inr (.inr 92)), some (.inl c1), some (.inl v2), some (.inl v3), some (.inl v4)], [.inl v2, .inl q11.1], q11.2) rfl ?_
        obtain ⟨q12, hq, h⟩ := Option.bind_eq_some_iff.mp h
        refine ec 137 153 [.inl v2] [.inl q11.1] rfl (ev_Md_ones v2 q11.2 q12.1 q12.2 hq) ?_
        show Ev 138 153 [some (.inr (.inr 92)), some (.inl c1), some (.inl v2), some (.inl v3), some (.inl v4)] [.inl q12.1, .inl q11.1] q12.2 _ _
        by_cases hc : q12.1 ≤ q11.1
        · rw [if_pos hc] at h
          refine es (173, [some (.inr (.inr 92)), some (.inl c1), some (.inl v2), some (.inl v3), some (.inl v4)], [], q12.2) (congrArg some (if_pos hc)) ?_
          refine ev_runs 7 (173, [some (.inr (.inr 92)), some (.inl c1), some (.inl v2), some (.inl v3), some (.inl v4)], [], q12.2) (180, [some (.inr (.inr 92)), some (.inl c1), some (.inl v2), some (.inl (jand (wr (v3 - c1)) c1)), some (.inl v4)], [.inl (jand (wr (v3 - c1)) c1)], q12.2) rfl ?_
          by_cases hc : (jand (wr (v3 - c1)) c1) = 0
          · rw [if_pos hc] at h
            refine es (187, [some (.inr (.inr 92)), some (.inl c1), some (.inl v2), some (.inl (jand (wr (v3 - c1)) c1)), some (.inl v4)], [], q12.2) (congrArg some (if_pos hc)) ?_
            refine ev_runs 3 (187, [some (.inr (.inr 92)), some (.inl c1), some (.inl v2), some (.inl (jand (wr (v3 - c1)) c1)), some (.inl v4)], [], q12.2) (135, [some (.inr (.inr 92)), some (.inl c1), some (.inl v2), some (.inl (jand (wr (v3 - c1)) c1)), some (.inl 0)], [], q12.2) rfl ?_
            exact ev_le (L := [some (.inr (.inr 92)), some (.inl c1), some (.inl v2), some (.inl (jand (wr (v3 - c1)) c1)), some (.inl 0)]) (by simp [Lle]) (ih135 v2 (jand (wr (v3 - c1)) c1) 0 q12.2 r g' h)
          · rw [if_neg hc] at h
            refine es (183, [some (.inr (.inr 92)), some (.inl c1), some (.inl v2), some (.inl (jand (wr (v3 - c1)) c1)), some (.inl v4)], [], q12.2) (congrArg some (if_neg hc)) ?_
            refine ev_runs 4 (183, [some (.inr (.inr 92)), some (.inl c1), some (.inl v2), some (.inl (jand (wr (v3 - c1)) c1)), some (.inl v4)], [], q12.2) (135, [some (.inr (.inr 92)), some (.inl c1), some (.inl v2), some (.inl (jand (wr (v3 - c1)) c1)), some (.inl 1)], [], q12.2) rfl ?_
            exact ev_le (L := [some (.inr (.inr 92)), some (.inl c1), some (.inl v2), some (.inl (jand (wr (v3 - c1)) c1)), some (.inl 1)]) (by simp [Lle]) (ih135 v2 (jand (wr (v3 - c1)) c1) 1 q12.2 r g' h)
        · rw [if_neg hc] at h
          refine es (156, [some (.inr (.inr 92)), some (.inl c1), some (.inl v2), some (.inl v3), some (.inl v4)], [], q12.2) (congrArg some (if_neg hc)) ?_
          refine ev_runs 2 (156, [some (.inr (.inr 92)), some (.inl c1), some (.inl v2), some (.inl v3), some (.inl v4)], [], q12.2) (158, [some (.inr (.inr 92)), some (.inl c1), some (.inl v2), some (.inl v3), some (.inl v4)], [.inl v3, .inr (.inr 92)], q12.2) rfl ?_
          obtain ⟨q13, hq, h⟩ := Option.bind_eq_some_iff.mp h
          refine ec 80 161 [.inr (.inr 92), .inl v3] [] rfl (ev_Md_unfolds v3 q12.2 q13.1 q13.2 hq) ?_
          show Ev 138 161 [some (.inr (.inr 92)), some (.inl c1), some (.inl v2), some (.inl v3), some (.inl v4)] [.inl q13.1] q13.2 _ _
          by_cases hc : ¬ q13.1 = 0
          · rw [if_pos hc] at h
            refine es (173, [some (.inr (.inr 92)), some (.inl c1), some (.inl v2), some (.inl v3), some (.inl v4)], [], q13.2) (congrArg some (if_pos hc)) ?_
            refine ev_runs 7 (173, [some (.inr (.inr 92)), some (.inl c1), some (.inl v2), some (.inl v3), some (.inl v4)], [], q13.2) (180, [some (.inr (.inr 92)), some (.inl c1), some (.inl v2), some (.inl (jand (wr (v3 - c1)) c1)), some (.inl v4)], [.inl (jand (wr (v3 - c1)) c1)], q13.2) rfl ?_
            by_cases hc : (jand (wr (v3 - c1)) c1) = 0
            · rw [if_pos hc] at h
              refine es (187, [some (.inr (.inr 92)), some (.inl c1), some (.inl v2), some (.inl (jand (wr (v3 - c1)) c1)), some (.inl v4)], [], q13.2) (congrArg some (if_pos hc)) ?_
              refine ev_runs 3 (187, [some (.inr (.inr 92)), some (.inl c1), some (.inl v2), some (.inl (jand (wr (v3 - c1)) c1)), some (.inl v4)], [], q13.2) (135, [some (.inr (.inr 92)), some (.inl c1), some (.inl v2), some (.inl (jand (wr (v3 - c1)) c1)), some (.inl 0)], [], q13.2) rfl ?_
              exact ev_le (L := [some (.inr (.inr 92)), some (.inl c1), some (.inl v2), some (.inl (jand (wr (v3 - c1)) c1)), some (.inl 0)]) (by simp [Lle]) (ih135 v2 (jand (wr (v3 - c1)) c1) 0 q13.2 r g' h)
            · rw [if_neg hc] at h
              refine es (183, [some (.inr (.inr 92)), some (.inl c1), some (.inl v2), some (.inl (jand (wr (v3 - c1)) c1)), some (.inl v4)], [], q13.2) (congrArg some (if_neg hc)) ?_
              refine ev_runs 4 (183, [some (.inr (.inr 92)), some (.inl c1), some (.inl v2), some (.inl (jand (wr (v3 - c1)) c1)), some (.inl v4)], [], q13.2) (135, [some (.inr (.inr 92)), some (.inl c1), some (.inl v2), some (.inl (jand (wr (v3 - c1)) c1)), some (.inl 1)], [], q13.2) rfl ?_
              exact ev_le (L := [some (.inr (.inr 92)), some (.inl c1), some (.inl v2), some (.inl (jand (wr (v3 - c1)) c1)), some (.inl 1)]) (by simp [Lle]) (ih135 v2 (jand (wr (v3 - c1)) c1) 1 q13.2 r g' h)
          · rw [if_neg hc] at h
            refine es (164, [some (.inr (.inr 92)), some (.inl c1), some (.inl v2), some (.inl v3), some (.inl v4)], [], q13.2) (congrArg some (if_neg hc)) ?_
            refine ev_runs 1 (164, [some (.inr (.inr 92)), some (.inl c1), some (.inl v2), some (.inl v3), some (.inl v4)], [], q13.2) (165, [some (.inr (.inr 92)), some (.inl c1), some (.inl v2), some (.inl v3), some (.inl v4)], [.inr (.inr 92)], q13.2) rfl ?_
            obtain ⟨q14, hq, h⟩ := Option.bind_eq_some_iff.mp h
            refine ec 126 168 [.inr (.inr 92)] [] rfl (ev_Md_isSound q13.2 q14.1 q14.2 hq) ?_
            show Ev 138 168 [some (.inr (.inr 92)), some (.inl c1), some (.inl v2), some (.inl v3), some (.inl v4)] [.inl q14.1] q14.2 _ _
            obtain ⟨y15, hy15, h⟩ := lett_inv h
            have hjy15 : Ev 138 173 [some (.inr (.inr 92)), some (.inl c1), some (.inl y15), some (.inl v3), none] [] q14.2 (some (.inl r)) g' := by
              refine ev_runs 7 (173, [some (.inr (.inr 92)), some (.inl c1), some (.inl y15), some (.inl v3), none], [], q14.2) (180, [some (.inr (.inr 92)), some (.inl c1), some (.inl y15), some (.inl (jand (wr (v3 - c1)) c1)), none], [.inl (jand (wr (v3 - c1)) c1)], q14.2) rfl ?_
              by_cases hc : (jand (wr (v3 - c1)) c1) = 0
              · rw [if_pos hc] at h
                refine es (187, [some (.inr (.inr 92)), some (.inl c1), some (.inl y15), some (.inl (jand (wr (v3 - c1)) c1)), none], [], q14.2) (congrArg some (if_pos hc)) ?_
                refine ev_runs 3 (187, [some (.inr (.inr 92)), some (.inl c1), some (.inl y15), some (.inl (jand (wr (v3 - c1)) c1)), none], [], q14.2) (135, [some (.inr (.inr 92)), some (.inl c1), some (.inl y15), some (.inl (jand (wr (v3 - c1)) c1)), some (.inl 0)], [], q14.2) rfl ?_
                exact ev_le (L := [some (.inr (.inr 92)), some (.inl c1), some (.inl y15), some (.inl (jand (wr (v3 - c1)) c1)), some (.inl 0)]) (by simp [Lle]) (ih135 y15 (jand (wr (v3 - c1)) c1) 0 q14.2 r g' h)
              · rw [if_neg hc] at h
                refine es (183, [some (.inr (.inr 92)), some (.inl c1), some (.inl y15), some (.inl (jand (wr (v3 - c1)) c1)), none], [], q14.2) (congrArg some (if_neg hc)) ?_
                refine ev_runs 4 (183, [some (.inr (.inr 92)), some (.inl c1), some (.inl y15), some (.inl (jand (wr (v3 - c1)) c1)), none], [], q14.2) (135, [some (.inr (.inr 92)), some (.inl c1), some (.inl y15), some (.inl (jand (wr (v3 - c1)) c1)), some (.inl 1)], [], q14.2) rfl ?_
                exact ev_le (L := [some (.inr (.inr 92)), some (.inl c1), some (.inl y15), some (.inl (jand (wr (v3 - c1)) c1)), some (.inl 1)]) (by simp [Lle]) (ih135 y15 (jand (wr (v3 - c1)) c1) 1 q14.2 r g' h)
            by_cases hc : q14.1 = 0
            · rw [if_pos hc] at hy15
              refine es (173, [some (.inr (.inr 92)), some (.inl c1), some (.inl v2), some (.inl v3), some (.inl v4)], [], q14.2) (congrArg some (if_pos hc)) ?_
              rw [hy15] at hjy15
              exact ev_le (L := [some (.inr (.inr 92)), some (.inl c1), some (.inl v2), some (.inl v3), none]) (by simp [Lle]) hjy15
            · rw [if_neg hc] at hy15
              refine es (171, [some (.inr (.inr 92)), some (.inl c1), some (.inl v2), some (.inl v3), some (.inl v4)], [], q14.2) (congrArg some (if_neg hc)) ?_
              refine ev_runs 2 (171, [some (.inr (.inr 92)), some (.inl c1), some (.inl v2), some (.inl v3), some (.inl v4)], [], q14.2) (173, [some (.inr (.inr 92)), some (.inl c1), some (.inl v3), some (.inl v3), some (.inl v4)], [], q14.2) rfl ?_
              rw [hy15] at hjy15
              exact ev_le (L := [some (.inr (.inr 92)), some (.inl c1), some (.inl v3), some (.inl v3), none]) (by simp [Lle]) hjy15
set_option maxRecDepth 100000 in
set_option maxHeartbeats 4000000 in
theorem ev_Md_mended (g : Gx) (r : Int) (g' : Gx) (h : Md_mended g = some (r, g')) : Ev 138 0 [some (.inr (.inr 92)), none, none, none, none] [] g (some (.inl r)) g' := by
  rw [Md_mended] at h
  refine ev_runs 1 (0, [some (.inr (.inr 92)), none, none, none, none], [], g) (1, [some (.inr (.inr 92)), none, none, none, none], [.inr (.inr 92)], g) rfl ?_
  obtain ⟨q1, hq, h⟩ := Option.bind_eq_some_iff.mp h
  refine ec 43 4 [.inr (.inr 92)] [] rfl (ev_Md_reads g q1.1 q1.2 hq) ?_
  show Ev 138 4 [some (.inr (.inr 92)), none, none, none, none] [.inl q1.1] q1.2 _ _
  refine ev_runs 1 (4, [some (.inr (.inr 92)), none, none, none, none], [.inl q1.1], q1.2) (5, [some (.inr (.inr 92)), none, none, none, none], [.inl (-1), .inl q1.1], q1.2) rfl ?_
  by_cases hc : q1.1 = (-1)
  · rw [if_pos hc] at h
    refine es (11, [some (.inr (.inr 92)), none, none, none, none], [], q1.2) (congrArg some (if_pos hc)) ?_
    refine ev_runs 2 (11, [some (.inr (.inr 92)), none, none, none, none], [], q1.2) (13, [some (.inr (.inr 92)), none, none, none, none], [.inl 0, .inr (.inr 92)], q1.2) rfl ?_
    obtain ⟨q2, hq, h⟩ := Option.bind_eq_some_iff.mp h
    refine ec 80 16 [.inr (.inr 92), .inl 0] [] rfl (ev_Md_unfolds 0 q1.2 q2.1 q2.2 hq) ?_
    show Ev 138 16 [some (.inr (.inr 92)), none, none, none, none] [.inl q2.1] q2.2 _ _
    by_cases hc : q2.1 = 0
    · rw [if_pos hc] at h
      refine es (22, [some (.inr (.inr 92)), none, none, none, none], [], q2.2) (congrArg some (if_pos hc)) ?_
      refine ev_runs 4 (22, [some (.inr (.inr 92)), none, none, none, none], [], q2.2) (26, [some (.inr (.inr 92)), some (.inl 0), some (.inl 0), none, none], [], q2.2) rfl ?_
      refine ev_le (L := [some (.inr (.inr 92)), some (.inl 0), some (.inl 0), none, none]) (by simp [Lle]) ?_
      refine ev_Md_mended_l26 _ ?_ fu 0 0 q2.2 r g' h
      · intro x5 g6 r g' h
        refine ev_runs 1 (116, [some (.inr (.inr 92)), some (.inl x5), none, none, none], [], g6) (117, [some (.inr (.inr 92)), some (.inl x5), none, none, none], [.inl x5], g6) rfl ?_
        obtain ⟨q7, hq, h⟩ := Option.bind_eq_some_iff.mp h
        refine ec 137 120 [.inl x5] [] rfl (ev_Md_ones x5 g6 q7.1 q7.2 hq) ?_
        show Ev 138 120 [some (.inr (.inr 92)), some (.inl x5), none, none, none] [.inl q7.1] q7.2 _ _
        refine ev_runs 1 (120, [some (.inr (.inr 92)), some (.inl x5), none, none, none], [.inl q7.1], q7.2) (122, [some (.inr (.inr 92)), some (.inl x5), none, none, none], [.inl 6, .inl q7.1], q7.2) rfl ?_
        by_cases hc : q7.1 ≤ 6
        · rw [if_pos hc] at h
          refine es (128, [some (.inr (.inr 92)), some (.inl x5), none, none, none], [], q7.2) (congrArg some (if_pos hc)) ?_
          refine ev_runs 6 (128, [some (.inr (.inr 92)), some (.inl x5), none, none, none], [], q7.2) (135, [some (.inr (.inr 92)), some (.inl x5), some (.inl (-1)), some (.inl 0), some (.inl 1)], [], q7.2) rfl ?_
          refine ev_le (L := [some (.inr (.inr 92)), some (.inl x5), some (.inl (-1)), some (.inl 0), some (.inl 1)]) (by simp [Lle]) ?_
          refine ev_Md_mended_l135 x5 _ ?_ fu (-1) 0 1 q7.2 r g' h
          · intro x16 g17 r g' h
            refine ev_runs 1 (193, [none, none, some (.inl x16), none, none], [], g17) (194, [none, none, some (.inl x16), none, none], [.inl x16], g17) rfl ?_
            cases h
            exact er rfl
        · rw [if_neg hc] at h
          refine es (125, [some (.inr (.inr 92)), some (.inl x5), none, none, none], [], q7.2) (congrArg some (if_neg hc)) ?_
          refine ev_runs 1 (125, [some (.inr (.inr 92)), some (.inl x5), none, none, none], [], q7.2) (127, [some (.inr (.inr 92)), some (.inl x5), none, none, none], [.inl (-4)], q7.2) rfl ?_
          cases h
          exact er rfl
    · rw [if_neg hc] at h
      refine es (19, [some (.inr (.inr 92)), none, none, none, none], [], q2.2) (congrArg some (if_neg hc)) ?_
      refine ev_runs 1 (19, [some (.inr (.inr 92)), none, none, none, none], [], q2.2) (21, [some (.inr (.inr 92)), none, none, none, none], [.inl (-4)], q2.2) rfl ?_
      cases h
      exact er rfl
  · rw [if_neg hc] at h
    refine es (8, [some (.inr (.inr 92)), none, none, none, none], [], q1.2) (congrArg some (if_neg hc)) ?_
    refine ev_runs 1 (8, [some (.inr (.inr 92)), none, none, none, none], [], q1.2) (10, [some (.inr (.inr 92)), none, none, none, none], [.inl (-3)], q1.2) rfl ?_
    cases h
    exact er rfl
set_option maxRecDepth 100000 in
set_option maxHeartbeats 4000000 in
theorem ev_Rn_takesPart (a0 a1 : Int) (g : Gx) (r : Int) (h : Rn_takesPart a0 a1 = r) : Ev 139 0 [some (.inl a0), some (.inl a1)] [] g (some (.inl r)) g := by
  rw [Rn_takesPart] at h
  refine ev_runs 1 (0, [some (.inl a0), some (.inl a1)], [], g) (1, [some (.inl a0), some (.inl a1)], [.inl a1], g) rfl ?_
  refine ec 92 4 [.inl a1] [] rfl (ev_Op_sayer a1 g _ rfl) ?_
  show Ev 139 4 [some (.inl a0), some (.inl a1)] [.inl (Op_sayer a1)] g _ _
  refine ev_runs 1 (4, [some (.inl a0), some (.inl a1)], [.inl (Op_sayer a1)], g) (5, [some (.inl a0), some (.inl a1)], [.inl a0, .inl (Op_sayer a1)], g) rfl ?_
  by_cases hc : (Op_sayer a1) = a0
  · rw [if_pos hc] at h
    refine es (16, [some (.inl a0), some (.inl a1)], [], g) (congrArg some (if_pos hc)) ?_
    refine ev_runs 2 (16, [some (.inl a0), some (.inl a1)], [], g) (21, [some (.inl a0), some (.inl a1)], [.inl 1], g) rfl ?_
    subst h
    exact er rfl
  · rw [if_neg hc] at h
    refine es (8, [some (.inl a0), some (.inl a1)], [], g) (congrArg some (if_neg hc)) ?_
    refine ev_runs 1 (8, [some (.inl a0), some (.inl a1)], [], g) (9, [some (.inl a0), some (.inl a1)], [.inl a1], g) rfl ?_
    refine ec 93 12 [.inl a1] [] rfl (ev_Op_getter a1 g _ rfl) ?_
    show Ev 139 12 [some (.inl a0), some (.inl a1)] [.inl (Op_getter a1)] g _ _
    refine ev_runs 1 (12, [some (.inl a0), some (.inl a1)], [.inl (Op_getter a1)], g) (13, [some (.inl a0), some (.inl a1)], [.inl a0, .inl (Op_getter a1)], g) rfl ?_
    by_cases hc : ¬ (Op_getter a1) = a0
    · rw [if_pos hc] at h
      refine es (20, [some (.inl a0), some (.inl a1)], [], g) (congrArg some (if_pos hc)) ?_
      refine ev_runs 1 (20, [some (.inl a0), some (.inl a1)], [], g) (21, [some (.inl a0), some (.inl a1)], [.inl 0], g) rfl ?_
      subst h
      exact er rfl
    · rw [if_neg hc] at h
      refine es (16, [some (.inl a0), some (.inl a1)], [], g) (congrArg some (if_neg hc)) ?_
      refine ev_runs 2 (16, [some (.inl a0), some (.inl a1)], [], g) (21, [some (.inl a0), some (.inl a1)], [.inl 1], g) rfl ?_
      subst h
      exact er rfl
set_option maxRecDepth 100000 in
set_option maxHeartbeats 4000000 in
theorem ev_Rn_nextPlace_l3 (c1 : Int) (c2 : Int) (K3_39 : Int → Gx → Option (Int × Gx)) (hK3_39 : ∀ (x4 : Int) (g : Gx) (r : Int) (g' : Gx), K3_39 x4 g = some (r, g') → Ev 140 39 [none, none, none, none, some (.inl x4)] [] g (some (.inl r)) g') : ∀ (n3 : Nat) (v4 : Int) (g : Gx) (r : Int) (g' : Gx), Rn_nextPlace_l3 c1 c2 K3_39 n3 v4 g = some (r, g') → Ev 140 3 [some (.inr (.inr 60)), some (.inl c1), some (.inl c2), none, some (.inl v4)] [] g (some (.inl r)) g' := by
  intro n3
  induction n3 with
  | zero => intro v4 g r g' h; cases h
  | succ n3 ih3 =>
    intro v4 g r g' h
    rw [Rn_nextPlace_l3] at h
    refine ev_runs 4 (3, [some (.inr (.inr 60)), some (.inl c1), some (.inl c2), none, some (.inl v4)], [], g) (10, [some (.inr (.inr 60)), some (.inl c1), some (.inl c2), none, some (.inl v4)], [.inl c1, .inr (.inr 33), .inl v4], g) rfl ?_
    refine ec 84 13 [.inr (.inr 33), .inl c1] [.inl v4] rfl (ev_Hi_length c1 g _ rfl) ?_
    show Ev 140 13 [some (.inr (.inr 60)), some (.inl c1), some (.inl c2), none, some (.inl v4)] [.inl (Hi_length c1 g), .inl v4] g _ _
    by_cases hc : (Hi_length c1 g) ≤ v4
    · rw [if_pos hc] at h
      refine es (39, [some (.inr (.inr 60)), some (.inl c1), some (.inl c2), none, some (.inl v4)], [], g) (congrArg some (if_pos hc)) ?_
      exact ev_le (L := [none, none, none, none, some (.inl v4)]) (by simp [Lle]) (hK3_39 v4 g r g' h)
    · rw [if_neg hc] at h
      refine es (16, [some (.inr (.inr 60)), some (.inl c1), some (.inl c2), none, some (.inl v4)], [], g) (congrArg some (if_neg hc)) ?_
      refine ev_runs 5 (16, [some (.inr (.inr 60)), some (.inl c1), some (.inl c2), none, some (.inl v4)], [], g) (24, [some (.inr (.inr 60)), some (.inl c1), some (.inl c2), none, some (.inl v4)], [.inl v4, .inl c1, .inr (.inr 33), .inl c2], g) rfl ?_
      refine ec 85 27 [.inr (.inr 33), .inl c1, .inl v4] [.inl c2] rfl (ev_Hi_word c1 v4 g _ rfl) ?_
      show Ev 140 27 [some (.inr (.inr 60)), some (.inl c1), some (.inl c2), none, some (.inl v4)] [.inl (Hi_word c1 v4 g), .inl c2] g _ _
      refine ec 139 30 [.inl c2, .inl (Hi_word c1 v4 g)] [] rfl (ev_Rn_takesPart c2 (Hi_word c1 v4 g) g _ rfl) ?_
      show Ev 140 30 [some (.inr (.inr 60)), some (.inl c1), some (.inl c2), none, some (.inl v4)] [.inl (Rn_takesPart c2 (Hi_word c1 v4 g))] g _ _
      by_cases hc : ¬ (Rn_takesPart c2 (Hi_word c1 v4 g)) = 0
      · rw [if_pos hc] at h
        refine es (39, [some (.inr (.inr 60)), some (.inl c1), some (.inl c2), none, some (.inl v4)], [], g) (congrArg some (if_pos hc)) ?_
        exact ev_le (L := [none, none, none, none, some (.inl v4)]) (by simp [Lle]) (hK3_39 v4 g r g' h)
      · rw [if_neg hc] at h
        refine es (33, [some (.inr (.inr 60)), some (.inl c1), some (.inl c2), none, some (.inl v4)], [], g) (congrArg some (if_neg hc)) ?_
        refine ev_runs 2 (33, [some (.inr (.inr 60)), some (.inl c1), some (.inl c2), none, some (.inl v4)], [], g) (3, [some (.inr (.inr 60)), some (.inl c1), some (.inl c2), none, some (.inl (wr (v4 + 1)))], [], g) rfl ?_
        exact ev_le (L := [some (.inr (.inr 60)), some (.inl c1), some (.inl c2), none, some (.inl (wr (v4 + 1)))]) (by simp [Lle]) (ih3 (wr (v4 + 1)) g r g' h)
set_option maxRecDepth 100000 in
set_option maxHeartbeats 4000000 in
theorem ev_Rn_nextPlace (a1 a2 a3 : Int) (g : Gx) (r : Int) (g' : Gx) (h : Rn_nextPlace a1 a2 a3 g = some (r, g')) : Ev 140 0 [some (.inr (.inr 60)), some (.inl a1), some (.inl a2), some (.inl a3), none] [] g (some (.inl r)) g' := by
  rw [Rn_nextPlace] at h
  refine ev_runs 2 (0, [some (.inr (.inr 60)), some (.inl a1), some (.inl a2), some (.inl a3), none], [], g) (3, [some (.inr (.inr 60)), some (.inl a1), some (.inl a2), some (.inl a3), some (.inl a3)], [], g) rfl ?_
  refine ev_le (L := [some (.inr (.inr 60)), some (.inl a1), some (.inl a2), none, some (.inl a3)]) (by simp [Lle]) ?_
  refine ev_Rn_nextPlace_l3 a1 a2 _ ?_ fu a3 g r g' h
  · intro x1 g2 r g' h
    refine ev_runs 1 (39, [none, none, none, none, some (.inl x1)], [], g2) (41, [none, none, none, none, some (.inl x1)], [.inl x1], g2) rfl ?_
    cases h
    exact er rfl
set_option maxRecDepth 100000 in
set_option maxHeartbeats 4000000 in
theorem ev_Rn_ableTalkers_l4 (c1 : Int) (K4_80 : Int → Gx → Option (Int × Gx)) (hK4_80 : ∀ (x2 : Int) (g : Gx) (r : Int) (g' : Gx), K4_80 x2 g = some (r, g') → Ev 141 80 [none, none, some (.inl x2), none, none, none] [] g (some (.inl r)) g') : ∀ (n4 : Nat) (v2 v3 : Int) (g : Gx) (r : Int) (g' : Gx), Rn_ableTalkers_l4 c1 K4_80 n4 v2 v3 g = some (r, g') → Ev 141 4 [some (.inr (.inr 60)), some (.inl c1), some (.inl v2), some (.inl v3), none, none] [] g (some (.inl r)) g' := by
  intro n4
  induction n4 with
  | zero => intro v2 v3 g r g' h; cases h
  | succ n4 ih4 =>
    intro v2 v3 g r g' h
    rw [Rn_ableTalkers_l4] at h
    refine ev_runs 2 (4, [some (.inr (.inr 60)), some (.inl c1), some (.inl v2), some (.inl v3), none, none], [], g) (7, [some (.inr (.inr 60)), some (.inl c1), some (.inl v2), some (.inl v3), none, none], [.inl 6, .inl v3], g) rfl ?_
    by_cases hc : 6 ≤ v3
    · rw [if_pos hc] at h
      refine es (80, [some (.inr (.inr 60)), some (.inl c1), some (.inl v2), some (.inl v3), none, none], [], g) (congrArg some (if_pos hc)) ?_
      exact ev_le (L := [none, none, some (.inl v2), none, none, none]) (by simp [Lle]) (hK4_80 v2 g r g' h)
    · rw [if_neg hc] at h
      refine es (10, [some (.inr (.inr 60)), some (.inl c1), some (.inl v2), some (.inl v3), none, none], [], g) (congrArg some (if_neg hc)) ?_
      refine ev_runs 3 (10, [some (.inr (.inr 60)), some (.inl c1), some (.inl v2), some (.inl v3), none, none], [], g) (15, [some (.inr (.inr 60)), some (.inl c1), some (.inl v2), some (.inl v3), none, none], [.inl v3, .inr (.inr 61)], g) rfl ?_
      refine ec 13 18 [.inr (.inr 61), .inl v3] [] rfl (ev_Row_at rfl rfl _ _) ?_
      show Ev 141 18 [some (.inr (.inr 60)), some (.inl c1), some (.inl v2), some (.inl v3), none, none] [.inl (rat g 62 6 v3)] g _ _
      refine ev_runs 5 (18, [some (.inr (.inr 60)), some (.inl c1), some (.inl v2), some (.inl v3), none, none], [.inl (rat g 62 6 v3)], g) (27, [some (.inr (.inr 60)), some (.inl c1), some (.inl v2), some (.inl v3), some (.inl (rat g 62 6 v3)), none], [.inl c1, .inr (.inr 33), .inl (rat g 62 6 v3)], g) rfl ?_
      refine ec 84 30 [.inr (.inr 33), .inl c1] [.inl (rat g 62 6 v3)] rfl (ev_Hi_length c1 g _ rfl) ?_
      show Ev 141 30 [some (.inr (.inr 60)), some (.inl c1), some (.inl v2), some (.inl v3), some (.inl (rat g 62 6 v3)), none] [.inl (Hi_length c1 g), .inl (rat g 62 6 v3)] g _ _
      by_cases hc : (Hi_length c1 g) ≤ (rat g 62 6 v3)
      · rw [if_pos hc] at h
        refine es (74, [some (.inr (.inr 60)), some (.inl c1), some (.inl v2), some (.inl v3), some (.inl (rat g 62 6 v3)), none], [], g) (congrArg some (if_pos hc)) ?_
        refine ev_runs 2 (74, [some (.inr (.inr 60)), some (.inl c1), some (.inl v2), some (.inl v3), some (.inl (rat g 62 6 v3)), none], [], g) (4, [some (.inr (.inr 60)), some (.inl c1), some (.inl v2), some (.inl (wr (v3 + 1))), some (.inl (rat g 62 6 v3)), none], [], g) rfl ?_
        exact ev_le (L := [some (.inr (.inr 60)), some (.inl c1), some (.inl v2), some (.inl (wr (v3 + 1))), none, none]) (by simp [Lle]) (ih4 v2 (wr (v3 + 1)) g r g' h)
      · rw [if_neg hc] at h
        refine es (33, [some (.inr (.inr 60)), some (.inl c1), some (.inl v2), some (.inl v3), some (.inl (rat g 62 6 v3)), none], [], g) (congrArg some (if_neg hc)) ?_
        refine ev_runs 4 (33, [some (.inr (.inr 60)), some (.inl c1), some (.inl v2), some (.inl v3), some (.inl (rat g 62 6 v3)), none], [], g) (40, [some (.inr (.inr 60)), some (.inl c1), some (.inl v2), some (.inl v3), some (.inl (rat g 62 6 v3)), none], [.inl (rat g 62 6 v3), .inl c1, .inr (.inr 33)], g) rfl ?_
        refine ec 85 43 [.inr (.inr 33), .inl c1, .inl (rat g 62 6 v3)] [] rfl (ev_Hi_word c1 (rat g 62 6 v3) g _ rfl) ?_
        show Ev 141 43 [some (.inr (.inr 60)), some (.inl c1), some (.inl v2), some (.inl v3), some (.inl (rat g 62 6 v3)), none] [.inl (Hi_word c1 (rat g 62 6 v3) g)] g _ _
        refine ec 92 46 [.inl (Hi_word c1 (rat g 62 6 v3) g)] [] rfl (ev_Op_sayer (Hi_word c1 (rat g 62 6 v3) g) g _ rfl) ?_
        show Ev 141 46 [some (.inr (.inr 60)), some (.inl c1), some (.inl v2), some (.inl v3), some (.inl (rat g 62 6 v3)), none] [.inl (Op_sayer (Hi_word c1 (rat g 62 6 v3) g))] g _ _
        refine ev_runs 3 (46, [some (.inr (.inr 60)), some (.inl c1), some (.inl v2), some (.inl v3), some (.inl (rat g 62 6 v3)), none], [.inl (Op_sayer (Hi_word c1 (rat g 62 6 v3) g))], g) (51, [some (.inr (.inr 60)), some (.inl c1), some (.inl v2), some (.inl v3), some (.inl (rat g 62 6 v3)), some (.inl (Op_sayer (Hi_word c1 (rat g 62 6 v3) g)))], [.inl v3, .inl (Op_sayer (Hi_word c1 (rat g 62 6 v3) g))], g) rfl ?_
        by_cases hc : (Op_sayer (Hi_word c1 (rat g 62 6 v3) g)) = v3
        · rw [if_pos hc] at h
          refine es (68, [some (.inr (.inr 60)), some (.inl c1), some (.inl v2), some (.inl v3), some (.inl (rat g 62 6 v3)), some (.inl (Op_sayer (Hi_word c1 (rat g 62 6 v3) g)))], [], g) (congrArg some (if_pos hc)) ?_
          refine ev_runs 8 (68, [some (.inr (.inr 60)), some (.inl c1), some (.inl v2), some (.inl v3), some (.inl (rat g 62 6 v3)), some (.inl (Op_sayer (Hi_word c1 (rat g 62 6 v3) g)))], [], g) (4, [some (.inr (.inr 60)), some (.inl c1), some (.inl (jor v2 (jshl 1 v3))), some (.inl (wr (v3 + 1))), some (.inl (rat g 62 6 v3)), some (.inl (Op_sayer (Hi_word c1 (rat g 62 6 v3) g)))], [], g) rfl ?_
          exact ev_le (L := [some (.inr (.inr 60)), some (.inl c1), some (.inl (jor v2 (jshl 1 v3))), some (.inl (wr (v3 + 1))), none, none]) (by simp [Lle]) (ih4 (jor v2 (jshl 1 v3)) (wr (v3 + 1)) g r g' h)
        · rw [if_neg hc] at h
          refine es (54, [some (.inr (.inr 60)), some (.inl c1), some (.inl v2), some (.inl v3), some (.inl (rat g 62 6 v3)), some (.inl (Op_sayer (Hi_word c1 (rat g 62 6 v3) g)))], [], g) (congrArg some (if_neg hc)) ?_
          refine ev_runs 3 (54, [some (.inr (.inr 60)), some (.inl c1), some (.inl v2), some (.inl v3), some (.inl (rat g 62 6 v3)), some (.inl (Op_sayer (Hi_word c1 (rat g 62 6 v3) g)))], [], g) (60, [some (.inr (.inr 60)), some (.inl c1), some (.inl v2), some (.inl v3), some (.inl (rat g 62 6 v3)), some (.inl (Op_sayer (Hi_word c1 (rat g 62 6 v3) g)))], [.inl (Op_sayer (Hi_word c1 (rat g 62 6 v3) g)), .inr (.inr 61)], g) rfl ?_
          refine ec 13 63 [.inr (.inr 61), .inl (Op_sayer (Hi_word c1 (rat g 62 6 v3) g))] [] rfl (ev_Row_at rfl rfl _ _) ?_
          show Ev 141 63 [some (.inr (.inr 60)), some (.inl c1), some (.inl v2), some (.inl v3), some (.inl (rat g 62 6 v3)), some (.inl (Op_sayer (Hi_word c1 (rat g 62 6 v3) g)))] [.inl (rat g 62 6 (Op_sayer (Hi_word c1 (rat g 62 6 v3) g)))] g _ _
          refine ev_runs 1 (63, [some (.inr (.inr 60)), some (.inl c1), some (.inl v2), some (.inl v3), some (.inl (rat g 62 6 v3)), some (.inl (Op_sayer (Hi_word c1 (rat g 62 6 v3) g)))], [.inl (rat g 62 6 (Op_sayer (Hi_word c1 (rat g 62 6 v3) g)))], g) (65, [some (.inr (.inr 60)), some (.inl c1), some (.inl v2), some (.inl v3), some (.inl (rat g 62 6 v3)), some (.inl (Op_sayer (Hi_word c1 (rat g 62 6 v3) g)))], [.inl (rat g 62 6 v3), .inl (rat g 62 6 (Op_sayer (Hi_word c1 (rat g 62 6 v3) g)))], g) rfl ?_
          by_cases hc : (rat g 62 6 (Op_sayer (Hi_word c1 (rat g 62 6 v3) g))) ≤ (rat g 62 6 v3)
          · rw [if_pos hc] at h
            refine es (74, [some (.inr (.inr 60)), some (.inl c1), some (.inl v2), some (.inl v3), some (.inl (rat g 62 6 v3)), some (.inl (Op_sayer (Hi_word c1 (rat g 62 6 v3) g)))], [], g) (congrArg some (if_pos hc)) ?_
            refine ev_runs 2 (74, [some (.inr (.inr 60)), some (.inl c1), some (.inl v2), some (.inl v3), some (.inl (rat g 62 6 v3)), some (.inl (Op_sayer (Hi_word c1 (rat g 62 6 v3) g)))], [], g) (4, [some (.inr (.inr 60)), some (.inl c1), some (.inl v2), some (.inl (wr (v3 + 1))), some (.inl (rat g 62 6 v3)), some (.inl (Op_sayer (Hi_word c1 (rat g 62 6 v3) g)))], [], g) rfl ?_
            exact ev_le (L := [some (.inr (.inr 60)), some (.inl c1), some (.inl v2), some (.inl (wr (v3 + 1))), none, none]) (by simp [Lle]) (ih4 v2 (wr (v3 + 1)) g r g' h)
          · rw [if_neg hc] at h
            refine es (68, [some (.inr (.inr 60)), some (.inl c1), some (.inl v2), some (.inl v3), some (.inl (rat g 62 6 v3)), some (.inl (Op_sayer (Hi_word c1 (rat g 62 6 v3) g)))], [], g) (congrArg some (if_neg hc)) ?_
            refine ev_runs 8 (68, [some (.inr (.inr 60)), some (.inl c1), some (.inl v2), some (.inl v3), some (.inl (rat g 62 6 v3)), some (.inl (Op_sayer (Hi_word c1 (rat g 62 6 v3) g)))], [], g) (4, [some (.inr (.inr 60)), some (.inl c1), some (.inl (jor v2 (jshl 1 v3))), some (.inl (wr (v3 + 1))), some (.inl (rat g 62 6 v3)), some (.inl (Op_sayer (Hi_word c1 (rat g 62 6 v3) g)))], [], g) rfl ?_
            exact ev_le (L := [some (.inr (.inr 60)), some (.inl c1), some (.inl (jor v2 (jshl 1 v3))), some (.inl (wr (v3 + 1))), none, none]) (by simp [Lle]) (ih4 (jor v2 (jshl 1 v3)) (wr (v3 + 1)) g r g' h)
set_option maxRecDepth 100000 in
set_option maxHeartbeats 4000000 in
theorem ev_Rn_ableTalkers (a1 : Int) (g : Gx) (r : Int) (g' : Gx) (h : Rn_ableTalkers a1 g = some (r, g')) : Ev 141 0 [some (.inr (.inr 60)), some (.inl a1), none, none, none, none] [] g (some (.inl r)) g' := by
  rw [Rn_ableTalkers] at h
  refine ev_runs 4 (0, [some (.inr (.inr 60)), some (.inl a1), none, none, none, none], [], g) (4, [some (.inr (.inr 60)), some (.inl a1), some (.inl 0), some (.inl 0), none, none], [], g) rfl ?_
  refine ev_le (L := [some (.inr (.inr 60)), some (.inl a1), some (.inl 0), some (.inl 0), none, none]) (by simp [Lle]) ?_
  refine ev_Rn_ableTalkers_l4 a1 _ ?_ fu 0 0 g r g' h
  · intro x1 g2 r g' h
    refine ev_runs 1 (80, [none, none, some (.inl x1), none, none, none], [], g2) (81, [none, none, some (.inl x1), none, none, none], [.inl x1], g2) rfl ?_
    cases h
    exact er rfl
set_option maxRecDepth 100000 in
set_option maxHeartbeats 4000000 in
theorem ev_Rn_pick_l4 (c0 : Int) (K4_33 : Gx → Option (Int × Gx)) (hK4_33 : ∀ (g : Gx) (r : Int) (g' : Gx), K4_33 g = some (r, g') → Ev 142 33 [none, none, none, none] [] g (some (.inl r)) g') : ∀ (n4 : Nat) (v2 v3 : Int) (g : Gx) (r : Int) (g' : Gx), Rn_pick_l4 c0 K4_33 n4 v2 v3 g = some (r, g') → Ev 142 4 [some (.inl c0), none, some (.inl v2), some (.inl v3)] [] g (some (.inl r)) g' := by
  intro n4
  induction n4 with
  | zero => intro v2 v3 g r g' h; cases h
  | succ n4 ih4 =>
    intro v2 v3 g r g' h
    rw [Rn_pick_l4] at h
    refine ev_runs 2 (4, [some (.inl c0), none, some (.inl v2), some (.inl v3)], [], g) (7, [some (.inl c0), none, some (.inl v2), some (.inl v3)], [.inl 6, .inl v3], g) rfl ?_
    by_cases hc : 6 ≤ v3
    · rw [if_pos hc] at h
      refine es (33, [some (.inl c0), none, some (.inl v2), some (.inl v3)], [], g) (congrArg some (if_pos hc)) ?_
      exact ev_le (L := [none, none, none, none]) (by simp [Lle]) (hK4_33 g r g' h)
    · rw [if_neg hc] at h
      refine es (10, [some (.inl c0), none, some (.inl v2), some (.inl v3)], [], g) (congrArg some (if_neg hc)) ?_
      refine ev_runs 2 (10, [some (.inl c0), none, some (.inl v2), some (.inl v3)], [], g) (12, [some (.inl c0), none, some (.inl v2), some (.inl v3)], [.inl v3, .inl c0], g) rfl ?_
      refine ec 64 15 [.inl c0, .inl v3] [] rfl (ev_Op_has c0 v3 g _ rfl) ?_
      show Ev 142 15 [some (.inl c0), none, some (.inl v2), some (.inl v3)] [.inl (Op_has c0 v3)] g _ _
      by_cases hc : (Op_has c0 v3) = 0
      · rw [if_pos hc] at h
        refine es (27, [some (.inl c0), none, some (.inl v2), some (.inl v3)], [], g) (congrArg some (if_pos hc)) ?_
        refine ev_runs 2 (27, [some (.inl c0), none, some (.inl v2), some (.inl v3)], [], g) (4, [some (.inl c0), none, some (.inl v2), some (.inl (wr (v3 + 1)))], [], g) rfl ?_
        exact ev_le (L := [some (.inl c0), none, some (.inl v2), some (.inl (wr (v3 + 1)))]) (by simp [Lle]) (ih4 v2 (wr (v3 + 1)) g r g' h)
      · rw [if_neg hc] at h
        refine es (18, [some (.inl c0), none, some (.inl v2), some (.inl v3)], [], g) (congrArg some (if_neg hc)) ?_
        refine ev_runs 1 (18, [some (.inl c0), none, some (.inl v2), some (.inl v3)], [], g) (19, [some (.inl c0), none, some (.inl v2), some (.inl v3)], [.inl v2], g) rfl ?_
        by_cases hc : ¬ v2 = 0
        · rw [if_pos hc] at h
          refine es (24, [some (.inl c0), none, some (.inl v2), some (.inl v3)], [], g) (congrArg some (if_pos hc)) ?_
          refine ev_runs 3 (24, [some (.inl c0), none, some (.inl v2), some (.inl v3)], [], g) (4, [some (.inl c0), none, some (.inl (wr (v2 + (-1)))), some (.inl (wr (v3 + 1)))], [], g) rfl ?_
          exact ev_le (L := [some (.inl c0), none, some (.inl (wr (v2 + (-1)))), some (.inl (wr (v3 + 1)))]) (by simp [Lle]) (ih4 (wr (v2 + (-1))) (wr (v3 + 1)) g r g' h)
        · rw [if_neg hc] at h
          refine es (22, [some (.inl c0), none, some (.inl v2), some (.inl v3)], [], g) (congrArg some (if_neg hc)) ?_
          refine ev_runs 1 (22, [some (.inl c0), none, some (.inl v2), some (.inl v3)], [], g) (23, [some (.inl c0), none, some (.inl v2), some (.inl v3)], [.inl v3], g) rfl ?_
          cases h
          exact er rfl
set_option maxRecDepth 100000 in
set_option maxHeartbeats 4000000 in
theorem ev_Rn_pick (a0 a1 : Int) (g : Gx) (r : Int) (g' : Gx) (h : Rn_pick a0 a1 g = some (r, g')) : Ev 142 0 [some (.inl a0), some (.inl a1), none, none] [] g (some (.inl r)) g' := by
  rw [Rn_pick] at h
  refine ev_runs 4 (0, [some (.inl a0), some (.inl a1), none, none], [], g) (4, [some (.inl a0), some (.inl a1), some (.inl a1), some (.inl 0)], [], g) rfl ?_
  refine ev_le (L := [some (.inl a0), none, some (.inl a1), some (.inl 0)]) (by simp [Lle]) ?_
  refine ev_Rn_pick_l4 a0 _ ?_ fu a1 0 g r g' h
  · intro g1 r g' h
    refine ev_runs 1 (33, [none, none, none, none], [], g1) (34, [none, none, none, none], [.inl (-1)], g1) rfl ?_
    cases h
    exact er rfl
set_option maxRecDepth 100000 in
set_option maxHeartbeats 4000000 in
theorem ev_Rn_act (a1 a2 : Int) (g : Gx) (g' : Gx) (h : Rn_act a1 a2 g = some g') : Ev 143 0 [some (.inr (.inr 60)), some (.inl a1), some (.inl a2), none, none, none] [] g none g' := by
  rw [Rn_act] at h
  refine ev_runs 3 (0, [some (.inr (.inr 60)), some (.inl a1), some (.inl a2), none, none, none], [], g) (5, [some (.inr (.inr 60)), some (.inl a1), some (.inl a2), none, none, none], [.inl a2, .inr (.inr 61)], g) rfl ?_
  refine ec 13 8 [.inr (.inr 61), .inl a2] [] rfl (ev_Row_at rfl rfl _ _) ?_
  show Ev 143 8 [some (.inr (.inr 60)), some (.inl a1), some (.inl a2), none, none, none] [.inl (rat g 62 6 a2)] g _ _
  refine ev_runs 5 (8, [some (.inr (.inr 60)), some (.inl a1), some (.inl a2), none, none, none], [.inl (rat g 62 6 a2)], g) (15, [some (.inr (.inr 60)), some (.inl a1), some (.inl a2), some (.inl (rat g 62 6 a2)), none, none], [.inl (rat g 62 6 a2), .inl a1, .inr (.inr 33)], g) rfl ?_
  refine ec 85 18 [.inr (.inr 33), .inl a1, .inl (rat g 62 6 a2)] [] rfl (ev_Hi_word a1 (rat g 62 6 a2) g _ rfl) ?_
  show Ev 143 18 [some (.inr (.inr 60)), some (.inl a1), some (.inl a2), some (.inl (rat g 62 6 a2)), none, none] [.inl (Hi_word a1 (rat g 62 6 a2) g)] g _ _
  refine ev_runs 2 (18, [some (.inr (.inr 60)), some (.inl a1), some (.inl a2), some (.inl (rat g 62 6 a2)), none, none], [.inl (Hi_word a1 (rat g 62 6 a2) g)], g) (22, [some (.inr (.inr 60)), some (.inl a1), some (.inl a2), some (.inl (rat g 62 6 a2)), some (.inl (Hi_word a1 (rat g 62 6 a2) g)), none], [.inl (Hi_word a1 (rat g 62 6 a2) g)], g) rfl ?_
  refine ec 92 25 [.inl (Hi_word a1 (rat g 62 6 a2) g)] [] rfl (ev_Op_sayer (Hi_word a1 (rat g 62 6 a2) g) g _ rfl) ?_
  show Ev 143 25 [some (.inr (.inr 60)), some (.inl a1), some (.inl a2), some (.inl (rat g 62 6 a2)), some (.inl (Hi_word a1 (rat g 62 6 a2) g)), none] [.inl (Op_sayer (Hi_word a1 (rat g 62 6 a2) g))] g _ _
  refine ev_runs 3 (25, [some (.inr (.inr 60)), some (.inl a1), some (.inl a2), some (.inl (rat g 62 6 a2)), some (.inl (Hi_word a1 (rat g 62 6 a2) g)), none], [.inl (Op_sayer (Hi_word a1 (rat g 62 6 a2) g))], g) (30, [some (.inr (.inr 60)), some (.inl a1), some (.inl a2), some (.inl (rat g 62 6 a2)), some (.inl (Hi_word a1 (rat g 62 6 a2) g)), none], [.inl (Hi_word a1 (rat g 62 6 a2) g), .inl (wr ((Op_sayer (Hi_word a1 (rat g 62 6 a2) g)) * 6))], g) rfl ?_
  refine ec 93 33 [.inl (Hi_word a1 (rat g 62 6 a2) g)] [.inl (wr ((Op_sayer (Hi_word a1 (rat g 62 6 a2) g)) * 6))] rfl (ev_Op_getter (Hi_word a1 (rat g 62 6 a2) g) g _ rfl) ?_
  show Ev 143 33 [some (.inr (.inr 60)), some (.inl a1), some (.inl a2), some (.inl (rat g 62 6 a2)), some (.inl (Hi_word a1 (rat g 62 6 a2) g)), none] [.inl (Op_getter (Hi_word a1 (rat g 62 6 a2) g)), .inl (wr ((Op_sayer (Hi_word a1 (rat g 62 6 a2) g)) * 6))] g _ _
  refine ev_runs 6 (33, [some (.inr (.inr 60)), some (.inl a1), some (.inl a2), some (.inl (rat g 62 6 a2)), some (.inl (Hi_word a1 (rat g 62 6 a2) g)), none], [.inl (Op_getter (Hi_word a1 (rat g 62 6 a2) g)), .inl (wr ((Op_sayer (Hi_word a1 (rat g 62 6 a2) g)) * 6))], g) (44, [some (.inr (.inr 60)), some (.inl a1), some (.inl a2), some (.inl (rat g 62 6 a2)), some (.inl (Hi_word a1 (rat g 62 6 a2) g)), some (.inl (wr ((wr ((Op_sayer (Hi_word a1 (rat g 62 6 a2) g)) * 6)) + (Op_getter (Hi_word a1 (rat g 62 6 a2) g)))))], [.inl (Hi_word a1 (rat g 62 6 a2) g), .inl (wr ((wr ((Op_sayer (Hi_word a1 (rat g 62 6 a2) g)) * 6)) + (Op_getter (Hi_word a1 (rat g 62 6 a2) g)))), .inr (.inr 63)], g) rfl ?_
  refine ec 92 47 [.inl (Hi_word a1 (rat g 62 6 a2) g)] [.inl (wr ((wr ((Op_sayer (Hi_word a1 (rat g 62 6 a2) g)) * 6)) + (Op_getter (Hi_word a1 (rat g 62 6 a2) g)))), .inr (.inr 63)] rfl (ev_Op_sayer (Hi_word a1 (rat g 62 6 a2) g) g _ rfl) ?_
  show Ev 143 47 [some (.inr (.inr 60)), some (.inl a1), some (.inl a2), some (.inl (rat g 62 6 a2)), some (.inl (Hi_word a1 (rat g 62 6 a2) g)), some (.inl (wr ((wr ((Op_sayer (Hi_word a1 (rat g 62 6 a2) g)) * 6)) + (Op_getter (Hi_word a1 (rat g 62 6 a2) g)))))] [.inl (Op_sayer (Hi_word a1 (rat g 62 6 a2) g)), .inl (wr ((wr ((Op_sayer (Hi_word a1 (rat g 62 6 a2) g)) * 6)) + (Op_getter (Hi_word a1 (rat g 62 6 a2) g)))), .inr (.inr 63)] g _ _
  refine ev_runs 1 (47, [some (.inr (.inr 60)), some (.inl a1), some (.inl a2), some (.inl (rat g 62 6 a2)), some (.inl (Hi_word a1 (rat g 62 6 a2) g)), some (.inl (wr ((wr ((Op_sayer (Hi_word a1 (rat g 62 6 a2) g)) * 6)) + (Op_getter (Hi_word a1 (rat g 62 6 a2) g)))))], [.inl (Op_sayer (Hi_word a1 (rat g 62 6 a2) g)), .inl (wr ((wr ((Op_sayer (Hi_word a1 (rat g 62 6 a2) g)) * 6)) + (Op_getter (Hi_word a1 (rat g 62 6 a2) g)))), .inr (.inr 63)], g) (48, [some (.inr (.inr 60)), some (.inl a1), some (.inl a2), some (.inl (rat g 62 6 a2)), some (.inl (Hi_word a1 (rat g 62 6 a2) g)), some (.inl (wr ((wr ((Op_sayer (Hi_word a1 (rat g 62 6 a2) g)) * 6)) + (Op_getter (Hi_word a1 (rat g 62 6 a2) g)))))], [.inl a2, .inl (Op_sayer (Hi_word a1 (rat g 62 6 a2) g)), .inl (wr ((wr ((Op_sayer (Hi_word a1 (rat g 62 6 a2) g)) * 6)) + (Op_getter (Hi_word a1 (rat g 62 6 a2) g)))), .inr (.inr 63)], g) rfl ?_
  obtain ⟨y1, hy1, h⟩ := lett_inv h
  have hjy1 : Ev 143 56 [some (.inr (.inr 60)), some (.inl a1), some (.inl a2), some (.inl (rat g 62 6 a2)), none, some (.inl (wr ((wr ((Op_sayer (Hi_word a1 (rat g 62 6 a2) g)) * 6)) + (Op_getter (Hi_word a1 (rat g 62 6 a2) g)))))] [.inl y1, .inl (wr ((wr ((Op_sayer (Hi_word a1 (rat g 62 6 a2) g)) * 6)) + (Op_getter (Hi_word a1 (rat g 62 6 a2) g)))), .inr (.inr 63)] g none g' := by
    refine ec 22 59 [.inr (.inr 63), .inl (wr ((wr ((Op_sayer (Hi_word a1 (rat g 62 6 a2) g)) * 6)) + (Op_getter (Hi_word a1 (rat g 62 6 a2) g)))), .inl y1] [] rfl (ev_Row_add rfl rfl _ _ _) ?_
    show Ev 143 59 [some (.inr (.inr 60)), some (.inl a1), some (.inl a2), some (.inl (rat g 62 6 a2)), none, some (.inl (wr ((wr ((Op_sayer (Hi_word a1 (rat g 62 6 a2) g)) * 6)) + (Op_getter (Hi_word a1 (rat g 62 6 a2) g)))))] [] (radd g 64 36 (wr ((wr ((Op_sayer (Hi_word a1 (rat g 62 6 a2) g)) * 6)) + (Op_getter (Hi_word a1 (rat g 62 6 a2) g)))) y1) _ _
    refine ev_runs 6 (59, [some (.inr (.inr 60)), some (.inl a1), some (.inl a2), some (.inl (rat g 62 6 a2)), none, some (.inl (wr ((wr ((Op_sayer (Hi_word a1 (rat g 62 6 a2) g)) * 6)) + (Op_getter (Hi_word a1 (rat g 62 6 a2) g)))))], [], (radd g 64 36 (wr ((wr ((Op_sayer (Hi_word a1 (rat g 62 6 a2) g)) * 6)) + (Op_getter (Hi_word a1 (rat g 62 6 a2) g)))) y1)) (70, [some (.inr (.inr 60)), some (.inl a1), some (.inl a2), some (.inl (rat g 62 6 a2)), none, some (.inl (wr ((wr ((Op_sayer (Hi_word a1 (rat g 62 6 a2) g)) * 6)) + (Op_getter (Hi_word a1 (rat g 62 6 a2) g)))))], [.inl (wr ((wr ((Op_sayer (Hi_word a1 (rat g 62 6 a2) g)) * 6)) + (Op_getter (Hi_word a1 (rat g 62 6 a2) g)))), .inr (.inr 63), .inl (g 60 6), .inr (.inr 60)], (radd g 64 36 (wr ((wr ((Op_sayer (Hi_word a1 (rat g 62 6 a2) g)) * 6)) + (Op_getter (Hi_word a1 (rat g 62 6 a2) g)))) y1)) rfl ?_
    refine ec 13 73 [.inr (.inr 63), .inl (wr ((wr ((Op_sayer (Hi_word a1 (rat g 62 6 a2) g)) * 6)) + (Op_getter (Hi_word a1 (rat g 62 6 a2) g))))] [.inl (g 60 6), .inr (.inr 60)] rfl (ev_Row_at rfl rfl _ _) ?_
    show Ev 143 73 [some (.inr (.inr 60)), some (.inl a1), some (.inl a2), some (.inl (rat g 62 6 a2)), none, some (.inl (wr ((wr ((Op_sayer (Hi_word a1 (rat g 62 6 a2) g)) * 6)) + (Op_getter (Hi_word a1 (rat g 62 6 a2) g)))))] [.inl (rat (radd g 64 36 (wr ((wr ((Op_sayer (Hi_word a1 (rat g 62 6 a2) g)) * 6)) + (Op_getter (Hi_word a1 (rat g 62 6 a2) g)))) y1) 64 36 (wr ((wr ((Op_sayer (Hi_word a1 (rat g 62 6 a2) g)) * 6)) + (Op_getter (Hi_word a1 (rat g 62 6 a2) g))))), .inl (g 60 6), .inr (.inr 60)] (radd g 64 36 (wr ((wr ((Op_sayer (Hi_word a1 (rat g 62 6 a2) g)) * 6)) + (Op_getter (Hi_word a1 (rat g 62 6 a2) g)))) y1) _ _
    refine ev_runs 11 (73, [some (.inr (.inr 60)), some (.inl a1), some (.inl a2), some (.inl (rat g 62 6 a2)), none, some (.inl (wr ((wr ((Op_sayer (Hi_word a1 (rat g 62 6 a2) g)) * 6)) + (Op_getter (Hi_word a1 (rat g 62 6 a2) g)))))], [.inl (rat (radd g 64 36 (wr ((wr ((Op_sayer (Hi_word a1 (rat g 62 6 a2) g)) * 6)) + (Op_getter (Hi_word a1 (rat g 62 6 a2) g)))) y1) 64 36 (wr ((wr ((Op_sayer (Hi_word a1 (rat g 62 6 a2) g)) * 6)) + (Op_getter (Hi_word a1 (rat g 62 6 a2) g))))), .inl (g 60 6), .inr (.inr 60)], (radd g 64 36 (wr ((wr ((Op_sayer (Hi_word a1 (rat g 62 6 a2) g)) * 6)) + (Op_getter (Hi_word a1 (rat g 62 6 a2) g)))) y1)) (90, [some (.inr (.inr 60)), some (.inl a1), some (.inl a2), some (.inl (rat g 62 6 a2)), none, some (.inl (wr ((wr ((Op_sayer (Hi_word a1 (rat g 62 6 a2) g)) * 6)) + (Op_getter (Hi_word a1 (rat g 62 6 a2) g)))))], [.inl (wr ((rat g 62 6 a2) + 1)), .inl a2, .inl a1, .inr (.inr 60), .inl a2, .inr (.inr 61)], (gset (radd g 64 36 (wr ((wr ((Op_sayer (Hi_word a1 (rat g 62 6 a2) g)) * 6)) + (Op_getter (Hi_word a1 (rat g 62 6 a2) g)))) y1) 60 6 (imax (g 60 6) (rat (radd g 64 36 (wr ((wr ((Op_sayer (Hi_word a1 (rat g 62 6 a2) g)) * 6)) + (Op_getter (Hi_word a1 (rat g 62 6 a2) g)))) y1) 64 36 (wr ((wr ((Op_sayer (Hi_word a1 (rat g 62 6 a2) g)) * 6)) + (Op_getter (Hi_word a1 (rat g 62 6 a2) g)))))))) rfl ?_
    obtain ⟨q2, hq, h⟩ := Option.bind_eq_some_iff.mp h
    refine ec 140 93 [.inr (.inr 60), .inl a1, .inl a2, .inl (wr ((rat g 62 6 a2) + 1))] [.inl a2, .inr (.inr 61)] rfl (ev_Rn_nextPlace a1 a2 (wr ((rat g 62 6 a2) + 1)) (gset (radd g 64 36 (wr ((wr ((Op_sayer (Hi_word a1 (rat g 62 6 a2) g)) * 6)) + (Op_getter (Hi_word a1 (rat g 62 6 a2) g)))) y1) 60 6 (imax (g 60 6) (rat (radd g 64 36 (wr ((wr ((Op_sayer (Hi_word a1 (rat g 62 6 a2) g)) * 6)) + (Op_getter (Hi_word a1 (rat g 62 6 a2) g)))) y1) 64 36 (wr ((wr ((Op_sayer (Hi_word a1 (rat g 62 6 a2) g)) * 6)) + (Op_getter (Hi_word a1 (rat g 62 6 a2) g))))))) q2.1 q2.2 hq) ?_
    show Ev 143 93 [some (.inr (.inr 60)), some (.inl a1), some (.inl a2), some (.inl (rat g 62 6 a2)), none, some (.inl (wr ((wr ((Op_sayer (Hi_word a1 (rat g 62 6 a2) g)) * 6)) + (Op_getter (Hi_word a1 (rat g 62 6 a2) g)))))] [.inl q2.1, .inl a2, .inr (.inr 61)] q2.2 _ _
    refine ec 0 96 [.inr (.inr 61), .inl a2, .inl q2.1] [] rfl (ev_Row_set rfl rfl _ _ _) ?_
    show Ev 143 96 [some (.inr (.inr 60)), some (.inl a1), some (.inl a2), some (.inl (rat g 62 6 a2)), none, some (.inl (wr ((wr ((Op_sayer (Hi_word a1 (rat g 62 6 a2) g)) * 6)) + (Op_getter (Hi_word a1 (rat g 62 6 a2) g)))))] [] (rset q2.2 62 6 a2 q2.1) _ _
    cases h
    exact er rfl
  by_cases hc : ¬ (Op_sayer (Hi_word a1 (rat g 62 6 a2) g)) = a2
  · rw [if_pos hc] at hy1
    refine es (55, [some (.inr (.inr 60)), some (.inl a1), some (.inl a2), some (.inl (rat g 62 6 a2)), some (.inl (Hi_word a1 (rat g 62 6 a2) g)), some (.inl (wr ((wr ((Op_sayer (Hi_word a1 (rat g 62 6 a2) g)) * 6)) + (Op_getter (Hi_word a1 (rat g 62 6 a2) g)))))], [.inl (wr ((wr ((Op_sayer (Hi_word a1 (rat g 62 6 a2) g)) * 6)) + (Op_getter (Hi_word a1 (rat g 62 6 a2) g)))), .inr (.inr 63)], g) (congrArg some (if_pos hc)) ?_
    refine ev_runs 1 (55, [some (.inr (.inr 60)), some (.inl a1), some (.inl a2), some (.inl (rat g 62 6 a2)), some (.inl (Hi_word a1 (rat g 62 6 a2) g)), some (.inl (wr ((wr ((Op_sayer (Hi_word a1 (rat g 62 6 a2) g)) * 6)) + (Op_getter (Hi_word a1 (rat g 62 6 a2) g)))))], [.inl (wr ((wr ((Op_sayer (Hi_word a1 (rat g 62 6 a2) g)) * 6)) + (Op_getter (Hi_word a1 (rat g 62 6 a2) g)))), .inr (.inr 63)], g) (56, [some (.inr (.inr 60)), some (.inl a1), some (.inl a2), some (.inl (rat g 62 6 a2)), some (.inl (Hi_word a1 (rat g 62 6 a2) g)), some (.inl (wr ((wr ((Op_sayer (Hi_word a1 (rat g 62 6 a2) g)) * 6)) + (Op_getter (Hi_word a1 (rat g 62 6 a2) g)))))], [.inl (-1), .inl (wr ((wr ((Op_sayer (Hi_word a1 (rat g 62 6 a2) g)) * 6)) + (Op_getter (Hi_word a1 (rat g 62 6 a2) g)))), .inr (.inr 63)], g) rfl ?_
    rw [hy1] at hjy1
    exact ev_le (L := [some (.inr (.inr 60)), some (.inl a1), some (.inl a2), some (.inl (rat g 62 6 a2)), none, some (.inl (wr ((wr ((Op_sayer (Hi_word a1 (rat g 62 6 a2) g)) * 6)) + (Op_getter (Hi_word a1 (rat g 62 6 a2) g)))))]) (by simp [Lle]) hjy1
  · rw [if_neg hc] at hy1
    refine es (51, [some (.inr (.inr 60)), some (.inl a1), some (.inl a2), some (.inl (rat g 62 6 a2)), some (.inl (Hi_word a1 (rat g 62 6 a2) g)), some (.inl (wr ((wr ((Op_sayer (Hi_word a1 (rat g 62 6 a2) g)) * 6)) + (Op_getter (Hi_word a1 (rat g 62 6 a2) g)))))], [.inl (wr ((wr ((Op_sayer (Hi_word a1 (rat g 62 6 a2) g)) * 6)) + (Op_getter (Hi_word a1 (rat g 62 6 a2) g)))), .inr (.inr 63)], g) (congrArg some (if_neg hc)) ?_
    refine ev_runs 2 (51, [some (.inr (.inr 60)), some (.inl a1), some (.inl a2), some (.inl (rat g 62 6 a2)), some (.inl (Hi_word a1 (rat g 62 6 a2) g)), some (.inl (wr ((wr ((Op_sayer (Hi_word a1 (rat g 62 6 a2) g)) * 6)) + (Op_getter (Hi_word a1 (rat g 62 6 a2) g)))))], [.inl (wr ((wr ((Op_sayer (Hi_word a1 (rat g 62 6 a2) g)) * 6)) + (Op_getter (Hi_word a1 (rat g 62 6 a2) g)))), .inr (.inr 63)], g) (56, [some (.inr (.inr 60)), some (.inl a1), some (.inl a2), some (.inl (rat g 62 6 a2)), some (.inl (Hi_word a1 (rat g 62 6 a2) g)), some (.inl (wr ((wr ((Op_sayer (Hi_word a1 (rat g 62 6 a2) g)) * 6)) + (Op_getter (Hi_word a1 (rat g 62 6 a2) g)))))], [.inl 1, .inl (wr ((wr ((Op_sayer (Hi_word a1 (rat g 62 6 a2) g)) * 6)) + (Op_getter (Hi_word a1 (rat g 62 6 a2) g)))), .inr (.inr 63)], g) rfl ?_
    rw [hy1] at hjy1
    exact ev_le (L := [some (.inr (.inr 60)), some (.inl a1), some (.inl a2), some (.inl (rat g 62 6 a2)), none, some (.inl (wr ((wr ((Op_sayer (Hi_word a1 (rat g 62 6 a2) g)) * 6)) + (Op_getter (Hi_word a1 (rat g 62 6 a2) g)))))]) (by simp [Lle]) hjy1
set_option maxRecDepth 100000 in
set_option maxHeartbeats 4000000 in
theorem ev_Rn_goByLots_l20 (c1 : Int) (c2 : Int) (K20_47 : Gx → Option Gx) (hK20_47 : ∀ (g : Gx) (g' : Gx), K20_47 g = some g' → Ev 144 47 [some (.inr (.inr 60)), some (.inl c1), some (.inl c2), none, none, none, none] [] g none g') : ∀ (n20 : Nat) (v3 : Int) (g : Gx) (g' : Gx), Rn_goByLots_l20 c1 c2 K20_47 n20 v3 g = some g' → Ev 144 20 [some (.inr (.inr 60)), some (.inl c1), some (.inl c2), some (.inl v3), none, none, none] [] g none g' := by
  intro n20
  induction n20 with
  | zero => intro v3 g g' h; cases h
  | succ n20 ih20 =>
    intro v3 g g' h
    rw [Rn_goByLots_l20] at h
    refine ev_runs 2 (20, [some (.inr (.inr 60)), some (.inl c1), some (.inl c2), some (.inl v3), none, none, none], [], g) (23, [some (.inr (.inr 60)), some (.inl c1), some (.inl c2), some (.inl v3), none, none, none], [.inl 6, .inl v3], g) rfl ?_
    by_cases hc : 6 ≤ v3
    · rw [if_pos hc] at h
      refine es (47, [some (.inr (.inr 60)), some (.inl c1), some (.inl c2), some (.inl v3), none, none, none], [], g) (congrArg some (if_pos hc)) ?_
      exact ev_le (L := [some (.inr (.inr 60)), some (.inl c1), some (.inl c2), none, none, none, none]) (by simp [Lle]) (hK20_47 g g' h)
    · rw [if_neg hc] at h
      refine es (26, [some (.inr (.inr 60)), some (.inl c1), some (.inl c2), some (.inl v3), none, none, none], [], g) (congrArg some (if_neg hc)) ?_
      refine ev_runs 7 (26, [some (.inr (.inr 60)), some (.inl c1), some (.inl c2), some (.inl v3), none, none, none], [], g) (35, [some (.inr (.inr 60)), some (.inl c1), some (.inl c2), some (.inl v3), none, none, none], [.inl 0, .inl v3, .inl c1, .inr (.inr 60), .inl v3, .inr (.inr 61)], g) rfl ?_
      obtain ⟨q1, hq, h⟩ := Option.bind_eq_some_iff.mp h
      refine ec 140 38 [.inr (.inr 60), .inl c1, .inl v3, .inl 0] [.inl v3, .inr (.inr 61)] rfl (ev_Rn_nextPlace c1 v3 0 g q1.1 q1.2 hq) ?_
      show Ev 144 38 [some (.inr (.inr 60)), some (.inl c1), some (.inl c2), some (.inl v3), none, none, none] [.inl q1.1, .inl v3, .inr (.inr 61)] q1.2 _ _
      refine ec 0 41 [.inr (.inr 61), .inl v3, .inl q1.1] [] rfl (ev_Row_set rfl rfl _ _ _) ?_
      show Ev 144 41 [some (.inr (.inr 60)), some (.inl c1), some (.inl c2), some (.inl v3), none, none, none] [] (rset q1.2 62 6 v3 q1.1) _ _
      refine ev_runs 2 (41, [some (.inr (.inr 60)), some (.inl c1), some (.inl c2), some (.inl v3), none, none, none], [], (rset q1.2 62 6 v3 q1.1)) (20, [some (.inr (.inr 60)), some (.inl c1), some (.inl c2), some (.inl (wr (v3 + 1))), none, none, none], [], (rset q1.2 62 6 v3 q1.1)) rfl ?_
      exact ev_le (L := [some (.inr (.inr 60)), some (.inl c1), some (.inl c2), some (.inl (wr (v3 + 1))), none, none, none]) (by simp [Lle]) (ih20 (wr (v3 + 1)) (rset q1.2 62 6 v3 q1.1) g' h)
set_option maxRecDepth 100000 in
set_option maxHeartbeats 4000000 in
theorem ev_Rn_goByLots_l49 (c1 : Int) (K49_136 : Gx → Option Gx) (hK49_136 : ∀ (g : Gx) (g' : Gx), K49_136 g = some g' → Ev 144 136 [none, none, none, none, none, none, none] [] g none g') : ∀ (n49 : Nat) (v3 : Int) (g : Gx) (g' : Gx), Rn_goByLots_l49 c1 K49_136 n49 v3 g = some g' → Ev 144 49 [some (.inr (.inr 60)), some (.inl c1), none, some (.inl v3), none, none, none] [] g none g' := by
  intro n49
  induction n49 with
  | zero => intro v3 g g' h; cases h
  | succ n49 ih49 =>
    intro v3 g g' h
    rw [Rn_goByLots_l49] at h
    refine ev_runs 3 (49, [some (.inr (.inr 60)), some (.inl c1), none, some (.inl v3), none, none, none], [], g) (55, [some (.inr (.inr 60)), some (.inl c1), none, some (.inl v3), none, none, none], [.inl 48, .inl (g 60 5)], g) rfl ?_
    by_cases hc : 48 ≤ (g 60 5)
    · rw [if_pos hc] at h
      refine es (136, [some (.inr (.inr 60)), some (.inl c1), none, some (.inl v3), none, none, none], [], g) (congrArg some (if_pos hc)) ?_
      exact ev_le (L := [none, none, none, none, none, none, none]) (by simp [Lle]) (hK49_136 g g' h)
    · rw [if_neg hc] at h
      refine es (58, [some (.inr (.inr 60)), some (.inl c1), none, some (.inl v3), none, none, none], [], g) (congrArg some (if_neg hc)) ?_
      refine ev_runs 2 (58, [some (.inr (.inr 60)), some (.inl c1), none, some (.inl v3), none, none, none], [], g) (60, [some (.inr (.inr 60)), some (.inl c1), none, some (.inl v3), none, none, none], [.inl c1, .inr (.inr 60)], g) rfl ?_
      obtain ⟨q3, hq, h⟩ := Option.bind_eq_some_iff.mp h
      refine ec 141 63 [.inr (.inr 60), .inl c1] [] rfl (ev_Rn_ableTalkers c1 g q3.1 q3.2 hq) ?_
      show Ev 144 63 [some (.inr (.inr 60)), some (.inl c1), none, some (.inl v3), none, none, none] [.inl q3.1] q3.2 _ _
      refine ev_runs 2 (63, [some (.inr (.inr 60)), some (.inl c1), none, some (.inl v3), none, none, none], [.inl q3.1], q3.2) (67, [some (.inr (.inr 60)), some (.inl c1), none, some (.inl v3), some (.inl q3.1), none, none], [.inl q3.1], q3.2) rfl ?_
      refine ec 58 70 [.inl q3.1] [] rfl (ev_Ji_bitCount q3.1 q3.2 _ rfl) ?_
      show Ev 144 70 [some (.inr (.inr 60)), some (.inl c1), none, some (.inl v3), some (.inl q3.1), none, none] [.inl (Ji_bitCount q3.1)] q3.2 _ _
      refine ev_runs 2 (70, [some (.inr (.inr 60)), some (.inl c1), none, some (.inl v3), some (.inl q3.1), none, none], [.inl (Ji_bitCount q3.1)], q3.2) (74, [some (.inr (.inr 60)), some (.inl c1), none, some (.inl v3), some (.inl q3.1), some (.inl (Ji_bitCount q3.1)), none], [.inl (Ji_bitCount q3.1)], q3.2) rfl ?_
      by_cases hc : ¬ (Ji_bitCount q3.1) = 0
      · rw [if_pos hc] at h
        refine es (80, [some (.inr (.inr 60)), some (.inl c1), none, some (.inl v3), some (.inl q3.1), some (.inl (Ji_bitCount q3.1)), none], [], q3.2) (congrArg some (if_pos hc)) ?_
        refine ev_runs 11 (80, [some (.inr (.inr 60)), some (.inl c1), none, some (.inl v3), some (.inl q3.1), some (.inl (Ji_bitCount q3.1)), none], [], q3.2) (97, [some (.inr (.inr 60)), some (.inl c1), none, some (.inl (wr ((wr (1103515245 * v3)) + 12345))), some (.inl q3.1), some (.inl (Ji_bitCount q3.1)), none], [.inl (Ji_bitCount q3.1), .inl (jushr (wr ((wr (1103515245 * v3)) + 12345)) 16), .inl q3.1], q3.2) rfl ?_
        by_cases hc : (Ji_bitCount q3.1) = 0
        · rw [if_pos hc] at h; cases h
        · rw [if_neg hc] at h
          refine es (98, [some (.inr (.inr 60)), some (.inl c1), none, some (.inl (wr ((wr (1103515245 * v3)) + 12345))), some (.inl q3.1), some (.inl (Ji_bitCount q3.1)), none], [.inl (jrem (jushr (wr ((wr (1103515245 * v3)) + 12345)) 16) (Ji_bitCount q3.1)), .inl q3.1], q3.2) (if_neg hc) ?_
          obtain ⟨q4, hq, h⟩ := Option.bind_eq_some_iff.mp h
          refine ec 142 101 [.inl q3.1, .inl (jrem (jushr (wr ((wr (1103515245 * v3)) + 12345)) 16) (Ji_bitCount q3.1))] [] rfl (ev_Rn_pick q3.1 (jrem (jushr (wr ((wr (1103515245 * v3)) + 12345)) 16) (Ji_bitCount q3.1)) q3.2 q4.1 q4.2 hq) ?_
          show Ev 144 101 [some (.inr (.inr 60)), some (.inl c1), none, some (.inl (wr ((wr (1103515245 * v3)) + 12345))), some (.inl q3.1), some (.inl (Ji_bitCount q3.1)), none] [.inl q4.1] q4.2 _ _
          refine ev_runs 4 (101, [some (.inr (.inr 60)), some (.inl c1), none, some (.inl (wr ((wr (1103515245 * v3)) + 12345))), some (.inl q3.1), some (.inl (Ji_bitCount q3.1)), none], [.inl q4.1], q4.2) (107, [some (.inr (.inr 60)), some (.inl c1), none, some (.inl (wr ((wr (1103515245 * v3)) + 12345))), some (.inl q3.1), some (.inl (Ji_bitCount q3.1)), some (.inl q4.1)], [.inl q4.1, .inl c1, .inr (.inr 60)], q4.2) rfl ?_
          obtain ⟨g5, hq, h⟩ := Option.bind_eq_some_iff.mp h
          refine ec 143 110 [.inr (.inr 60), .inl c1, .inl q4.1] [] rfl (ev_Rn_act c1 q4.1 q4.2 g5 hq) ?_
          show Ev 144 110 [some (.inr (.inr 60)), some (.inl c1), none, some (.inl (wr ((wr (1103515245 * v3)) + 12345))), some (.inl q3.1), some (.inl (Ji_bitCount q3.1)), some (.inl q4.1)] [] g5 _ _
          refine ev_runs 5 (110, [some (.inr (.inr 60)), some (.inl c1), none, some (.inl (wr ((wr (1103515245 * v3)) + 12345))), some (.inl q3.1), some (.inl (Ji_bitCount q3.1)), some (.inl q4.1)], [], g5) (120, [some (.inr (.inr 60)), some (.inl c1), none, some (.inl (wr ((wr (1103515245 * v3)) + 12345))), some (.inl q3.1), some (.inl (Ji_bitCount q3.1)), some (.inl q4.1)], [.inl q4.1, .inl (g5 60 5), .inr (.inr 65)], g5) rfl ?_
          refine ec 0 123 [.inr (.inr 65), .inl (g5 60 5), .inl q4.1] [] rfl (ev_Row_set rfl rfl _ _ _) ?_
          show Ev 144 123 [some (.inr (.inr 60)), some (.inl c1), none, some (.inl (wr ((wr (1103515245 * v3)) + 12345))), some (.inl q3.1), some (.inl (Ji_bitCount q3.1)), some (.inl q4.1)] [] (rset g5 66 48 (g5 60 5) q4.1) _ _
          refine ev_runs 7 (123, [some (.inr (.inr 60)), some (.inl c1), none, some (.inl (wr ((wr (1103515245 * v3)) + 12345))), some (.inl q3.1), some (.inl (Ji_bitCount q3.1)), some (.inl q4.1)], [], (rset g5 66 48 (g5 60 5) q4.1)) (49, [some (.inr (.inr 60)), some (.inl c1), none, some (.inl (wr ((wr (1103515245 * v3)) + 12345))), some (.inl q3.1), some (.inl (Ji_bitCount q3.1)), some (.inl q4.1)], [], (gset (rset g5 66 48 (g5 60 5) q4.1) 60 5 (wr ((g5 60 5) + 1)))) rfl ?_
          exact ev_le (L := [some (.inr (.inr 60)), some (.inl c1), none, some (.inl (wr ((wr (1103515245 * v3)) + 12345))), none, none, none]) (by simp [Lle]) (ih49 (wr ((wr (1103515245 * v3)) + 12345)) (gset (rset g5 66 48 (g5 60 5) q4.1) 60 5 (wr ((g5 60 5) + 1))) g' h)
      · rw [if_neg hc] at h
        refine es (77, [some (.inr (.inr 60)), some (.inl c1), none, some (.inl v3), some (.inl q3.1), some (.inl (Ji_bitCount q3.1)), none], [], q3.2) (congrArg some (if_neg hc)) ?_
        refine ev_runs 1 (77, [some (.inr (.inr 60)), some (.inl c1), none, some (.inl v3), some (.inl q3.1), some (.inl (Ji_bitCount q3.1)), none], [], q3.2) (136, [some (.inr (.inr 60)), some (.inl c1), none, some (.inl v3), some (.inl q3.1), some (.inl (Ji_bitCount q3.1)), none], [], q3.2) rfl ?_
        exact ev_le (L := [none, none, none, none, none, none, none]) (by simp [Lle]) (hK49_136 q3.2 g' h)
set_option maxRecDepth 100000 in
set_option maxHeartbeats 4000000 in
theorem ev_Rn_goByLots (a1 a2 : Int) (g : Gx) (g' : Gx) (h : Rn_goByLots a1 a2 g = some g') : Ev 144 0 [some (.inr (.inr 60)), some (.inl a1), some (.inl a2), none, none, none, none] [] g none g' := by
  rw [Rn_goByLots] at h
  refine ev_runs 9 (0, [some (.inr (.inr 60)), some (.inl a1), some (.inl a2), none, none, none, none], [], g) (15, [some (.inr (.inr 60)), some (.inl a1), some (.inl a2), none, none, none, none], [.inl 0, .inr (.inr 63)], (gset (gset g 60 5 0) 60 6 0)) rfl ?_
  refine ec 119 18 [.inr (.inr 63), .inl 0] [] rfl (ev_Row_fill rfl rfl (by decide) _ _) ?_
  show Ev 144 18 [some (.inr (.inr 60)), some (.inl a1), some (.inl a2), none, none, none, none] [] (rfill (gset (gset g 60 5 0) 60 6 0) 64 36 0) _ _
  refine ev_runs 2 (18, [some (.inr (.inr 60)), some (.inl a1), some (.inl a2), none, none, none, none], [], (rfill (gset (gset g 60 5 0) 60 6 0) 64 36 0)) (20, [some (.inr (.inr 60)), some (.inl a1), some (.inl a2), some (.inl 0), none, none, none], [], (rfill (gset (gset g 60 5 0) 60 6 0) 64 36 0)) rfl ?_
  refine ev_le (L := [some (.inr (.inr 60)), some (.inl a1), some (.inl a2), some (.inl 0), none, none, none]) (by simp [Lle]) ?_
  refine ev_Rn_goByLots_l20 a1 a2 _ ?_ fu 0 (rfill (gset (gset g 60 5 0) 60 6 0) 64 36 0) g' h
  · intro g2 g' h
    refine ev_runs 2 (47, [some (.inr (.inr 60)), some (.inl a1), some (.inl a2), none, none, none, none], [], g2) (49, [some (.inr (.inr 60)), some (.inl a1), some (.inl a2), some (.inl a2), none, none, none], [], g2) rfl ?_
    refine ev_le (L := [some (.inr (.inr 60)), some (.inl a1), none, some (.inl a2), none, none, none]) (by simp [Lle]) ?_
    refine ev_Rn_goByLots_l49 a1 _ ?_ fu a2 g2 g' h
    · intro g6 g' h
      cases h
      exact er rfl
set_option maxRecDepth 100000 in
set_option maxHeartbeats 4000000 in
theorem ev_Rn_stepCount (g : Gx) (r : Int) (h : Rn_stepCount g = r) : Ev 145 0 [some (.inr (.inr 60))] [] g (some (.inl r)) g := by
  rw [Rn_stepCount] at h
  refine ev_runs 2 (0, [some (.inr (.inr 60))], [], g) (4, [some (.inr (.inr 60))], [.inl (g 60 5)], g) rfl ?_
  subst h
  exact er rfl
set_option maxRecDepth 100000 in
set_option maxHeartbeats 4000000 in
theorem ev_Rn_longestQueue (g : Gx) (r : Int) (h : Rn_longestQueue g = r) : Ev 146 0 [some (.inr (.inr 60))] [] g (some (.inl r)) g := by
  rw [Rn_longestQueue] at h
  refine ev_runs 2 (0, [some (.inr (.inr 60))], [], g) (4, [some (.inr (.inr 60))], [.inl (g 60 6)], g) rfl ?_
  subst h
  exact er rfl
set_option maxRecDepth 100000 in
set_option maxHeartbeats 4000000 in
theorem ev_Op_run (a1 a2 a3 : Int) (g : Gx) (r : Int) (g' : Gx) (h : Op_run a1 a2 a3 g = some (r, g')) : Ev 147 0 [some (.inr (.inr 0)), some (.inl a1), some (.inl a2), some (.inl a3), none] [] g (some (.inl r)) g' := by
  rw [Op_run] at h
  refine ev_runs 1 (0, [some (.inr (.inr 0)), some (.inl a1), some (.inl a2), some (.inl a3), none], [], g) (1, [some (.inr (.inr 0)), some (.inl a1), some (.inl a2), some (.inl a3), none], [.inl a1], g) rfl ?_
  refine ec 83 4 [.inl a1] [] rfl (ev_Op_isHistory a1 g _ rfl) ?_
  show Ev 147 4 [some (.inr (.inr 0)), some (.inl a1), some (.inl a2), some (.inl a3), none] [.inl (Op_isHistory a1)] g _ _
  by_cases hc : (Op_isHistory a1) = 0
  · rw [if_pos hc] at h
    refine es (16, [some (.inr (.inr 0)), some (.inl a1), some (.inl a2), some (.inl a3), none], [], g) (congrArg some (if_pos hc)) ?_
    refine ev_runs 1 (16, [some (.inr (.inr 0)), some (.inl a1), some (.inl a2), some (.inl a3), none], [], g) (18, [some (.inr (.inr 0)), some (.inl a1), some (.inl a2), some (.inl a3), none], [.inl (-2)], g) rfl ?_
    cases h
    exact er rfl
  · rw [if_neg hc] at h
    refine es (7, [some (.inr (.inr 0)), some (.inl a1), some (.inl a2), some (.inl a3), none], [], g) (congrArg some (if_neg hc)) ?_
    refine ev_runs 1 (7, [some (.inr (.inr 0)), some (.inl a1), some (.inl a2), some (.inl a3), none], [], g) (8, [some (.inr (.inr 0)), some (.inl a1), some (.inl a2), some (.inl a3), none], [.inl a3], g) rfl ?_
    by_cases hc : a3 < 0
    · rw [if_pos hc] at h
      refine es (16, [some (.inr (.inr 0)), some (.inl a1), some (.inl a2), some (.inl a3), none], [], g) (congrArg some (if_pos hc)) ?_
      refine ev_runs 1 (16, [some (.inr (.inr 0)), some (.inl a1), some (.inl a2), some (.inl a3), none], [], g) (18, [some (.inr (.inr 0)), some (.inl a1), some (.inl a2), some (.inl a3), none], [.inl (-2)], g) rfl ?_
      cases h
      exact er rfl
    · rw [if_neg hc] at h
      refine es (11, [some (.inr (.inr 0)), some (.inl a1), some (.inl a2), some (.inl a3), none], [], g) (congrArg some (if_neg hc)) ?_
      refine ev_runs 2 (11, [some (.inr (.inr 0)), some (.inl a1), some (.inl a2), some (.inl a3), none], [], g) (13, [some (.inr (.inr 0)), some (.inl a1), some (.inl a2), some (.inl a3), none], [.inl 1, .inl a3], g) rfl ?_
      by_cases hc : a3 ≤ 1
      · rw [if_pos hc] at h
        refine es (19, [some (.inr (.inr 0)), some (.inl a1), some (.inl a2), some (.inl a3), none], [], g) (congrArg some (if_pos hc)) ?_
        refine ev_runs 2 (19, [some (.inr (.inr 0)), some (.inl a1), some (.inl a2), some (.inl a3), none], [], g) (21, [some (.inr (.inr 0)), some (.inl a1), some (.inl a2), some (.inl a3), none], [.inl a1, .inr (.inr 0)], g) rfl ?_
        obtain ⟨q1, hq, h⟩ := Option.bind_eq_some_iff.mp h
        refine ec 75 24 [.inr (.inr 0), .inl a1] [] rfl (ev_Op_hindrance a1 g q1.1 q1.2 hq) ?_
        show Ev 147 24 [some (.inr (.inr 0)), some (.inl a1), some (.inl a2), some (.inl a3), none] [.inl q1.1] q1.2 _ _
        refine ev_runs 2 (24, [some (.inr (.inr 0)), some (.inl a1), some (.inl a2), some (.inl a3), none], [.inl q1.1], q1.2) (28, [some (.inr (.inr 0)), some (.inl a1), some (.inl a2), some (.inl a3), some (.inl q1.1)], [.inl q1.1], q1.2) rfl ?_
        by_cases hc : q1.1 = 0
        · rw [if_pos hc] at h
          refine es (34, [some (.inr (.inr 0)), some (.inl a1), some (.inl a2), some (.inl a3), some (.inl q1.1)], [], q1.2) (congrArg some (if_pos hc)) ?_
          refine ev_runs 4 (34, [some (.inr (.inr 0)), some (.inl a1), some (.inl a2), some (.inl a3), some (.inl q1.1)], [], q1.2) (40, [some (.inr (.inr 0)), some (.inl a1), some (.inl a2), some (.inl a3), some (.inl q1.1)], [.inl a2, .inl a1, .inr (.inr 60)], q1.2) rfl ?_
          obtain ⟨g2, hq, h⟩ := Option.bind_eq_some_iff.mp h
          refine ec 144 43 [.inr (.inr 60), .inl a1, .inl a2] [] rfl (ev_Rn_goByLots a1 a2 q1.2 g2 hq) ?_
          show Ev 147 43 [some (.inr (.inr 0)), some (.inl a1), some (.inl a2), some (.inl a3), some (.inl q1.1)] [] g2 _ _
          refine ev_runs 1 (43, [some (.inr (.inr 0)), some (.inl a1), some (.inl a2), some (.inl a3), some (.inl q1.1)], [], g2) (44, [some (.inr (.inr 0)), some (.inl a1), some (.inl a2), some (.inl a3), some (.inl q1.1)], [.inl a3], g2) rfl ?_
          by_cases hc : ¬ a3 = 0
          · rw [if_pos hc] at h
            refine es (57, [some (.inr (.inr 0)), some (.inl a1), some (.inl a2), some (.inl a3), some (.inl q1.1)], [], g2) (congrArg some (if_pos hc)) ?_
            refine ev_runs 2 (57, [some (.inr (.inr 0)), some (.inl a1), some (.inl a2), some (.inl a3), some (.inl q1.1)], [], g2) (61, [some (.inr (.inr 0)), some (.inl a1), some (.inl a2), some (.inl a3), some (.inl q1.1)], [.inr (.inr 60)], g2) rfl ?_
            refine ec 146 64 [.inr (.inr 60)] [] rfl (ev_Rn_longestQueue g2 _ rfl) ?_
            show Ev 147 64 [some (.inr (.inr 0)), some (.inl a1), some (.inl a2), some (.inl a3), some (.inl q1.1)] [.inl (Rn_longestQueue g2)] g2 _ _
            cases h
            exact er rfl
          · rw [if_neg hc] at h
            refine es (47, [some (.inr (.inr 0)), some (.inl a1), some (.inl a2), some (.inl a3), some (.inl q1.1)], [], g2) (congrArg some (if_neg hc)) ?_
            refine ev_runs 2 (47, [some (.inr (.inr 0)), some (.inl a1), some (.inl a2), some (.inl a3), some (.inl q1.1)], [], g2) (51, [some (.inr (.inr 0)), some (.inl a1), some (.inl a2), some (.inl a3), some (.inl q1.1)], [.inr (.inr 60)], g2) rfl ?_
            refine ec 145 54 [.inr (.inr 60)] [] rfl (ev_Rn_stepCount g2 _ rfl) ?_
            show Ev 147 54 [some (.inr (.inr 0)), some (.inl a1), some (.inl a2), some (.inl a3), some (.inl q1.1)] [.inl (Rn_stepCount g2)] g2 _ _
            refine ev_runs 1 (54, [some (.inr (.inr 0)), some (.inl a1), some (.inl a2), some (.inl a3), some (.inl q1.1)], [.inl (Rn_stepCount g2)], g2) (64, [some (.inr (.inr 0)), some (.inl a1), some (.inl a2), some (.inl a3), some (.inl q1.1)], [.inl (Rn_stepCount g2)], g2) rfl ?_
            cases h
            exact er rfl
        · rw [if_neg hc] at h
          refine es (31, [some (.inr (.inr 0)), some (.inl a1), some (.inl a2), some (.inl a3), some (.inl q1.1)], [], q1.2) (congrArg some (if_neg hc)) ?_
          refine ev_runs 1 (31, [some (.inr (.inr 0)), some (.inl a1), some (.inl a2), some (.inl a3), some (.inl q1.1)], [], q1.2) (33, [some (.inr (.inr 0)), some (.inl a1), some (.inl a2), some (.inl a3), some (.inl q1.1)], [.inl q1.1], q1.2) rfl ?_
          cases h
          exact er rfl
      · rw [if_neg hc] at h
        refine es (16, [some (.inr (.inr 0)), some (.inl a1), some (.inl a2), some (.inl a3), none], [], g) (congrArg some (if_neg hc)) ?_
        refine ev_runs 1 (16, [some (.inr (.inr 0)), some (.inl a1), some (.inl a2), some (.inl a3), none], [], g) (18, [some (.inr (.inr 0)), some (.inl a1), some (.inl a2), some (.inl a3), none], [.inl (-2)], g) rfl ?_
        cases h
        exact er rfl
set_option maxRecDepth 100000 in
set_option maxHeartbeats 4000000 in
theorem ev_Md_begins_l2 (K2_21 : Gx → Option Gx) (hK2_21 : ∀ (g : Gx) (g' : Gx), K2_21 g = some g' → Ev 148 21 [some (.inr (.inr 92)), none] [] g none g') : ∀ (n2 : Nat) (v1 : Int) (g : Gx) (g' : Gx), Md_begins_l2 K2_21 n2 v1 g = some g' → Ev 148 2 [some (.inr (.inr 92)), some (.inl v1)] [] g none g' := by
  intro n2
  induction n2 with
  | zero => intro v1 g g' h; cases h
  | succ n2 ih2 =>
    intro v1 g g' h
    rw [Md_begins_l2] at h
    refine ev_runs 2 (2, [some (.inr (.inr 92)), some (.inl v1)], [], g) (5, [some (.inr (.inr 92)), some (.inl v1)], [.inl 6, .inl v1], g) rfl ?_
    by_cases hc : 6 ≤ v1
    · rw [if_pos hc] at h
      refine es (21, [some (.inr (.inr 92)), some (.inl v1)], [], g) (congrArg some (if_pos hc)) ?_
      exact ev_le (L := [some (.inr (.inr 92)), none]) (by simp [Lle]) (hK2_21 g g' h)
    · rw [if_neg hc] at h
      refine es (8, [some (.inr (.inr 92)), some (.inl v1)], [], g) (congrArg some (if_neg hc)) ?_
      refine ev_runs 4 (8, [some (.inr (.inr 92)), some (.inl v1)], [], g) (14, [some (.inr (.inr 92)), some (.inl v1)], [.inl 0, .inl v1, .inr (.inr 121)], g) rfl ?_
      by_cases hc : 0 ≤ v1 ∧ v1 < 6
      · rw [if_pos hc] at h
        refine es (15, [some (.inr (.inr 92)), some (.inl v1)], [], (gset g 121 v1.toNat 0)) (if_pos hc) ?_
        refine ev_runs 2 (15, [some (.inr (.inr 92)), some (.inl v1)], [], (gset g 121 v1.toNat 0)) (2, [some (.inr (.inr 92)), some (.inl (wr (v1 + 1)))], [], (gset g 121 v1.toNat 0)) rfl ?_
        exact ev_le (L := [some (.inr (.inr 92)), some (.inl (wr (v1 + 1)))]) (by simp [Lle]) (ih2 (wr (v1 + 1)) (gset g 121 v1.toNat 0) g' h)
      · rw [if_neg hc] at h; cases h
set_option maxRecDepth 100000 in
set_option maxHeartbeats 4000000 in
theorem ev_Md_begins_l23 (K23_42 : Gx → Option Gx) (hK23_42 : ∀ (g : Gx) (g' : Gx), K23_42 g = some g' → Ev 148 42 [some (.inr (.inr 92)), none] [] g none g') : ∀ (n23 : Nat) (v1 : Int) (g : Gx) (g' : Gx), Md_begins_l23 K23_42 n23 v1 g = some g' → Ev 148 23 [some (.inr (.inr 92)), some (.inl v1)] [] g none g' := by
  intro n23
  induction n23 with
  | zero => intro v1 g g' h; cases h
  | succ n23 ih23 =>
    intro v1 g g' h
    rw [Md_begins_l23] at h
    refine ev_runs 2 (23, [some (.inr (.inr 92)), some (.inl v1)], [], g) (26, [some (.inr (.inr 92)), some (.inl v1)], [.inl 36, .inl v1], g) rfl ?_
    by_cases hc : 36 ≤ v1
    · rw [if_pos hc] at h
      refine es (42, [some (.inr (.inr 92)), some (.inl v1)], [], g) (congrArg some (if_pos hc)) ?_
      exact ev_le (L := [some (.inr (.inr 92)), none]) (by simp [Lle]) (hK23_42 g g' h)
    · rw [if_neg hc] at h
      refine es (29, [some (.inr (.inr 92)), some (.inl v1)], [], g) (congrArg some (if_neg hc)) ?_
      refine ev_runs 4 (29, [some (.inr (.inr 92)), some (.inl v1)], [], g) (35, [some (.inr (.inr 92)), some (.inl v1)], [.inl 0, .inl v1, .inr (.inr 122)], g) rfl ?_
      by_cases hc : 0 ≤ v1 ∧ v1 < 36
      · rw [if_pos hc] at h
        refine es (36, [some (.inr (.inr 92)), some (.inl v1)], [], (gset g 122 v1.toNat 0)) (if_pos hc) ?_
        refine ev_runs 2 (36, [some (.inr (.inr 92)), some (.inl v1)], [], (gset g 122 v1.toNat 0)) (23, [some (.inr (.inr 92)), some (.inl (wr (v1 + 1)))], [], (gset g 122 v1.toNat 0)) rfl ?_
        exact ev_le (L := [some (.inr (.inr 92)), some (.inl (wr (v1 + 1)))]) (by simp [Lle]) (ih23 (wr (v1 + 1)) (gset g 122 v1.toNat 0) g' h)
      · rw [if_neg hc] at h; cases h
set_option maxRecDepth 100000 in
set_option maxHeartbeats 4000000 in
theorem ev_Md_begins (g : Gx) (g' : Gx) (h : Md_begins g = some g') : Ev 148 0 [some (.inr (.inr 92)), none] [] g none g' := by
  rw [Md_begins] at h
  refine ev_runs 2 (0, [some (.inr (.inr 92)), none], [], g) (2, [some (.inr (.inr 92)), some (.inl 0)], [], g) rfl ?_
  refine ev_le (L := [some (.inr (.inr 92)), some (.inl 0)]) (by simp [Lle]) ?_
  refine ev_Md_begins_l2 _ ?_ fu 0 g g' h
  · intro g1 g' h
    refine ev_runs 2 (21, [some (.inr (.inr 92)), none], [], g1) (23, [some (.inr (.inr 92)), some (.inl 0)], [], g1) rfl ?_
    refine ev_le (L := [some (.inr (.inr 92)), some (.inl 0)]) (by simp [Lle]) ?_
    refine ev_Md_begins_l23 _ ?_ fu 0 g1 g' h
    · intro g2 g' h
      refine ev_runs 6 (42, [some (.inr (.inr 92)), none], [], g2) (52, [some (.inr (.inr 92)), none], [], (gset (gset g2 92 43 0) 92 44 0)) rfl ?_
      cases h
      exact er rfl
set_option maxRecDepth 100000 in
set_option maxHeartbeats 4000000 in
theorem ev_Md_queueOf (a0 : Int) (g : Gx) (r : Int) (h : Md_queueOf a0 = r) : Ev 149 0 [some (.inl a0)] [] g (some (.inl r)) g := by
  rw [Md_queueOf] at h
  refine ev_runs 4 (0, [some (.inl a0)], [], g) (7, [some (.inl a0)], [.inl (jrem a0 10000), .inl 6], g) rfl ?_
  refine ec 99 10 [.inl (jrem a0 10000)] [.inl 6] rfl (ev_Md_from (jrem a0 10000) g _ rfl) ?_
  show Ev 149 10 [some (.inl a0)] [.inl (Md_from (jrem a0 10000)), .inl 6] g _ _
  refine ev_runs 4 (10, [some (.inl a0)], [.inl (Md_from (jrem a0 10000)), .inl 6], g) (16, [some (.inl a0)], [.inl (jrem a0 10000), .inl (wr (6 * (Md_from (jrem a0 10000))))], g) rfl ?_
  refine ec 100 19 [.inl (jrem a0 10000)] [.inl (wr (6 * (Md_from (jrem a0 10000))))] rfl (ev_Md_to (jrem a0 10000) g _ rfl) ?_
  show Ev 149 19 [some (.inl a0)] [.inl (Md_to (jrem a0 10000)), .inl (wr (6 * (Md_from (jrem a0 10000))))] g _ _
  refine ev_runs 1 (19, [some (.inl a0)], [.inl (Md_to (jrem a0 10000)), .inl (wr (6 * (Md_from (jrem a0 10000))))], g) (20, [some (.inl a0)], [.inl (wr ((wr (6 * (Md_from (jrem a0 10000)))) + (Md_to (jrem a0 10000))))], g) rfl ?_
  subst h
  exact er rfl
set_option maxRecDepth 100000 in
set_option maxHeartbeats 4000000 in
theorem ev_Md_can (a1 a2 a3 : Int) (g : Gx) (r : Int) (g' : Gx) (h : Md_can a1 a2 a3 g = some (r, g')) : Ev 150 0 [some (.inr (.inr 92)), some (.inl a1), some (.inl a2), some (.inl a3), none] [] g (some (.inl r)) g' := by
  rw [Md_can] at h
  refine ev_runs 3 (0, [some (.inr (.inr 92)), some (.inl a1), some (.inl a2), some (.inl a3), none], [], g) (5, [some (.inr (.inr 92)), some (.inl a1), some (.inl a2), some (.inl a3), none], [.inl a1, .inr (.inr 121)], g) rfl ?_
  by_cases hc : 0 ≤ a1 ∧ a1 < 6
  · rw [if_pos hc] at h
    refine es (6, [some (.inr (.inr 92)), some (.inl a1), some (.inl a2), some (.inl a3), none], [.inl (g 121 a1.toNat)], g) (if_pos hc) ?_
    refine ev_runs 1 (6, [some (.inr (.inr 92)), some (.inl a1), some (.inl a2), some (.inl a3), none], [.inl (g 121 a1.toNat)], g) (7, [some (.inr (.inr 92)), some (.inl a1), some (.inl a2), some (.inl a3), none], [.inl a3, .inl (g 121 a1.toNat)], g) rfl ?_
    by_cases hc : a3 ≤ (g 121 a1.toNat)
    · rw [if_pos hc] at h
      refine es (25, [some (.inr (.inr 92)), some (.inl a1), some (.inl a2), some (.inl a3), none], [], g) (congrArg some (if_pos hc)) ?_
      refine ev_runs 6 (25, [some (.inr (.inr 92)), some (.inl a1), some (.inl a2), some (.inl a3), none], [], g) (60, [some (.inr (.inr 92)), some (.inl a1), some (.inl a2), some (.inl a3), some (.inl (-1))], [.inl 0], g) rfl ?_
      cases h
      exact er rfl
    · rw [if_neg hc] at h
      refine es (10, [some (.inr (.inr 92)), some (.inl a1), some (.inl a2), some (.inl a3), none], [], g) (congrArg some (if_neg hc)) ?_
      refine ev_runs 6 (10, [some (.inr (.inr 92)), some (.inl a1), some (.inl a2), some (.inl a3), none], [], g) (18, [some (.inr (.inr 92)), some (.inl a1), some (.inl a2), some (.inl a3), none], [.inl a1, .inr (.inr 121), .inl a2, .inl a1, .inr (.inr 92)], g) rfl ?_
      by_cases hc : 0 ≤ a1 ∧ a1 < 6
      · rw [if_pos hc] at h
        refine es (19, [some (.inr (.inr 92)), some (.inl a1), some (.inl a2), some (.inl a3), none], [.inl (g 121 a1.toNat), .inl a2, .inl a1, .inr (.inr 92)], g) (if_pos hc) ?_
        obtain ⟨q1, hq, h⟩ := Option.bind_eq_some_iff.mp h
        refine ec 102 22 [.inr (.inr 92), .inl a1, .inl a2, .inl (g 121 a1.toNat)] [] rfl (ev_Md_lookAt a1 a2 (g 121 a1.toNat) g q1.1 q1.2 hq) ?_
        show Ev 150 22 [some (.inr (.inr 92)), some (.inl a1), some (.inl a2), some (.inl a3), none] [.inl q1.1] q1.2 _ _
        refine ev_runs 4 (22, [some (.inr (.inr 92)), some (.inl a1), some (.inl a2), some (.inl a3), none], [.inl q1.1], q1.2) (31, [some (.inr (.inr 92)), some (.inl a1), some (.inl a2), some (.inl a3), some (.inl q1.1)], [.inl (-1), .inl q1.1], q1.2) rfl ?_
        by_cases hc : q1.1 = (-1)
        · rw [if_pos hc] at h
          refine es (59, [some (.inr (.inr 92)), some (.inl a1), some (.inl a2), some (.inl a3), some (.inl q1.1)], [], q1.2) (congrArg some (if_pos hc)) ?_
          refine ev_runs 1 (59, [some (.inr (.inr 92)), some (.inl a1), some (.inl a2), some (.inl a3), some (.inl q1.1)], [], q1.2) (60, [some (.inr (.inr 92)), some (.inl a1), some (.inl a2), some (.inl a3), some (.inl q1.1)], [.inl 0], q1.2) rfl ?_
          cases h
          exact er rfl
        · rw [if_neg hc] at h
          refine es (34, [some (.inr (.inr 92)), some (.inl a1), some (.inl a2), some (.inl a3), some (.inl q1.1)], [], q1.2) (congrArg some (if_neg hc)) ?_
          refine ev_runs 2 (34, [some (.inr (.inr 92)), some (.inl a1), some (.inl a2), some (.inl a3), some (.inl q1.1)], [], q1.2) (39, [some (.inr (.inr 92)), some (.inl a1), some (.inl a2), some (.inl a3), some (.inl q1.1)], [.inl 20000, .inl q1.1], q1.2) rfl ?_
          by_cases hc : q1.1 < 20000
          · rw [if_pos hc] at h
            refine es (55, [some (.inr (.inr 92)), some (.inl a1), some (.inl a2), some (.inl a3), some (.inl q1.1)], [], q1.2) (congrArg some (if_pos hc)) ?_
            refine ev_runs 2 (55, [some (.inr (.inr 92)), some (.inl a1), some (.inl a2), some (.inl a3), some (.inl q1.1)], [], q1.2) (60, [some (.inr (.inr 92)), some (.inl a1), some (.inl a2), some (.inl a3), some (.inl q1.1)], [.inl 1], q1.2) rfl ?_
            cases h
            exact er rfl
          · rw [if_neg hc] at h
            refine es (42, [some (.inr (.inr 92)), some (.inl a1), some (.inl a2), some (.inl a3), some (.inl q1.1)], [], q1.2) (congrArg some (if_neg hc)) ?_
            refine ev_runs 3 (42, [some (.inr (.inr 92)), some (.inl a1), some (.inl a2), some (.inl a3), some (.inl q1.1)], [], q1.2) (48, [some (.inr (.inr 92)), some (.inl a1), some (.inl a2), some (.inl a3), some (.inl q1.1)], [.inl q1.1, .inr (.inr 122)], q1.2) rfl ?_
            refine ec 149 51 [.inl q1.1] [.inr (.inr 122)] rfl (ev_Md_queueOf q1.1 q1.2 _ rfl) ?_
            show Ev 150 51 [some (.inr (.inr 92)), some (.inl a1), some (.inl a2), some (.inl a3), some (.inl q1.1)] [.inl (Md_queueOf q1.1), .inr (.inr 122)] q1.2 _ _
            by_cases hc : 0 ≤ (Md_queueOf q1.1) ∧ (Md_queueOf q1.1) < 36
            · rw [if_pos hc] at h
              refine es (52, [some (.inr (.inr 92)), some (.inl a1), some (.inl a2), some (.inl a3), some (.inl q1.1)], [.inl (q1.2 122 (Md_queueOf q1.1).toNat)], q1.2) (if_pos hc) ?_
              by_cases hc : (q1.2 122 (Md_queueOf q1.1).toNat) ≤ 0
              · rw [if_pos hc] at h
                refine es (59, [some (.inr (.inr 92)), some (.inl a1), some (.inl a2), some (.inl a3), some (.inl q1.1)], [], q1.2) (congrArg some (if_pos hc)) ?_
                refine ev_runs 1 (59, [some (.inr (.inr 92)), some (.inl a1), some (.inl a2), some (.inl a3), some (.inl q1.1)], [], q1.2) (60, [some (.inr (.inr 92)), some (.inl a1), some (.inl a2), some (.inl a3), some (.inl q1.1)], [.inl 0], q1.2) rfl ?_
                cases h
                exact er rfl
              · rw [if_neg hc] at h
                refine es (55, [some (.inr (.inr 92)), some (.inl a1), some (.inl a2), some (.inl a3), some (.inl q1.1)], [], q1.2) (congrArg some (if_neg hc)) ?_
                refine ev_runs 2 (55, [some (.inr (.inr 92)), some (.inl a1), some (.inl a2), some (.inl a3), some (.inl q1.1)], [], q1.2) (60, [some (.inr (.inr 92)), some (.inl a1), some (.inl a2), some (.inl a3), some (.inl q1.1)], [.inl 1], q1.2) rfl ?_
                cases h
                exact er rfl
            · rw [if_neg hc] at h; cases h
      · rw [if_neg hc] at h; cases h
  · rw [if_neg hc] at h; cases h
set_option maxRecDepth 100000 in
set_option maxHeartbeats 4000000 in
theorem ev_Md_does (a1 a2 : Int) (g : Gx) (g' : Gx) (h : Md_does a1 a2 g = some g') : Ev 151 0 [some (.inr (.inr 92)), some (.inl a1), some (.inl a2), none, none] [] g none g' := by
  rw [Md_does] at h
  refine ev_runs 6 (0, [some (.inr (.inr 92)), some (.inl a1), some (.inl a2), none, none], [], g) (8, [some (.inr (.inr 92)), some (.inl a1), some (.inl a2), none, none], [.inl a1, .inr (.inr 121), .inl a2, .inl a1, .inr (.inr 92)], g) rfl ?_
  by_cases hc : 0 ≤ a1 ∧ a1 < 6
  · rw [if_pos hc] at h
    refine es (9, [some (.inr (.inr 92)), some (.inl a1), some (.inl a2), none, none], [.inl (g 121 a1.toNat), .inl a2, .inl a1, .inr (.inr 92)], g) (if_pos hc) ?_
    obtain ⟨q1, hq, h⟩ := Option.bind_eq_some_iff.mp h
    refine ec 102 12 [.inr (.inr 92), .inl a1, .inl a2, .inl (g 121 a1.toNat)] [] rfl (ev_Md_lookAt a1 a2 (g 121 a1.toNat) g q1.1 q1.2 hq) ?_
    show Ev 151 12 [some (.inr (.inr 92)), some (.inl a1), some (.inl a2), none, none] [.inl q1.1] q1.2 _ _
    refine ev_runs 2 (12, [some (.inr (.inr 92)), some (.inl a1), some (.inl a2), none, none], [.inl q1.1], q1.2) (14, [some (.inr (.inr 92)), some (.inl a1), some (.inl a2), some (.inl q1.1), none], [.inl q1.1], q1.2) rfl ?_
    refine ec 149 17 [.inl q1.1] [] rfl (ev_Md_queueOf q1.1 q1.2 _ rfl) ?_
    show Ev 151 17 [some (.inr (.inr 92)), some (.inl a1), some (.inl a2), some (.inl q1.1), none] [.inl (Md_queueOf q1.1)] q1.2 _ _
    refine ev_runs 5 (17, [some (.inr (.inr 92)), some (.inl a1), some (.inl a2), some (.inl q1.1), none], [.inl (Md_queueOf q1.1)], q1.2) (26, [some (.inr (.inr 92)), some (.inl a1), some (.inl a2), some (.inl q1.1), some (.inl (Md_queueOf q1.1))], [.inl (Md_queueOf q1.1), .inr (.inr 122), .inl (Md_queueOf q1.1), .inr (.inr 122)], q1.2) rfl ?_
    by_cases hc : 0 ≤ (Md_queueOf q1.1) ∧ (Md_queueOf q1.1) < 36
    · rw [if_pos hc] at h
      refine es (27, [some (.inr (.inr 92)), some (.inl a1), some (.inl a2), some (.inl q1.1), some (.inl (Md_queueOf q1.1))], [.inl (q1.2 122 (Md_queueOf q1.1).toNat), .inl (Md_queueOf q1.1), .inr (.inr 122)], q1.2) (if_pos hc) ?_
      refine ev_runs 2 (27, [some (.inr (.inr 92)), some (.inl a1), some (.inl a2), some (.inl q1.1), some (.inl (Md_queueOf q1.1))], [.inl (q1.2 122 (Md_queueOf q1.1).toNat), .inl (Md_queueOf q1.1), .inr (.inr 122)], q1.2) (31, [some (.inr (.inr 92)), some (.inl a1), some (.inl a2), some (.inl q1.1), some (.inl (Md_queueOf q1.1))], [.inl 20000, .inl q1.1, .inl (q1.2 122 (Md_queueOf q1.1).toNat), .inl (Md_queueOf q1.1), .inr (.inr 122)], q1.2) rfl ?_
      obtain ⟨y2, hy2, h⟩ := lett_inv h
      have hjy2 : Ev 151 39 [some (.inr (.inr 92)), some (.inl a1), none, none, some (.inl (Md_queueOf q1.1))] [.inl y2, .inl (q1.2 122 (Md_queueOf q1.1).toNat), .inl (Md_queueOf q1.1), .inr (.inr 122)] q1.2 none g' := by
        refine ev_runs 1 (39, [some (.inr (.inr 92)), some (.inl a1), none, none, some (.inl (Md_queueOf q1.1))], [.inl y2, .inl (q1.2 122 (Md_queueOf q1.1).toNat), .inl (Md_queueOf q1.1), .inr (.inr 122)], q1.2) (40, [some (.inr (.inr 92)), some (.inl a1), none, none, some (.inl (Md_queueOf q1.1))], [.inl (wr ((q1.2 122 (Md_queueOf q1.1).toNat) + y2)), .inl (Md_queueOf q1.1), .inr (.inr 122)], q1.2) rfl ?_
        by_cases hc : 0 ≤ (Md_queueOf q1.1) ∧ (Md_queueOf q1.1) < 36
        · rw [if_pos hc] at h
          refine es (41, [some (.inr (.inr 92)), some (.inl a1), none, none, some (.inl (Md_queueOf q1.1))], [], (gset q1.2 122 ((Md_queueOf q1.1).toNat) (wr ((q1.2 122 (Md_queueOf q1.1).toNat) + y2)))) (if_pos hc) ?_
          refine ev_runs 4 (41, [some (.inr (.inr 92)), some (.inl a1), none, none, some (.inl (Md_queueOf q1.1))], [], (gset q1.2 122 ((Md_queueOf q1.1).toNat) (wr ((q1.2 122 (Md_queueOf q1.1).toNat) + y2)))) (48, [some (.inr (.inr 92)), some (.inl a1), none, none, some (.inl (Md_queueOf q1.1))], [.inl (Md_queueOf q1.1), .inr (.inr 122), .inr (.inr 92)], (gset q1.2 122 ((Md_queueOf q1.1).toNat) (wr ((q1.2 122 (Md_queueOf q1.1).toNat) + y2)))) rfl ?_
          by_cases hc : 0 ≤ (Md_queueOf q1.1) ∧ (Md_queueOf q1.1) < 36
          · rw [if_pos hc] at h
            refine es (49, [some (.inr (.inr 92)), some (.inl a1), none, none, some (.inl (Md_queueOf q1.1))], [.inl ((gset q1.2 122 ((Md_queueOf q1.1).toNat) (wr ((q1.2 122 (Md_queueOf q1.1).toNat) + y2))) 122 (Md_queueOf q1.1).toNat), .inr (.inr 92)], (gset q1.2 122 ((Md_queueOf q1.1).toNat) (wr ((q1.2 122 (Md_queueOf q1.1).toNat) + y2)))) (if_pos hc) ?_
            refine ev_runs 2 (49, [some (.inr (.inr 92)), some (.inl a1), none, none, some (.inl (Md_queueOf q1.1))], [.inl ((gset q1.2 122 ((Md_queueOf q1.1).toNat) (wr ((q1.2 122 (Md_queueOf q1.1).toNat) + y2))) 122 (Md_queueOf q1.1).toNat), .inr (.inr 92)], (gset q1.2 122 ((Md_queueOf q1.1).toNat) (wr ((q1.2 122 (Md_queueOf q1.1).toNat) + y2)))) (53, [some (.inr (.inr 92)), some (.inl a1), none, none, some (.inl (Md_queueOf q1.1))], [.inl (q1.2 92 44), .inl ((gset q1.2 122 ((Md_queueOf q1.1).toNat) (wr ((q1.2 122 (Md_queueOf q1.1).toNat) + y2))) 122 (Md_queueOf q1.1).toNat), .inr (.inr 92)], (gset q1.2 122 ((Md_queueOf q1.1).toNat) (wr ((q1.2 122 (Md_queueOf q1.1).toNat) + y2)))) rfl ?_
            by_cases hc : ((gset q1.2 122 ((Md_queueOf q1.1).toNat) (wr ((q1.2 122 (Md_queueOf q1.1).toNat) + y2))) 122 (Md_queueOf q1.1).toNat) ≤ (q1.2 92 44)
            · rw [if_pos hc] at h
              refine es (66, [some (.inr (.inr 92)), some (.inl a1), none, none, some (.inl (Md_queueOf q1.1))], [.inr (.inr 92)], (gset q1.2 122 ((Md_queueOf q1.1).toNat) (wr ((q1.2 122 (Md_queueOf q1.1).toNat) + y2)))) (congrArg some (if_pos hc)) ?_
              refine ev_runs 7 (66, [some (.inr (.inr 92)), some (.inl a1), none, none, some (.inl (Md_queueOf q1.1))], [.inr (.inr 92)], (gset q1.2 122 ((Md_queueOf q1.1).toNat) (wr ((q1.2 122 (Md_queueOf q1.1).toNat) + y2)))) (79, [some (.inr (.inr 92)), some (.inl a1), none, none, some (.inl (Md_queueOf q1.1))], [.inl a1, .inr (.inr 121), .inl a1, .inr (.inr 121)], (gset (gset q1.2 122 ((Md_queueOf q1.1).toNat) (wr ((q1.2 122 (Md_queueOf q1.1).toNat) + y2))) 92 44 (q1.2 92 44))) rfl ?_
              by_cases hc : 0 ≤ a1 ∧ a1 < 6
              · rw [if_pos hc] at h
                refine es (80, [some (.inr (.inr 92)), some (.inl a1), none, none, some (.inl (Md_queueOf q1.1))], [.inl (q1.2 121 a1.toNat), .inl a1, .inr (.inr 121)], (gset (gset q1.2 122 ((Md_queueOf q1.1).toNat) (wr ((q1.2 122 (Md_queueOf q1.1).toNat) + y2))) 92 44 (q1.2 92 44))) (if_pos hc) ?_
                refine ev_runs 2 (80, [some (.inr (.inr 92)), some (.inl a1), none, none, some (.inl (Md_queueOf q1.1))], [.inl (q1.2 121 a1.toNat), .inl a1, .inr (.inr 121)], (gset (gset q1.2 122 ((Md_queueOf q1.1).toNat) (wr ((q1.2 122 (Md_queueOf q1.1).toNat) + y2))) 92 44 (q1.2 92 44))) (82, [some (.inr (.inr 92)), some (.inl a1), none, none, some (.inl (Md_queueOf q1.1))], [.inl (wr ((q1.2 121 a1.toNat) + 1)), .inl a1, .inr (.inr 121)], (gset (gset q1.2 122 ((Md_queueOf q1.1).toNat) (wr ((q1.2 122 (Md_queueOf q1.1).toNat) + y2))) 92 44 (q1.2 92 44))) rfl ?_
                by_cases hc : 0 ≤ a1 ∧ a1 < 6
                · rw [if_pos hc] at h
                  refine es (83, [some (.inr (.inr 92)), some (.inl a1), none, none, some (.inl (Md_queueOf q1.1))], [], (gset (gset (gset q1.2 122 ((Md_queueOf q1.1).toNat) (wr ((q1.2 122 (Md_queueOf q1.1).toNat) + y2))) 92 44 (q1.2 92 44)) 121 a1.toNat (wr ((q1.2 121 a1.toNat) + 1)))) (if_pos hc) ?_
                  cases h
                  exact er rfl
                · rw [if_neg hc] at h; cases h
              · rw [if_neg hc] at h; cases h
            · rw [if_neg hc] at h
              refine es (56, [some (.inr (.inr 92)), some (.inl a1), none, none, some (.inl (Md_queueOf q1.1))], [.inr (.inr 92)], (gset q1.2 122 ((Md_queueOf q1.1).toNat) (wr ((q1.2 122 (Md_queueOf q1.1).toNat) + y2)))) (congrArg some (if_neg hc)) ?_
              refine ev_runs 3 (56, [some (.inr (.inr 92)), some (.inl a1), none, none, some (.inl (Md_queueOf q1.1))], [.inr (.inr 92)], (gset q1.2 122 ((Md_queueOf q1.1).toNat) (wr ((q1.2 122 (Md_queueOf q1.1).toNat) + y2)))) (62, [some (.inr (.inr 92)), some (.inl a1), none, none, some (.inl (Md_queueOf q1.1))], [.inl (Md_queueOf q1.1), .inr (.inr 122), .inr (.inr 92)], (gset q1.2 122 ((Md_queueOf q1.1).toNat) (wr ((q1.2 122 (Md_queueOf q1.1).toNat) + y2)))) rfl ?_
              by_cases hc : 0 ≤ (Md_queueOf q1.1) ∧ (Md_queueOf q1.1) < 36
              · rw [if_pos hc] at h
                refine es (63, [some (.inr (.inr 92)), some (.inl a1), none, none, some (.inl (Md_queueOf q1.1))], [.inl ((gset q1.2 122 ((Md_queueOf q1.1).toNat) (wr ((q1.2 122 (Md_queueOf q1.1).toNat) + y2))) 122 (Md_queueOf q1.1).toNat), .inr (.inr 92)], (gset q1.2 122 ((Md_queueOf q1.1).toNat) (wr ((q1.2 122 (Md_queueOf q1.1).toNat) + y2)))) (if_pos hc) ?_
                refine ev_runs 6 (63, [some (.inr (.inr 92)), some (.inl a1), none, none, some (.inl (Md_queueOf q1.1))], [.inl ((gset q1.2 122 ((Md_queueOf q1.1).toNat) (wr ((q1.2 122 (Md_queueOf q1.1).toNat) + y2))) 122 (Md_queueOf q1.1).toNat), .inr (.inr 92)], (gset q1.2 122 ((Md_queueOf q1.1).toNat) (wr ((q1.2 122 (Md_queueOf q1.1).toNat) + y2)))) (79, [some (.inr (.inr 92)), some (.inl a1), none, none, some (.inl (Md_queueOf q1.1))], [.inl a1, .inr (.inr 121), .inl a1, .inr (.inr 121)], (gset (gset q1.2 122 ((Md_queueOf q1.1).toNat) (wr ((q1.2 122 (Md_queueOf q1.1).toNat) + y2))) 92 44 ((gset q1.2 122 ((Md_queueOf q1.1).toNat) (wr ((q1.2 122 (Md_queueOf q1.1).toNat) + y2))) 122 (Md_queueOf q1.1).toNat))) rfl ?_
                by_cases hc : 0 ≤ a1 ∧ a1 < 6
                · rw [if_pos hc] at h
                  refine es (80, [some (.inr (.inr 92)), some (.inl a1), none, none, some (.inl (Md_queueOf q1.1))], [.inl (q1.2 121 a1.toNat), .inl a1, .inr (.inr 121)], (gset (gset q1.2 122 ((Md_queueOf q1.1).toNat) (wr ((q1.2 122 (Md_queueOf q1.1).toNat) + y2))) 92 44 ((gset q1.2 122 ((Md_queueOf q1.1).toNat) (wr ((q1.2 122 (Md_queueOf q1.1).toNat) + y2))) 122 (Md_queueOf q1.1).toNat))) (if_pos hc) ?_
                  refine ev_runs 2 (80, [some (.inr (.inr 92)), some (.inl a1), none, none, some (.inl (Md_queueOf q1.1))], [.inl (q1.2 121 a1.toNat), .inl a1, .inr (.inr 121)], (gset (gset q1.2 122 ((Md_queueOf q1.1).toNat) (wr ((q1.2 122 (Md_queueOf q1.1).toNat) + y2))) 92 44 ((gset q1.2 122 ((Md_queueOf q1.1).toNat) (wr ((q1.2 122 (Md_queueOf q1.1).toNat) + y2))) 122 (Md_queueOf q1.1).toNat))) (82, [some (.inr (.inr 92)), some (.inl a1), none, none, some (.inl (Md_queueOf q1.1))], [.inl (wr ((q1.2 121 a1.toNat) + 1)), .inl a1, .inr (.inr 121)], (gset (gset q1.2 122 ((Md_queueOf q1.1).toNat) (wr ((q1.2 122 (Md_queueOf q1.1).toNat) + y2))) 92 44 ((gset q1.2 122 ((Md_queueOf q1.1).toNat) (wr ((q1.2 122 (Md_queueOf q1.1).toNat) + y2))) 122 (Md_queueOf q1.1).toNat))) rfl ?_
                  by_cases hc : 0 ≤ a1 ∧ a1 < 6
                  · rw [if_pos hc] at h
                    refine es (83, [some (.inr (.inr 92)), some (.inl a1), none, none, some (.inl (Md_queueOf q1.1))], [], (gset (gset (gset q1.2 122 ((Md_queueOf q1.1).toNat) (wr ((q1.2 122 (Md_queueOf q1.1).toNat) + y2))) 92 44 ((gset q1.2 122 ((Md_queueOf q1.1).toNat) (wr ((q1.2 122 (Md_queueOf q1.1).toNat) + y2))) 122 (Md_queueOf q1.1).toNat)) 121 a1.toNat (wr ((q1.2 121 a1.toNat) + 1)))) (if_pos hc) ?_
                    cases h
                    exact er rfl
                  · rw [if_neg hc] at h; cases h
                · rw [if_neg hc] at h; cases h
              · rw [if_neg hc] at h; cases h
          · rw [if_neg hc] at h; cases h
        · rw [if_neg hc] at h; cases h
      by_cases hc : 20000 ≤ q1.1
      · rw [if_pos hc] at hy2
        refine es (38, [some (.inr (.inr 92)), some (.inl a1), some (.inl a2), some (.inl q1.1), some (.inl (Md_queueOf q1.1))], [.inl (q1.2 122 (Md_queueOf q1.1).toNat), .inl (Md_queueOf q1.1), .inr (.inr 122)], q1.2) (congrArg some (if_pos hc)) ?_
        refine ev_runs 1 (38, [some (.inr (.inr 92)), some (.inl a1), some (.inl a2), some (.inl q1.1), some (.inl (Md_queueOf q1.1))], [.inl (q1.2 122 (Md_queueOf q1.1).toNat), .inl (Md_queueOf q1.1), .inr (.inr 122)], q1.2) (39, [some (.inr (.inr 92)), some (.inl a1), some (.inl a2), some (.inl q1.1), some (.inl (Md_queueOf q1.1))], [.inl (-1), .inl (q1.2 122 (Md_queueOf q1.1).toNat), .inl (Md_queueOf q1.1), .inr (.inr 122)], q1.2) rfl ?_
        rw [hy2] at hjy2
        exact ev_le (L := [some (.inr (.inr 92)), some (.inl a1), none, none, some (.inl (Md_queueOf q1.1))]) (by simp [Lle]) hjy2
      · rw [if_neg hc] at hy2
        refine es (34, [some (.inr (.inr 92)), some (.inl a1), some (.inl a2), some (.inl q1.1), some (.inl (Md_queueOf q1.1))], [.inl (q1.2 122 (Md_queueOf q1.1).toNat), .inl (Md_queueOf q1.1), .inr (.inr 122)], q1.2) (congrArg some (if_neg hc)) ?_
        refine ev_runs 2 (34, [some (.inr (.inr 92)), some (.inl a1), some (.inl a2), some (.inl q1.1), some (.inl (Md_queueOf q1.1))], [.inl (q1.2 122 (Md_queueOf q1.1).toNat), .inl (Md_queueOf q1.1), .inr (.inr 122)], q1.2) (39, [some (.inr (.inr 92)), some (.inl a1), some (.inl a2), some (.inl q1.1), some (.inl (Md_queueOf q1.1))], [.inl 1, .inl (q1.2 122 (Md_queueOf q1.1).toNat), .inl (Md_queueOf q1.1), .inr (.inr 122)], q1.2) rfl ?_
        rw [hy2] at hjy2
        exact ev_le (L := [some (.inr (.inr 92)), some (.inl a1), none, none, some (.inl (Md_queueOf q1.1))]) (by simp [Lle]) hjy2
    · rw [if_neg hc] at h; cases h
  · rw [if_neg hc] at h; cases h
set_option maxRecDepth 100000 in
set_option maxHeartbeats 4000000 in
theorem ev_Md_runs_l24 (c1 : Int) (c3 : Int) (K24_59 : Int → Gx → Option Gx) (hK24_59 : ∀ (x4 : Int) (g : Gx) (g' : Gx), K24_59 x4 g = some g' → Ev 152 59 [some (.inr (.inr 92)), some (.inl c1), none, some (.inl c3), some (.inl x4), none, none] [] g none g') : ∀ (n24 : Nat) (v4 v5 : Int) (g : Gx) (g' : Gx), Md_runs_l24 c1 c3 K24_59 n24 v4 v5 g = some g' → Ev 152 24 [some (.inr (.inr 92)), some (.inl c1), none, some (.inl c3), some (.inl v4), some (.inl v5), none] [] g none g' := by
  intro n24
  induction n24 with
  | zero => intro v4 v5 g g' h; cases h
  | succ n24 ih24 =>
    intro v4 v5 g g' h
    rw [Md_runs_l24] at h
    refine ev_runs 2 (24, [some (.inr (.inr 92)), some (.inl c1), none, some (.inl c3), some (.inl v4), some (.inl v5), none], [], g) (28, [some (.inr (.inr 92)), some (.inl c1), none, some (.inl c3), some (.inl v4), some (.inl v5), none], [.inl 6, .inl v5], g) rfl ?_
    by_cases hc : 6 ≤ v5
    · rw [if_pos hc] at h
      refine es (59, [some (.inr (.inr 92)), some (.inl c1), none, some (.inl c3), some (.inl v4), some (.inl v5), none], [], g) (congrArg some (if_pos hc)) ?_
      exact ev_le (L := [some (.inr (.inr 92)), some (.inl c1), none, some (.inl c3), some (.inl v4), none, none]) (by simp [Lle]) (hK24_59 v4 g g' h)
    · rw [if_neg hc] at h
      refine es (31, [some (.inr (.inr 92)), some (.inl c1), none, some (.inl c3), some (.inl v4), some (.inl v5), none], [], g) (congrArg some (if_neg hc)) ?_
      refine ev_runs 5 (31, [some (.inr (.inr 92)), some (.inl c1), none, some (.inl c3), some (.inl v4), some (.inl v5), none], [], g) (39, [some (.inr (.inr 92)), some (.inl c1), none, some (.inl c3), some (.inl v4), some (.inl v5), none], [.inl 48, .inl c1, .inl v5, .inr (.inr 92), .inl v4], g) rfl ?_
      obtain ⟨q3, hq, h⟩ := Option.bind_eq_some_iff.mp h
      refine ec 150 42 [.inr (.inr 92), .inl v5, .inl c1, .inl 48] [.inl v4] rfl (ev_Md_can v5 c1 48 g q3.1 q3.2 hq) ?_
      show Ev 152 42 [some (.inr (.inr 92)), some (.inl c1), none, some (.inl c3), some (.inl v4), some (.inl v5), none] [.inl q3.1, .inl v4] q3.2 _ _
      by_cases hc : q3.1 = 0
      · rw [if_pos hc] at h
        refine es (49, [some (.inr (.inr 92)), some (.inl c1), none, some (.inl c3), some (.inl v4), some (.inl v5), none], [.inl v4], q3.2) (congrArg some (if_pos hc)) ?_
        refine ev_runs 5 (49, [some (.inr (.inr 92)), some (.inl c1), none, some (.inl c3), some (.inl v4), some (.inl v5), none], [.inl v4], q3.2) (24, [some (.inr (.inr 92)), some (.inl c1), none, some (.inl c3), some (.inl (wr (v4 + 0))), some (.inl (wr (v5 + 1))), none], [], q3.2) rfl ?_
        exact ev_le (L := [some (.inr (.inr 92)), some (.inl c1), none, some (.inl c3), some (.inl (wr (v4 + 0))), some (.inl (wr (v5 + 1))), none]) (by simp [Lle]) (ih24 (wr (v4 + 0)) (wr (v5 + 1)) q3.2 g' h)
      · rw [if_neg hc] at h
        refine es (45, [some (.inr (.inr 92)), some (.inl c1), none, some (.inl c3), some (.inl v4), some (.inl v5), none], [.inl v4], q3.2) (congrArg some (if_neg hc)) ?_
        refine ev_runs 6 (45, [some (.inr (.inr 92)), some (.inl c1), none, some (.inl c3), some (.inl v4), some (.inl v5), none], [.inl v4], q3.2) (24, [some (.inr (.inr 92)), some (.inl c1), none, some (.inl c3), some (.inl (wr (v4 + 1))), some (.inl (wr (v5 + 1))), none], [], q3.2) rfl ?_
        exact ev_le (L := [some (.inr (.inr 92)), some (.inl c1), none, some (.inl c3), some (.inl (wr (v4 + 1))), some (.inl (wr (v5 + 1))), none]) (by simp [Lle]) (ih24 (wr (v4 + 1)) (wr (v5 + 1)) q3.2 g' h)
set_option maxRecDepth 100000 in
set_option maxHeartbeats 4000000 in
theorem ev_Md_runs_l86 (c1 : Int) (c3 : Int) (c4 : Int) (K86_131 : Int → Gx → Option Gx) (hK86_131 : ∀ (x6 : Int) (g : Gx) (g' : Gx), K86_131 x6 g = some g' → Ev 152 131 [some (.inr (.inr 92)), some (.inl c1), none, some (.inl c3), some (.inl c4), none, some (.inl x6)] [] g none g') : ∀ (n86 : Nat) (v5 v6 : Int) (g : Gx) (g' : Gx), Md_runs_l86 c1 c3 c4 K86_131 n86 v5 v6 g = some g' → Ev 152 86 [some (.inr (.inr 92)), some (.inl c1), none, some (.inl c3), some (.inl c4), some (.inl v5), some (.inl v6)] [] g none g' := by
  intro n86
  induction n86 with
  | zero => intro v5 v6 g g' h; cases h
  | succ n86 ih86 =>
    intro v5 v6 g g' h
    rw [Md_runs_l86] at h
    refine ev_runs 1 (86, [some (.inr (.inr 92)), some (.inl c1), none, some (.inl c3), some (.inl c4), some (.inl v5), some (.inl v6)], [], g) (88, [some (.inr (.inr 92)), some (.inl c1), none, some (.inl c3), some (.inl c4), some (.inl v5), some (.inl v6)], [.inl v5], g) rfl ?_
    by_cases hc : 0 < v5
    · rw [if_pos hc] at h
      refine es (103, [some (.inr (.inr 92)), some (.inl c1), none, some (.inl c3), some (.inl c4), some (.inl v5), some (.inl v6)], [], g) (congrArg some (if_pos hc)) ?_
      refine ev_runs 5 (103, [some (.inr (.inr 92)), some (.inl c1), none, some (.inl c3), some (.inl c4), some (.inl v5), some (.inl v6)], [], g) (111, [some (.inr (.inr 92)), some (.inl c1), none, some (.inl c3), some (.inl c4), some (.inl v5), some (.inl v6)], [.inl 48, .inl c1, .inl v6, .inr (.inr 92), .inl v5], g) rfl ?_
      obtain ⟨q6, hq, h⟩ := Option.bind_eq_some_iff.mp h
      refine ec 150 114 [.inr (.inr 92), .inl v6, .inl c1, .inl 48] [.inl v5] rfl (ev_Md_can v6 c1 48 g q6.1 q6.2 hq) ?_
      show Ev 152 114 [some (.inr (.inr 92)), some (.inl c1), none, some (.inl c3), some (.inl c4), some (.inl v5), some (.inl v6)] [.inl q6.1, .inl v5] q6.2 _ _
      by_cases hc : q6.1 = 0
      · rw [if_pos hc] at h
        refine es (121, [some (.inr (.inr 92)), some (.inl c1), none, some (.inl c3), some (.inl c4), some (.inl v5), some (.inl v6)], [.inl v5], q6.2) (congrArg some (if_pos hc)) ?_
        refine ev_runs 5 (121, [some (.inr (.inr 92)), some (.inl c1), none, some (.inl c3), some (.inl c4), some (.inl v5), some (.inl v6)], [.inl v5], q6.2) (86, [some (.inr (.inr 92)), some (.inl c1), none, some (.inl c3), some (.inl c4), some (.inl (wr (v5 - 0))), some (.inl (wr (v6 + 1)))], [], q6.2) rfl ?_
        exact ev_le (L := [some (.inr (.inr 92)), some (.inl c1), none, some (.inl c3), some (.inl c4), some (.inl (wr (v5 - 0))), some (.inl (wr (v6 + 1)))]) (by simp [Lle]) (ih86 (wr (v5 - 0)) (wr (v6 + 1)) q6.2 g' h)
      · rw [if_neg hc] at h
        refine es (117, [some (.inr (.inr 92)), some (.inl c1), none, some (.inl c3), some (.inl c4), some (.inl v5), some (.inl v6)], [.inl v5], q6.2) (congrArg some (if_neg hc)) ?_
        refine ev_runs 6 (117, [some (.inr (.inr 92)), some (.inl c1), none, some (.inl c3), some (.inl c4), some (.inl v5), some (.inl v6)], [.inl v5], q6.2) (86, [some (.inr (.inr 92)), some (.inl c1), none, some (.inl c3), some (.inl c4), some (.inl (wr (v5 - 1))), some (.inl (wr (v6 + 1)))], [], q6.2) rfl ?_
        exact ev_le (L := [some (.inr (.inr 92)), some (.inl c1), none, some (.inl c3), some (.inl c4), some (.inl (wr (v5 - 1))), some (.inl (wr (v6 + 1)))]) (by simp [Lle]) (ih86 (wr (v5 - 1)) (wr (v6 + 1)) q6.2 g' h)
    · rw [if_neg hc] at h
      refine es (91, [some (.inr (.inr 92)), some (.inl c1), none, some (.inl c3), some (.inl c4), some (.inl v5), some (.inl v6)], [], g) (congrArg some (if_neg hc)) ?_
      refine ev_runs 4 (91, [some (.inr (.inr 92)), some (.inl c1), none, some (.inl c3), some (.inl c4), some (.inl v5), some (.inl v6)], [], g) (97, [some (.inr (.inr 92)), some (.inl c1), none, some (.inl c3), some (.inl c4), some (.inl v5), some (.inl v6)], [.inl 48, .inl c1, .inl v6, .inr (.inr 92)], g) rfl ?_
      obtain ⟨q7, hq, h⟩ := Option.bind_eq_some_iff.mp h
      refine ec 150 100 [.inr (.inr 92), .inl v6, .inl c1, .inl 48] [] rfl (ev_Md_can v6 c1 48 g q7.1 q7.2 hq) ?_
      show Ev 152 100 [some (.inr (.inr 92)), some (.inl c1), none, some (.inl c3), some (.inl c4), some (.inl v5), some (.inl v6)] [.inl q7.1] q7.2 _ _
      by_cases hc : ¬ q7.1 = 0
      · rw [if_pos hc] at h
        refine es (131, [some (.inr (.inr 92)), some (.inl c1), none, some (.inl c3), some (.inl c4), some (.inl v5), some (.inl v6)], [], q7.2) (congrArg some (if_pos hc)) ?_
        exact ev_le (L := [some (.inr (.inr 92)), some (.inl c1), none, some (.inl c3), some (.inl c4), none, some (.inl v6)]) (by simp [Lle]) (hK86_131 v6 q7.2 g' h)
      · rw [if_neg hc] at h
        refine es (103, [some (.inr (.inr 92)), some (.inl c1), none, some (.inl c3), some (.inl c4), some (.inl v5), some (.inl v6)], [], q7.2) (congrArg some (if_neg hc)) ?_
        refine ev_runs 5 (103, [some (.inr (.inr 92)), some (.inl c1), none, some (.inl c3), some (.inl c4), some (.inl v5), some (.inl v6)], [], q7.2) (111, [some (.inr (.inr 92)), some (.inl c1), none, some (.inl c3), some (.inl c4), some (.inl v5), some (.inl v6)], [.inl 48, .inl c1, .inl v6, .inr (.inr 92), .inl v5], q7.2) rfl ?_
        obtain ⟨q8, hq, h⟩ := Option.bind_eq_some_iff.mp h
        refine ec 150 114 [.inr (.inr 92), .inl v6, .inl c1, .inl 48] [.inl v5] rfl (ev_Md_can v6 c1 48 q7.2 q8.1 q8.2 hq) ?_
        show Ev 152 114 [some (.inr (.inr 92)), some (.inl c1), none, some (.inl c3), some (.inl c4), some (.inl v5), some (.inl v6)] [.inl q8.1, .inl v5] q8.2 _ _
        by_cases hc : q8.1 = 0
        · rw [if_pos hc] at h
          refine es (121, [some (.inr (.inr 92)), some (.inl c1), none, some (.inl c3), some (.inl c4), some (.inl v5), some (.inl v6)], [.inl v5], q8.2) (congrArg some (if_pos hc)) ?_
          refine ev_runs 5 (121, [some (.inr (.inr 92)), some (.inl c1), none, some (.inl c3), some (.inl c4), some (.inl v5), some (.inl v6)], [.inl v5], q8.2) (86, [some (.inr (.inr 92)), some (.inl c1), none, some (.inl c3), some (.inl c4), some (.inl (wr (v5 - 0))), some (.inl (wr (v6 + 1)))], [], q8.2) rfl ?_
          exact ev_le (L := [some (.inr (.inr 92)), some (.inl c1), none, some (.inl c3), some (.inl c4), some (.inl (wr (v5 - 0))), some (.inl (wr (v6 + 1)))]) (by simp [Lle]) (ih86 (wr (v5 - 0)) (wr (v6 + 1)) q8.2 g' h)
        · rw [if_neg hc] at h
          refine es (117, [some (.inr (.inr 92)), some (.inl c1), none, some (.inl c3), some (.inl c4), some (.inl v5), some (.inl v6)], [.inl v5], q8.2) (congrArg some (if_neg hc)) ?_
          refine ev_runs 6 (117, [some (.inr (.inr 92)), some (.inl c1), none, some (.inl c3), some (.inl c4), some (.inl v5), some (.inl v6)], [.inl v5], q8.2) (86, [some (.inr (.inr 92)), some (.inl c1), none, some (.inl c3), some (.inl c4), some (.inl (wr (v5 - 1))), some (.inl (wr (v6 + 1)))], [], q8.2) rfl ?_
          exact ev_le (L := [some (.inr (.inr 92)), some (.inl c1), none, some (.inl c3), some (.inl c4), some (.inl (wr (v5 - 1))), some (.inl (wr (v6 + 1)))]) (by simp [Lle]) (ih86 (wr (v5 - 1)) (wr (v6 + 1)) q8.2 g' h)
set_option maxRecDepth 100000 in
set_option maxHeartbeats 4000000 in
theorem ev_Md_runs_l13 (c1 : Int) (K13_162 : Gx → Option Gx) (hK13_162 : ∀ (g : Gx) (g' : Gx), K13_162 g = some g' → Ev 152 162 [none, none, none, none, none, none, none] [] g none g') : ∀ (n13 : Nat) (v3 v4 : Int) (g : Gx) (g' : Gx), Md_runs_l13 c1 K13_162 n13 v3 v4 g = some g' → Ev 152 13 [some (.inr (.inr 92)), some (.inl c1), none, some (.inl v3), some (.inl v4), none, none] [] g none g' := by
  intro n13
  induction n13 with
  | zero => intro v3 v4 g g' h; cases h
  | succ n13 ih13 =>
    intro v3 v4 g g' h
    rw [Md_runs_l13] at h
    refine ev_runs 1 (13, [some (.inr (.inr 92)), some (.inl c1), none, some (.inl v3), some (.inl v4), none, none], [], g) (15, [some (.inr (.inr 92)), some (.inl c1), none, some (.inl v3), some (.inl v4), none, none], [.inl v4], g) rfl ?_
    by_cases hc : v4 ≤ 0
    · rw [if_pos hc] at h
      refine es (162, [some (.inr (.inr 92)), some (.inl c1), none, some (.inl v3), some (.inl v4), none, none], [], g) (congrArg some (if_pos hc)) ?_
      exact ev_le (L := [none, none, none, none, none, none, none]) (by simp [Lle]) (hK13_162 g g' h)
    · rw [if_neg hc] at h
      refine es (18, [some (.inr (.inr 92)), some (.inl c1), none, some (.inl v3), some (.inl v4), none, none], [], g) (congrArg some (if_neg hc)) ?_
      refine ev_runs 4 (18, [some (.inr (.inr 92)), some (.inl c1), none, some (.inl v3), some (.inl v4), none, none], [], g) (24, [some (.inr (.inr 92)), some (.inl c1), none, some (.inl v3), some (.inl 0), some (.inl 0), none], [], g) rfl ?_
      refine ev_le (L := [some (.inr (.inr 92)), some (.inl c1), none, some (.inl v3), some (.inl 0), some (.inl 0), none]) (by simp [Lle]) ?_
      refine ev_Md_runs_l24 c1 v3 _ ?_ fu 0 0 g g' h
      · intro x4 g5 g' h
        refine ev_runs 1 (59, [some (.inr (.inr 92)), some (.inl c1), none, some (.inl v3), some (.inl x4), none, none], [], g5) (61, [some (.inr (.inr 92)), some (.inl c1), none, some (.inl v3), some (.inl x4), none, none], [.inl x4], g5) rfl ?_
        by_cases hc : x4 ≤ 0
        · rw [if_pos hc] at h
          refine es (13, [some (.inr (.inr 92)), some (.inl c1), none, some (.inl v3), some (.inl x4), none, none], [], g5) (congrArg some (if_pos hc)) ?_
          exact ev_le (L := [some (.inr (.inr 92)), some (.inl c1), none, some (.inl v3), some (.inl x4), none, none]) (by simp [Lle]) (ih13 v3 x4 g5 g' h)
        · rw [if_neg hc] at h
          refine es (64, [some (.inr (.inr 92)), some (.inl c1), none, some (.inl v3), some (.inl x4), none, none], [], g5) (congrArg some (if_neg hc)) ?_
          refine ev_runs 10 (64, [some (.inr (.inr 92)), some (.inl c1), none, some (.inl v3), some (.inl x4), none, none], [], g5) (80, [some (.inr (.inr 92)), some (.inl c1), none, some (.inl (wr ((wr (1103515245 * v3)) + 12345))), some (.inl x4), none, none], [.inl x4, .inl (jushr (wr ((wr (1103515245 * v3)) + 12345)) 16)], g5) rfl ?_
          by_cases hc : x4 = 0
          · rw [if_pos hc] at h; cases h
          · rw [if_neg hc] at h
            refine es (81, [some (.inr (.inr 92)), some (.inl c1), none, some (.inl (wr ((wr (1103515245 * v3)) + 12345))), some (.inl x4), none, none], [.inl (jrem (jushr (wr ((wr (1103515245 * v3)) + 12345)) 16) x4)], g5) (if_neg hc) ?_
            refine ev_runs 3 (81, [some (.inr (.inr 92)), some (.inl c1), none, some (.inl (wr ((wr (1103515245 * v3)) + 12345))), some (.inl x4), none, none], [.inl (jrem (jushr (wr ((wr (1103515245 * v3)) + 12345)) 16) x4)], g5) (86, [some (.inr (.inr 92)), some (.inl c1), none, some (.inl (wr ((wr (1103515245 * v3)) + 12345))), some (.inl x4), some (.inl (jrem (jushr (wr ((wr (1103515245 * v3)) + 12345)) 16) x4)), some (.inl 0)], [], g5) rfl ?_
            refine ev_le (L := [some (.inr (.inr 92)), some (.inl c1), none, some (.inl (wr ((wr (1103515245 * v3)) + 12345))), some (.inl x4), some (.inl (jrem (jushr (wr ((wr (1103515245 * v3)) + 12345)) 16) x4)), some (.inl 0)]) (by simp [Lle]) ?_
            refine ev_Md_runs_l86 c1 (wr ((wr (1103515245 * v3)) + 12345)) x4 _ ?_ fu (jrem (jushr (wr ((wr (1103515245 * v3)) + 12345)) 16) x4) 0 g5 g' h
            · intro x9 g10 g' h
              refine ev_runs 3 (131, [some (.inr (.inr 92)), some (.inl c1), none, some (.inl (wr ((wr (1103515245 * v3)) + 12345))), some (.inl x4), none, some (.inl x9)], [], g10) (135, [some (.inr (.inr 92)), some (.inl c1), none, some (.inl (wr ((wr (1103515245 * v3)) + 12345))), some (.inl x4), none, some (.inl x9)], [.inl c1, .inl x9, .inr (.inr 92)], g10) rfl ?_
              obtain ⟨g11, hq, h⟩ := Option.bind_eq_some_iff.mp h
              refine ec 151 138 [.inr (.inr 92), .inl x9, .inl c1] [] rfl (ev_Md_does x9 c1 g10 g11 hq) ?_
              show Ev 152 138 [some (.inr (.inr 92)), some (.inl c1), none, some (.inl (wr ((wr (1103515245 * v3)) + 12345))), some (.inl x4), none, some (.inl x9)] [] g11 _ _
              refine ev_runs 5 (138, [some (.inr (.inr 92)), some (.inl c1), none, some (.inl (wr ((wr (1103515245 * v3)) + 12345))), some (.inl x4), none, some (.inl x9)], [], g11) (148, [some (.inr (.inr 92)), some (.inl c1), none, some (.inl (wr ((wr (1103515245 * v3)) + 12345))), some (.inl x4), none, some (.inl x9)], [.inl x9, .inl (g11 92 43), .inr (.inr 123)], g11) rfl ?_
              by_cases hc : 0 ≤ (g11 92 43) ∧ (g11 92 43) < 48
              · rw [if_pos hc] at h
                refine es (149, [some (.inr (.inr 92)), some (.inl c1), none, some (.inl (wr ((wr (1103515245 * v3)) + 12345))), some (.inl x4), none, some (.inl x9)], [], (gset g11 123 ((g11 92 43).toNat) x9)) (if_pos hc) ?_
                refine ev_runs 7 (149, [some (.inr (.inr 92)), some (.inl c1), none, some (.inl (wr ((wr (1103515245 * v3)) + 12345))), some (.inl x4), none, some (.inl x9)], [], (gset g11 123 ((g11 92 43).toNat) x9)) (13, [some (.inr (.inr 92)), some (.inl c1), none, some (.inl (wr ((wr (1103515245 * v3)) + 12345))), some (.inl x4), none, some (.inl x9)], [], (gset (gset g11 123 ((g11 92 43).toNat) x9) 92 43 (wr ((g11 92 43) + 1)))) rfl ?_
                exact ev_le (L := [some (.inr (.inr 92)), some (.inl c1), none, some (.inl (wr ((wr (1103515245 * v3)) + 12345))), some (.inl x4), none, none]) (by simp [Lle]) (ih13 (wr ((wr (1103515245 * v3)) + 12345)) x4 (gset (gset g11 123 ((g11 92 43).toNat) x9) 92 43 (wr ((g11 92 43) + 1))) g' h)
              · rw [if_neg hc] at h; cases h
set_option maxRecDepth 100000 in
set_option maxHeartbeats 4000000 in
theorem ev_Md_runs (a1 a2 : Int) (g : Gx) (g' : Gx) (h : Md_runs a1 a2 g = some g') : Ev 152 0 [some (.inr (.inr 92)), some (.inl a1), some (.inl a2), none, none, none, none] [] g none g' := by
  rw [Md_runs] at h
  refine ev_runs 1 (0, [some (.inr (.inr 92)), some (.inl a1), some (.inl a2), none, none, none, none], [], g) (1, [some (.inr (.inr 92)), some (.inl a1), some (.inl a2), none, none, none, none], [.inr (.inr 92)], g) rfl ?_
  obtain ⟨g1, hq, h⟩ := Option.bind_eq_some_iff.mp h
  refine ec 101 4 [.inr (.inr 92)] [] rfl (ev_Md_findLooks g g1 hq) ?_
  show Ev 152 4 [some (.inr (.inr 92)), some (.inl a1), some (.inl a2), none, none, none, none] [] g1 _ _
  refine ev_runs 1 (4, [some (.inr (.inr 92)), some (.inl a1), some (.inl a2), none, none, none, none], [], g1) (5, [some (.inr (.inr 92)), some (.inl a1), some (.inl a2), none, none, none, none], [.inr (.inr 92)], g1) rfl ?_
  obtain ⟨g2, hq, h⟩ := Option.bind_eq_some_iff.mp h
  refine ec 148 8 [.inr (.inr 92)] [] rfl (ev_Md_begins g1 g2 hq) ?_
  show Ev 152 8 [some (.inr (.inr 92)), some (.inl a1), some (.inl a2), none, none, none, none] [] g2 _ _
  refine ev_runs 4 (8, [some (.inr (.inr 92)), some (.inl a1), some (.inl a2), none, none, none, none], [], g2) (13, [some (.inr (.inr 92)), some (.inl a1), some (.inl a2), some (.inl a2), some (.inl 1), none, none], [], g2) rfl ?_
  refine ev_le (L := [some (.inr (.inr 92)), some (.inl a1), none, some (.inl a2), some (.inl 1), none, none]) (by simp [Lle]) ?_
  refine ev_Md_runs_l13 a1 _ ?_ fu a2 1 g2 g' h
  · intro g12 g' h
    cases h
    exact er rfl
set_option maxRecDepth 100000 in
set_option maxHeartbeats 4000000 in
theorem ev_Md_run (a1 a2 a3 : Int) (g : Gx) (r : Int) (g' : Gx) (h : Md_run a1 a2 a3 g = some (r, g')) : Ev 153 0 [some (.inr (.inr 92)), some (.inl a1), some (.inl a2), some (.inl a3), none] [] g (some (.inl r)) g' := by
  rw [Md_run] at h
  refine ev_runs 1 (0, [some (.inr (.inr 92)), some (.inl a1), some (.inl a2), some (.inl a3), none], [], g) (1, [some (.inr (.inr 92)), some (.inl a1), some (.inl a2), some (.inl a3), none], [.inl a1], g) rfl ?_
  refine ec 87 4 [.inl a1] [] rfl (ev_Md_isHistory a1 g _ rfl) ?_
  show Ev 153 4 [some (.inr (.inr 92)), some (.inl a1), some (.inl a2), some (.inl a3), none] [.inl (Md_isHistory a1)] g _ _
  by_cases hc : (Md_isHistory a1) = 0
  · rw [if_pos hc] at h
    refine es (17, [some (.inr (.inr 92)), some (.inl a1), some (.inl a2), some (.inl a3), none], [], g) (congrArg some (if_pos hc)) ?_
    refine ev_runs 1 (17, [some (.inr (.inr 92)), some (.inl a1), some (.inl a2), some (.inl a3), none], [], g) (19, [some (.inr (.inr 92)), some (.inl a1), some (.inl a2), some (.inl a3), none], [.inl (-2)], g) rfl ?_
    cases h
    exact er rfl
  · rw [if_neg hc] at h
    refine es (7, [some (.inr (.inr 92)), some (.inl a1), some (.inl a2), some (.inl a3), none], [], g) (congrArg some (if_neg hc)) ?_
    refine ev_runs 4 (7, [some (.inr (.inr 92)), some (.inl a1), some (.inl a2), some (.inl a3), none], [], g) (11, [some (.inr (.inr 92)), some (.inl a1), some (.inl a2), some (.inl a3), none], [.inr (.inl 1), .inr (.inl 0), .inr (.inl a3)], g) rfl ?_
    refine ec 4 14 [.inr (.inl a3), .inr (.inl 0), .inr (.inl 1)] [] rfl (ev_Md_in a3 0 1 g _ rfl) ?_
    show Ev 153 14 [some (.inr (.inr 92)), some (.inl a1), some (.inl a2), some (.inl a3), none] [.inl (Md_in a3 0 1)] g _ _
    by_cases hc : ¬ (Md_in a3 0 1) = 0
    · rw [if_pos hc] at h
      refine es (20, [some (.inr (.inr 92)), some (.inl a1), some (.inl a2), some (.inl a3), none], [], g) (congrArg some (if_pos hc)) ?_
      refine ev_runs 2 (20, [some (.inr (.inr 92)), some (.inl a1), some (.inl a2), some (.inl a3), none], [], g) (22, [some (.inr (.inr 92)), some (.inl a1), some (.inl a2), some (.inl a3), none], [.inl a1, .inr (.inr 92)], g) rfl ?_
      obtain ⟨q1, hq, h⟩ := Option.bind_eq_some_iff.mp h
      refine ec 88 25 [.inr (.inr 92), .inl a1] [] rfl (ev_Md_lacksOne a1 g q1.1 q1.2 hq) ?_
      show Ev 153 25 [some (.inr (.inr 92)), some (.inl a1), some (.inl a2), some (.inl a3), none] [.inl q1.1] q1.2 _ _
      refine ev_runs 2 (25, [some (.inr (.inr 92)), some (.inl a1), some (.inl a2), some (.inl a3), none], [.inl q1.1], q1.2) (29, [some (.inr (.inr 92)), some (.inl a1), some (.inl a2), some (.inl a3), some (.inl q1.1)], [.inl q1.1], q1.2) rfl ?_
      by_cases hc : q1.1 = 0
      · rw [if_pos hc] at h
        refine es (35, [some (.inr (.inr 92)), some (.inl a1), some (.inl a2), some (.inl a3), some (.inl q1.1)], [], q1.2) (congrArg some (if_pos hc)) ?_
        refine ev_runs 3 (35, [some (.inr (.inr 92)), some (.inl a1), some (.inl a2), some (.inl a3), some (.inl q1.1)], [], q1.2) (38, [some (.inr (.inr 92)), some (.inl a1), some (.inl a2), some (.inl a3), some (.inl q1.1)], [.inl a2, .inl a1, .inr (.inr 92)], q1.2) rfl ?_
        obtain ⟨g2, hq, h⟩ := Option.bind_eq_some_iff.mp h
        refine ec 152 41 [.inr (.inr 92), .inl a1, .inl a2] [] rfl (ev_Md_runs a1 a2 q1.2 g2 hq) ?_
        show Ev 153 41 [some (.inr (.inr 92)), some (.inl a1), some (.inl a2), some (.inl a3), some (.inl q1.1)] [] g2 _ _
        refine ev_runs 1 (41, [some (.inr (.inr 92)), some (.inl a1), some (.inl a2), some (.inl a3), some (.inl q1.1)], [], g2) (42, [some (.inr (.inr 92)), some (.inl a1), some (.inl a2), some (.inl a3), some (.inl q1.1)], [.inl a3], g2) rfl ?_
        by_cases hc : ¬ a3 = 0
        · rw [if_pos hc] at h
          refine es (52, [some (.inr (.inr 92)), some (.inl a1), some (.inl a2), some (.inl a3), some (.inl q1.1)], [], g2) (congrArg some (if_pos hc)) ?_
          refine ev_runs 2 (52, [some (.inr (.inr 92)), some (.inl a1), some (.inl a2), some (.inl a3), some (.inl q1.1)], [], g2) (56, [some (.inr (.inr 92)), some (.inl a1), some (.inl a2), some (.inl a3), some (.inl q1.1)], [.inl (g2 92 44)], g2) rfl ?_
          cases h
          exact er rfl
        · rw [if_neg hc] at h
          refine es (45, [some (.inr (.inr 92)), some (.inl a1), some (.inl a2), some (.inl a3), some (.inl q1.1)], [], g2) (congrArg some (if_neg hc)) ?_
          refine ev_runs 3 (45, [some (.inr (.inr 92)), some (.inl a1), some (.inl a2), some (.inl a3), some (.inl q1.1)], [], g2) (56, [some (.inr (.inr 92)), some (.inl a1), some (.inl a2), some (.inl a3), some (.inl q1.1)], [.inl (g2 92 43)], g2) rfl ?_
          cases h
          exact er rfl
      · rw [if_neg hc] at h
        refine es (32, [some (.inr (.inr 92)), some (.inl a1), some (.inl a2), some (.inl a3), some (.inl q1.1)], [], q1.2) (congrArg some (if_neg hc)) ?_
        refine ev_runs 1 (32, [some (.inr (.inr 92)), some (.inl a1), some (.inl a2), some (.inl a3), some (.inl q1.1)], [], q1.2) (34, [some (.inr (.inr 92)), some (.inl a1), some (.inl a2), some (.inl a3), some (.inl q1.1)], [.inl q1.1], q1.2) rfl ?_
        cases h
        exact er rfl
    · rw [if_neg hc] at h
      refine es (17, [some (.inr (.inr 92)), some (.inl a1), some (.inl a2), some (.inl a3), none], [], g) (congrArg some (if_neg hc)) ?_
      refine ev_runs 1 (17, [some (.inr (.inr 92)), some (.inl a1), some (.inl a2), some (.inl a3), none], [], g) (19, [some (.inr (.inr 92)), some (.inl a1), some (.inl a2), some (.inl a3), none], [.inl (-2)], g) rfl ?_
      cases h
      exact er rfl
set_option maxRecDepth 100000 in
set_option maxHeartbeats 4000000 in
theorem ev_Rn_stepper (a1 : Int) (g : Gx) (r : Int) (h : Rn_stepper a1 g = r) : Ev 154 0 [some (.inr (.inr 60)), some (.inl a1)] [] g (some (.inl r)) g := by
  rw [Rn_stepper] at h
  refine ev_runs 3 (0, [some (.inr (.inr 60)), some (.inl a1)], [], g) (5, [some (.inr (.inr 60)), some (.inl a1)], [.inl a1, .inr (.inr 65)], g) rfl ?_
  refine ec 13 8 [.inr (.inr 65), .inl a1] [] rfl (ev_Row_at rfl rfl _ _) ?_
  show Ev 154 8 [some (.inr (.inr 60)), some (.inl a1)] [.inl (rat g 66 48 a1)] g _ _
  subst h
  exact er rfl
set_option maxRecDepth 100000 in
set_option maxHeartbeats 4000000 in
theorem ev_Op_step (a1 a2 a3 : Int) (g : Gx) (r : Int) (g' : Gx) (h : Op_step a1 a2 a3 g = some (r, g')) : Ev 155 0 [some (.inr (.inr 0)), some (.inl a1), some (.inl a2), some (.inl a3), none] [] g (some (.inl r)) g' := by
  rw [Op_step] at h
  refine ev_runs 1 (0, [some (.inr (.inr 0)), some (.inl a1), some (.inl a2), some (.inl a3), none], [], g) (1, [some (.inr (.inr 0)), some (.inl a1), some (.inl a2), some (.inl a3), none], [.inl a1], g) rfl ?_
  refine ec 83 4 [.inl a1] [] rfl (ev_Op_isHistory a1 g _ rfl) ?_
  show Ev 155 4 [some (.inr (.inr 0)), some (.inl a1), some (.inl a2), some (.inl a3), none] [.inl (Op_isHistory a1)] g _ _
  by_cases hc : (Op_isHistory a1) = 0
  · rw [if_pos hc] at h
    refine es (11, [some (.inr (.inr 0)), some (.inl a1), some (.inl a2), some (.inl a3), none], [], g) (congrArg some (if_pos hc)) ?_
    refine ev_runs 1 (11, [some (.inr (.inr 0)), some (.inl a1), some (.inl a2), some (.inl a3), none], [], g) (13, [some (.inr (.inr 0)), some (.inl a1), some (.inl a2), some (.inl a3), none], [.inl (-2)], g) rfl ?_
    cases h
    exact er rfl
  · rw [if_neg hc] at h
    refine es (7, [some (.inr (.inr 0)), some (.inl a1), some (.inl a2), some (.inl a3), none], [], g) (congrArg some (if_neg hc)) ?_
    refine ev_runs 1 (7, [some (.inr (.inr 0)), some (.inl a1), some (.inl a2), some (.inl a3), none], [], g) (8, [some (.inr (.inr 0)), some (.inl a1), some (.inl a2), some (.inl a3), none], [.inl a3], g) rfl ?_
    by_cases hc : 0 ≤ a3
    · rw [if_pos hc] at h
      refine es (14, [some (.inr (.inr 0)), some (.inl a1), some (.inl a2), some (.inl a3), none], [], g) (congrArg some (if_pos hc)) ?_
      refine ev_runs 2 (14, [some (.inr (.inr 0)), some (.inl a1), some (.inl a2), some (.inl a3), none], [], g) (16, [some (.inr (.inr 0)), some (.inl a1), some (.inl a2), some (.inl a3), none], [.inl a1, .inr (.inr 0)], g) rfl ?_
      obtain ⟨q1, hq, h⟩ := Option.bind_eq_some_iff.mp h
      refine ec 75 19 [.inr (.inr 0), .inl a1] [] rfl (ev_Op_hindrance a1 g q1.1 q1.2 hq) ?_
      show Ev 155 19 [some (.inr (.inr 0)), some (.inl a1), some (.inl a2), some (.inl a3), none] [.inl q1.1] q1.2 _ _
      refine ev_runs 2 (19, [some (.inr (.inr 0)), some (.inl a1), some (.inl a2), some (.inl a3), none], [.inl q1.1], q1.2) (23, [some (.inr (.inr 0)), some (.inl a1), some (.inl a2), some (.inl a3), some (.inl q1.1)], [.inl q1.1], q1.2) rfl ?_
      by_cases hc : q1.1 = 0
      · rw [if_pos hc] at h
        refine es (29, [some (.inr (.inr 0)), some (.inl a1), some (.inl a2), some (.inl a3), some (.inl q1.1)], [], q1.2) (congrArg some (if_pos hc)) ?_
        refine ev_runs 4 (29, [some (.inr (.inr 0)), some (.inl a1), some (.inl a2), some (.inl a3), some (.inl q1.1)], [], q1.2) (35, [some (.inr (.inr 0)), some (.inl a1), some (.inl a2), some (.inl a3), some (.inl q1.1)], [.inl a2, .inl a1, .inr (.inr 60)], q1.2) rfl ?_
        obtain ⟨g2, hq, h⟩ := Option.bind_eq_some_iff.mp h
        refine ec 144 38 [.inr (.inr 60), .inl a1, .inl a2] [] rfl (ev_Rn_goByLots a1 a2 q1.2 g2 hq) ?_
        show Ev 155 38 [some (.inr (.inr 0)), some (.inl a1), some (.inl a2), some (.inl a3), some (.inl q1.1)] [] g2 _ _
        refine ev_runs 3 (38, [some (.inr (.inr 0)), some (.inl a1), some (.inl a2), some (.inl a3), some (.inl q1.1)], [], g2) (43, [some (.inr (.inr 0)), some (.inl a1), some (.inl a2), some (.inl a3), some (.inl q1.1)], [.inr (.inr 60), .inl a3], g2) rfl ?_
        refine ec 145 46 [.inr (.inr 60)] [.inl a3] rfl (ev_Rn_stepCount g2 _ rfl) ?_
        show Ev 155 46 [some (.inr (.inr 0)), some (.inl a1), some (.inl a2), some (.inl a3), some (.inl q1.1)] [.inl (Rn_stepCount g2), .inl a3] g2 _ _
        by_cases hc : (Rn_stepCount g2) ≤ a3
        · rw [if_pos hc] at h
          refine es (60, [some (.inr (.inr 0)), some (.inl a1), some (.inl a2), some (.inl a3), some (.inl q1.1)], [], g2) (congrArg some (if_pos hc)) ?_
          refine ev_runs 1 (60, [some (.inr (.inr 0)), some (.inl a1), some (.inl a2), some (.inl a3), some (.inl q1.1)], [], g2) (61, [some (.inr (.inr 0)), some (.inl a1), some (.inl a2), some (.inl a3), some (.inl q1.1)], [.inl (-1)], g2) rfl ?_
          cases h
          exact er rfl
        · rw [if_neg hc] at h
          refine es (49, [some (.inr (.inr 0)), some (.inl a1), some (.inl a2), some (.inl a3), some (.inl q1.1)], [], g2) (congrArg some (if_neg hc)) ?_
          refine ev_runs 3 (49, [some (.inr (.inr 0)), some (.inl a1), some (.inl a2), some (.inl a3), some (.inl q1.1)], [], g2) (54, [some (.inr (.inr 0)), some (.inl a1), some (.inl a2), some (.inl a3), some (.inl q1.1)], [.inl a3, .inr (.inr 60)], g2) rfl ?_
          refine ec 154 57 [.inr (.inr 60), .inl a3] [] rfl (ev_Rn_stepper a3 g2 _ rfl) ?_
          show Ev 155 57 [some (.inr (.inr 0)), some (.inl a1), some (.inl a2), some (.inl a3), some (.inl q1.1)] [.inl (Rn_stepper a3 g2)] g2 _ _
          refine ev_runs 1 (57, [some (.inr (.inr 0)), some (.inl a1), some (.inl a2), some (.inl a3), some (.inl q1.1)], [.inl (Rn_stepper a3 g2)], g2) (61, [some (.inr (.inr 0)), some (.inl a1), some (.inl a2), some (.inl a3), some (.inl q1.1)], [.inl (Rn_stepper a3 g2)], g2) rfl ?_
          cases h
          exact er rfl
      · rw [if_neg hc] at h
        refine es (26, [some (.inr (.inr 0)), some (.inl a1), some (.inl a2), some (.inl a3), some (.inl q1.1)], [], q1.2) (congrArg some (if_neg hc)) ?_
        refine ev_runs 1 (26, [some (.inr (.inr 0)), some (.inl a1), some (.inl a2), some (.inl a3), some (.inl q1.1)], [], q1.2) (28, [some (.inr (.inr 0)), some (.inl a1), some (.inl a2), some (.inl a3), some (.inl q1.1)], [.inl q1.1], q1.2) rfl ?_
        cases h
        exact er rfl
    · rw [if_neg hc] at h
      refine es (11, [some (.inr (.inr 0)), some (.inl a1), some (.inl a2), some (.inl a3), none], [], g) (congrArg some (if_neg hc)) ?_
      refine ev_runs 1 (11, [some (.inr (.inr 0)), some (.inl a1), some (.inl a2), some (.inl a3), none], [], g) (13, [some (.inr (.inr 0)), some (.inl a1), some (.inl a2), some (.inl a3), none], [.inl (-2)], g) rfl ?_
      cases h
      exact er rfl
set_option maxRecDepth 100000 in
set_option maxHeartbeats 4000000 in
theorem ev_Md_step (a1 a2 a3 : Int) (g : Gx) (r : Int) (g' : Gx) (h : Md_step a1 a2 a3 g = some (r, g')) : Ev 156 0 [some (.inr (.inr 92)), some (.inl a1), some (.inl a2), some (.inl a3), none] [] g (some (.inl r)) g' := by
  rw [Md_step] at h
  refine ev_runs 1 (0, [some (.inr (.inr 92)), some (.inl a1), some (.inl a2), some (.inl a3), none], [], g) (1, [some (.inr (.inr 92)), some (.inl a1), some (.inl a2), some (.inl a3), none], [.inl a1], g) rfl ?_
  refine ec 87 4 [.inl a1] [] rfl (ev_Md_isHistory a1 g _ rfl) ?_
  show Ev 156 4 [some (.inr (.inr 92)), some (.inl a1), some (.inl a2), some (.inl a3), none] [.inl (Md_isHistory a1)] g _ _
  by_cases hc : (Md_isHistory a1) = 0
  · rw [if_pos hc] at h
    refine es (11, [some (.inr (.inr 92)), some (.inl a1), some (.inl a2), some (.inl a3), none], [], g) (congrArg some (if_pos hc)) ?_
    refine ev_runs 1 (11, [some (.inr (.inr 92)), some (.inl a1), some (.inl a2), some (.inl a3), none], [], g) (13, [some (.inr (.inr 92)), some (.inl a1), some (.inl a2), some (.inl a3), none], [.inl (-2)], g) rfl ?_
    cases h
    exact er rfl
  · rw [if_neg hc] at h
    refine es (7, [some (.inr (.inr 92)), some (.inl a1), some (.inl a2), some (.inl a3), none], [], g) (congrArg some (if_neg hc)) ?_
    refine ev_runs 1 (7, [some (.inr (.inr 92)), some (.inl a1), some (.inl a2), some (.inl a3), none], [], g) (8, [some (.inr (.inr 92)), some (.inl a1), some (.inl a2), some (.inl a3), none], [.inl a3], g) rfl ?_
    by_cases hc : 0 ≤ a3
    · rw [if_pos hc] at h
      refine es (14, [some (.inr (.inr 92)), some (.inl a1), some (.inl a2), some (.inl a3), none], [], g) (congrArg some (if_pos hc)) ?_
      refine ev_runs 2 (14, [some (.inr (.inr 92)), some (.inl a1), some (.inl a2), some (.inl a3), none], [], g) (16, [some (.inr (.inr 92)), some (.inl a1), some (.inl a2), some (.inl a3), none], [.inl a1, .inr (.inr 92)], g) rfl ?_
      obtain ⟨q1, hq, h⟩ := Option.bind_eq_some_iff.mp h
      refine ec 88 19 [.inr (.inr 92), .inl a1] [] rfl (ev_Md_lacksOne a1 g q1.1 q1.2 hq) ?_
      show Ev 156 19 [some (.inr (.inr 92)), some (.inl a1), some (.inl a2), some (.inl a3), none] [.inl q1.1] q1.2 _ _
      refine ev_runs 2 (19, [some (.inr (.inr 92)), some (.inl a1), some (.inl a2), some (.inl a3), none], [.inl q1.1], q1.2) (23, [some (.inr (.inr 92)), some (.inl a1), some (.inl a2), some (.inl a3), some (.inl q1.1)], [.inl q1.1], q1.2) rfl ?_
      by_cases hc : q1.1 = 0
      · rw [if_pos hc] at h
        refine es (29, [some (.inr (.inr 92)), some (.inl a1), some (.inl a2), some (.inl a3), some (.inl q1.1)], [], q1.2) (congrArg some (if_pos hc)) ?_
        refine ev_runs 3 (29, [some (.inr (.inr 92)), some (.inl a1), some (.inl a2), some (.inl a3), some (.inl q1.1)], [], q1.2) (32, [some (.inr (.inr 92)), some (.inl a1), some (.inl a2), some (.inl a3), some (.inl q1.1)], [.inl a2, .inl a1, .inr (.inr 92)], q1.2) rfl ?_
        obtain ⟨g2, hq, h⟩ := Option.bind_eq_some_iff.mp h
        refine ec 152 35 [.inr (.inr 92), .inl a1, .inl a2] [] rfl (ev_Md_runs a1 a2 q1.2 g2 hq) ?_
        show Ev 156 35 [some (.inr (.inr 92)), some (.inl a1), some (.inl a2), some (.inl a3), some (.inl q1.1)] [] g2 _ _
        refine ev_runs 3 (35, [some (.inr (.inr 92)), some (.inl a1), some (.inl a2), some (.inl a3), some (.inl q1.1)], [], g2) (40, [some (.inr (.inr 92)), some (.inl a1), some (.inl a2), some (.inl a3), some (.inl q1.1)], [.inl (g2 92 43), .inl a3], g2) rfl ?_
        by_cases hc : (g2 92 43) ≤ a3
        · rw [if_pos hc] at h
          refine es (52, [some (.inr (.inr 92)), some (.inl a1), some (.inl a2), some (.inl a3), some (.inl q1.1)], [], g2) (congrArg some (if_pos hc)) ?_
          refine ev_runs 1 (52, [some (.inr (.inr 92)), some (.inl a1), some (.inl a2), some (.inl a3), some (.inl q1.1)], [], g2) (53, [some (.inr (.inr 92)), some (.inl a1), some (.inl a2), some (.inl a3), some (.inl q1.1)], [.inl (-1)], g2) rfl ?_
          cases h
          exact er rfl
        · rw [if_neg hc] at h
          refine es (43, [some (.inr (.inr 92)), some (.inl a1), some (.inl a2), some (.inl a3), some (.inl q1.1)], [], g2) (congrArg some (if_neg hc)) ?_
          refine ev_runs 3 (43, [some (.inr (.inr 92)), some (.inl a1), some (.inl a2), some (.inl a3), some (.inl q1.1)], [], g2) (48, [some (.inr (.inr 92)), some (.inl a1), some (.inl a2), some (.inl a3), some (.inl q1.1)], [.inl a3, .inr (.inr 123)], g2) rfl ?_
          by_cases hc : 0 ≤ a3 ∧ a3 < 48
          · rw [if_pos hc] at h
            refine es (49, [some (.inr (.inr 92)), some (.inl a1), some (.inl a2), some (.inl a3), some (.inl q1.1)], [.inl (g2 123 a3.toNat)], g2) (if_pos hc) ?_
            refine ev_runs 1 (49, [some (.inr (.inr 92)), some (.inl a1), some (.inl a2), some (.inl a3), some (.inl q1.1)], [.inl (g2 123 a3.toNat)], g2) (53, [some (.inr (.inr 92)), some (.inl a1), some (.inl a2), some (.inl a3), some (.inl q1.1)], [.inl (g2 123 a3.toNat)], g2) rfl ?_
            cases h
            exact er rfl
          · rw [if_neg hc] at h; cases h
      · rw [if_neg hc] at h
        refine es (26, [some (.inr (.inr 92)), some (.inl a1), some (.inl a2), some (.inl a3), some (.inl q1.1)], [], q1.2) (congrArg some (if_neg hc)) ?_
        refine ev_runs 1 (26, [some (.inr (.inr 92)), some (.inl a1), some (.inl a2), some (.inl a3), some (.inl q1.1)], [], q1.2) (28, [some (.inr (.inr 92)), some (.inl a1), some (.inl a2), some (.inl a3), some (.inl q1.1)], [.inl q1.1], q1.2) rfl ?_
        cases h
        exact er rfl
    · rw [if_neg hc] at h
      refine es (11, [some (.inr (.inr 92)), some (.inl a1), some (.inl a2), some (.inl a3), none], [], g) (congrArg some (if_neg hc)) ?_
      refine ev_runs 1 (11, [some (.inr (.inr 92)), some (.inl a1), some (.inl a2), some (.inl a3), none], [], g) (13, [some (.inr (.inr 92)), some (.inl a1), some (.inl a2), some (.inl a3), none], [.inl (-2)], g) rfl ?_
      cases h
      exact er rfl
