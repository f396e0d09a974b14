/-! The small machine does what the functions say. Printed by wip/gen/gen_parts.py. -/
set_option maxRecDepth 100000 in
set_option maxHeartbeats 4000000 in
theorem ev_Md_unfolds_l50 (c1 : Int) (c2 : Int) (K50_133 : Gx → Option (Int × Gx)) (hK50_133 : ∀ (g : Gx) (r : Int) (g' : Gx), K50_133 g = some (r, g') → Ev 80 133 [some (.inr (.inr 92)), some (.inl c1), some (.inl c2), none, none] [] g (some (.inl r)) g') : ∀ (n50 : Nat) (v4 : Int) (g : Gx) (r : Int) (g' : Gx), Md_unfolds_l50 c1 c2 K50_133 n50 v4 g = some (r, g') → Ev 80 50 [some (.inr (.inr 92)), some (.inl c1), some (.inl c2), none, some (.inl v4)] [] g (some (.inl r)) g' := by
  intro n50
  induction n50 with
  | zero => intro v4 g r g' h; cases h
  | succ n50 ih50 =>
    intro v4 g r g' h
    rw [Md_unfolds_l50] at h
    refine ev_runs 2 (50, [some (.inr (.inr 92)), some (.inl c1), some (.inl c2), none, some (.inl v4)], [], g) (54, [some (.inr (.inr 92)), some (.inl c1), some (.inl c2), none, some (.inl v4)], [.inl 30, .inl v4], g) rfl ?_
    by_cases hc : 30 ≤ v4
    · rw [if_pos hc] at h
      refine es (133, [some (.inr (.inr 92)), some (.inl c1), some (.inl c2), none, some (.inl v4)], [], g) (congrArg some (if_pos hc)) ?_
      exact ev_le (L := [some (.inr (.inr 92)), some (.inl c1), some (.inl c2), none, none]) (by simp [Lle]) (hK50_133 g r g' h)
    · rw [if_neg hc] at h
      refine es (57, [some (.inr (.inr 92)), some (.inl c1), some (.inl c2), none, some (.inl v4)], [], g) (congrArg some (if_neg hc)) ?_
      refine ev_runs 11 (57, [some (.inr (.inr 92)), some (.inl c1), some (.inl c2), none, some (.inl v4)], [], g) (77, [some (.inr (.inr 92)), some (.inl c1), some (.inl c2), none, some (.inl v4)], [.inl (g 92 35), .inl v4, .inl (wr ((wr (30 * (g 92 26))) + v4)), .inr (.inr 112)], g) rfl ?_
      by_cases hc : (g 92 35) ≤ v4
      · rw [if_pos hc] at h
        refine es (90, [some (.inr (.inr 92)), some (.inl c1), some (.inl c2), none, some (.inl v4)], [.inl (wr ((wr (30 * (g 92 26))) + v4)), .inr (.inr 112)], g) (congrArg some (if_pos hc)) ?_
        refine ev_runs 1 (90, [some (.inr (.inr 92)), some (.inl c1), some (.inl c2), none, some (.inl v4)], [.inl (wr ((wr (30 * (g 92 26))) + v4)), .inr (.inr 112)], g) (91, [some (.inr (.inr 92)), some (.inl c1), some (.inl c2), none, some (.inl v4)], [.inl (-1), .inl (wr ((wr (30 * (g 92 26))) + v4)), .inr (.inr 112)], g) rfl ?_
        by_cases hc : 0 ≤ (wr ((wr (30 * (g 92 26))) + v4)) ∧ (wr ((wr (30 * (g 92 26))) + v4)) < 900
        · rw [if_pos hc] at h
          refine es (92, [some (.inr (.inr 92)), some (.inl c1), some (.inl c2), none, some (.inl v4)], [], (gset g 112 ((wr ((wr (30 * (g 92 26))) + v4)).toNat) (-1))) (if_pos hc) ?_
          refine ev_runs 11 (92, [some (.inr (.inr 92)), some (.inl c1), some (.inl c2), none, some (.inl v4)], [], (gset g 112 ((wr ((wr (30 * (g 92 26))) + v4)).toNat) (-1))) (112, [some (.inr (.inr 92)), some (.inl c1), some (.inl c2), none, some (.inl v4)], [.inl (g 92 35), .inl v4, .inl (wr ((wr (30 * (g 92 26))) + v4)), .inr (.inr 113)], (gset g 112 ((wr ((wr (30 * (g 92 26))) + v4)).toNat) (-1))) rfl ?_
          by_cases hc : (g 92 35) ≤ v4
          · rw [if_pos hc] at h
            refine es (125, [some (.inr (.inr 92)), some (.inl c1), some (.inl c2), none, some (.inl v4)], [.inl (wr ((wr (30 * (g 92 26))) + v4)), .inr (.inr 113)], (gset g 112 ((wr ((wr (30 * (g 92 26))) + v4)).toNat) (-1))) (congrArg some (if_pos hc)) ?_
            refine ev_runs 1 (125, [some (.inr (.inr 92)), some (.inl c1), some (.inl c2), none, some (.inl v4)], [.inl (wr ((wr (30 * (g 92 26))) + v4)), .inr (.inr 113)], (gset g 112 ((wr ((wr (30 * (g 92 26))) + v4)).toNat) (-1))) (126, [some (.inr (.inr 92)), some (.inl c1), some (.inl c2), none, some (.inl v4)], [.inl (-1), .inl (wr ((wr (30 * (g 92 26))) + v4)), .inr (.inr 113)], (gset g 112 ((wr ((wr (30 * (g 92 26))) + v4)).toNat) (-1))) rfl ?_
            by_cases hc : 0 ≤ (wr ((wr (30 * (g 92 26))) + v4)) ∧ (wr ((wr (30 * (g 92 26))) + v4)) < 900
            · rw [if_pos hc] at h
              refine es (127, [some (.inr (.inr 92)), some (.inl c1), some (.inl c2), none, some (.inl v4)], [], (gset (gset g 112 ((wr ((wr (30 * (g 92 26))) + v4)).toNat) (-1)) 113 ((wr ((wr (30 * (g 92 26))) + v4)).toNat) (-1))) (if_pos hc) ?_
              refine ev_runs 2 (127, [some (.inr (.inr 92)), some (.inl c1), some (.inl c2), none, some (.inl v4)], [], (gset (gset g 112 ((wr ((wr (30 * (g 92 26))) + v4)).toNat) (-1)) 113 ((wr ((wr (30 * (g 92 26))) + v4)).toNat) (-1))) (50, [some (.inr (.inr 92)), some (.inl c1), some (.inl c2), none, some (.inl (wr (v4 + 1)))], [], (gset (gset g 112 ((wr ((wr (30 * (g 92 26))) + v4)).toNat) (-1)) 113 ((wr ((wr (30 * (g 92 26))) + v4)).toNat) (-1))) rfl ?_
              exact ev_le (L := [some (.inr (.inr 92)), some (.inl c1), some (.inl c2), none, some (.inl (wr (v4 + 1)))]) (by simp [Lle]) (ih50 (wr (v4 + 1)) (gset (gset g 112 ((wr ((wr (30 * (g 92 26))) + v4)).toNat) (-1)) 113 ((wr ((wr (30 * (g 92 26))) + v4)).toNat) (-1)) r g' h)
            · rw [if_neg hc] at h; cases h
          · rw [if_neg hc] at h
            refine es (115, [some (.inr (.inr 92)), some (.inl c1), some (.inl c2), none, some (.inl v4)], [.inl (wr ((wr (30 * (g 92 26))) + v4)), .inr (.inr 113)], (gset g 112 ((wr ((wr (30 * (g 92 26))) + v4)).toNat) (-1))) (congrArg some (if_neg hc)) ?_
            refine ev_runs 3 (115, [some (.inr (.inr 92)), some (.inl c1), some (.inl c2), none, some (.inl v4)], [.inl (wr ((wr (30 * (g 92 26))) + v4)), .inr (.inr 113)], (gset g 112 ((wr ((wr (30 * (g 92 26))) + v4)).toNat) (-1))) (121, [some (.inr (.inr 92)), some (.inl c1), some (.inl c2), none, some (.inl v4)], [.inl v4, .inr (.inr 116), .inl (wr ((wr (30 * (g 92 26))) + v4)), .inr (.inr 113)], (gset g 112 ((wr ((wr (30 * (g 92 26))) + v4)).toNat) (-1))) rfl ?_
            by_cases hc : 0 ≤ v4 ∧ v4 < 30
            · rw [if_pos hc] at h
              refine es (122, [some (.inr (.inr 92)), some (.inl c1), some (.inl c2), none, some (.inl v4)], [.inl (g 116 v4.toNat), .inl (wr ((wr (30 * (g 92 26))) + v4)), .inr (.inr 113)], (gset g 112 ((wr ((wr (30 * (g 92 26))) + v4)).toNat) (-1))) (if_pos hc) ?_
              refine ev_runs 1 (122, [some (.inr (.inr 92)), some (.inl c1), some (.inl c2), none, some (.inl v4)], [.inl (g 116 v4.toNat), .inl (wr ((wr (30 * (g 92 26))) + v4)), .inr (.inr 113)], (gset g 112 ((wr ((wr (30 * (g 92 26))) + v4)).toNat) (-1))) (126, [some (.inr (.inr 92)), some (.inl c1), some (.inl c2), none, some (.inl v4)], [.inl (g 116 v4.toNat), .inl (wr ((wr (30 * (g 92 26))) + v4)), .inr (.inr 113)], (gset g 112 ((wr ((wr (30 * (g 92 26))) + v4)).toNat) (-1))) rfl ?_
              by_cases hc : 0 ≤ (wr ((wr (30 * (g 92 26))) + v4)) ∧ (wr ((wr (30 * (g 92 26))) + v4)) < 900
              · rw [if_pos hc] at h
                refine es (127, [some (.inr (.inr 92)), some (.inl c1), some (.inl c2), none, some (.inl v4)], [], (gset (gset g 112 ((wr ((wr (30 * (g 92 26))) + v4)).toNat) (-1)) 113 ((wr ((wr (30 * (g 92 26))) + v4)).toNat) (g 116 v4.toNat))) (if_pos hc) ?_
                refine ev_runs 2 (127, [some (.inr (.inr 92)), some (.inl c1), some (.inl c2), none, some (.inl v4)], [], (gset (gset g 112 ((wr ((wr (30 * (g 92 26))) + v4)).toNat) (-1)) 113 ((wr ((wr (30 * (g 92 26))) + v4)).toNat) (g 116 v4.toNat))) (50, [some (.inr (.inr 92)), some (.inl c1), some (.inl c2), none, some (.inl (wr (v4 + 1)))], [], (gset (gset g 112 ((wr ((wr (30 * (g 92 26))) + v4)).toNat) (-1)) 113 ((wr ((wr (30 * (g 92 26))) + v4)).toNat) (g 116 v4.toNat))) rfl ?_
                exact ev_le (L := [some (.inr (.inr 92)), some (.inl c1), some (.inl c2), none, some (.inl (wr (v4 + 1)))]) (by simp [Lle]) (ih50 (wr (v4 + 1)) (gset (gset g 112 ((wr ((wr (30 * (g 92 26))) + v4)).toNat) (-1)) 113 ((wr ((wr (30 * (g 92 26))) + v4)).toNat) (g 116 v4.toNat)) r g' h)
              · rw [if_neg hc] at h; cases h
            · rw [if_neg hc] at h; cases h
        · rw [if_neg hc] at h; cases h
      · rw [if_neg hc] at h
        refine es (80, [some (.inr (.inr 92)), some (.inl c1), some (.inl c2), none, some (.inl v4)], [.inl (wr ((wr (30 * (g 92 26))) + v4)), .inr (.inr 112)], g) (congrArg some (if_neg hc)) ?_
        refine ev_runs 3 (80, [some (.inr (.inr 92)), some (.inl c1), some (.inl c2), none, some (.inl v4)], [.inl (wr ((wr (30 * (g 92 26))) + v4)), .inr (.inr 112)], g) (86, [some (.inr (.inr 92)), some (.inl c1), some (.inl c2), none, some (.inl v4)], [.inl v4, .inr (.inr 114), .inl (wr ((wr (30 * (g 92 26))) + v4)), .inr (.inr 112)], g) rfl ?_
        by_cases hc : 0 ≤ v4 ∧ v4 < 30
        · rw [if_pos hc] at h
          refine es (87, [some (.inr (.inr 92)), some (.inl c1), some (.inl c2), none, some (.inl v4)], [.inl (g 114 v4.toNat), .inl (wr ((wr (30 * (g 92 26))) + v4)), .inr (.inr 112)], g) (if_pos hc) ?_
          refine ev_runs 1 (87, [some (.inr (.inr 92)), some (.inl c1), some (.inl c2), none, some (.inl v4)], [.inl (g 114 v4.toNat), .inl (wr ((wr (30 * (g 92 26))) + v4)), .inr (.inr 112)], g) (91, [some (.inr (.inr 92)), some (.inl c1), some (.inl c2), none, some (.inl v4)], [.inl (g 114 v4.toNat), .inl (wr ((wr (30 * (g 92 26))) + v4)), .inr (.inr 112)], g) rfl ?_
          by_cases hc : 0 ≤ (wr ((wr (30 * (g 92 26))) + v4)) ∧ (wr ((wr (30 * (g 92 26))) + v4)) < 900
          · rw [if_pos hc] at h
            refine es (92, [some (.inr (.inr 92)), some (.inl c1), some (.inl c2), none, some (.inl v4)], [], (gset g 112 ((wr ((wr (30 * (g 92 26))) + v4)).toNat) (g 114 v4.toNat))) (if_pos hc) ?_
            refine ev_runs 11 (92, [some (.inr (.inr 92)), some (.inl c1), some (.inl c2), none, some (.inl v4)], [], (gset g 112 ((wr ((wr (30 * (g 92 26))) + v4)).toNat) (g 114 v4.toNat))) (112, [some (.inr (.inr 92)), some (.inl c1), some (.inl c2), none, some (.inl v4)], [.inl (g 92 35), .inl v4, .inl (wr ((wr (30 * (g 92 26))) + v4)), .inr (.inr 113)], (gset g 112 ((wr ((wr (30 * (g 92 26))) + v4)).toNat) (g 114 v4.toNat))) rfl ?_
            by_cases hc : (g 92 35) ≤ v4
            · rw [if_pos hc] at h
              refine es (125, [some (.inr (.inr 92)), some (.inl c1), some (.inl c2), none, some (.inl v4)], [.inl (wr ((wr (30 * (g 92 26))) + v4)), .inr (.inr 113)], (gset g 112 ((wr ((wr (30 * (g 92 26))) + v4)).toNat) (g 114 v4.toNat))) (congrArg some (if_pos hc)) ?_
              refine ev_runs 1 (125, [some (.inr (.inr 92)), some (.inl c1), some (.inl c2), none, some (.inl v4)], [.inl (wr ((wr (30 * (g 92 26))) + v4)), .inr (.inr 113)], (gset g 112 ((wr ((wr (30 * (g 92 26))) + v4)).toNat) (g 114 v4.toNat))) (126, [some (.inr (.inr 92)), some (.inl c1), some (.inl c2), none, some (.inl v4)], [.inl (-1), .inl (wr ((wr (30 * (g 92 26))) + v4)), .inr (.inr 113)], (gset g 112 ((wr ((wr (30 * (g 92 26))) + v4)).toNat) (g 114 v4.toNat))) rfl ?_
              by_cases hc : 0 ≤ (wr ((wr (30 * (g 92 26))) + v4)) ∧ (wr ((wr (30 * (g 92 26))) + v4)) < 900
              · rw [if_pos hc] at h
                refine es (127, [some (.inr (.inr 92)), some (.inl c1), some (.inl c2), none, some (.inl v4)], [], (gset (gset g 112 ((wr ((wr (30 * (g 92 26))) + v4)).toNat) (g 114 v4.toNat)) 113 ((wr ((wr (30 * (g 92 26))) + v4)).toNat) (-1))) (if_pos hc) ?_
                refine ev_runs 2 (127, [some (.inr (.inr 92)), some (.inl c1), some (.inl c2), none, some (.inl v4)], [], (gset (gset g 112 ((wr ((wr (30 * (g 92 26))) + v4)).toNat) (g 114 v4.toNat)) 113 ((wr ((wr (30 * (g 92 26))) + v4)).toNat) (-1))) (50, [some (.inr (.inr 92)), some (.inl c1), some (.inl c2), none, some (.inl (wr (v4 + 1)))], [], (gset (gset g 112 ((wr ((wr (30 * (g 92 26))) + v4)).toNat) (g 114 v4.toNat)) 113 ((wr ((wr (30 * (g 92 26))) + v4)).toNat) (-1))) rfl ?_
                exact ev_le (L := [some (.inr (.inr 92)), some (.inl c1), some (.inl c2), none, some (.inl (wr (v4 + 1)))]) (by simp [Lle]) (ih50 (wr (v4 + 1)) (gset (gset g 112 ((wr ((wr (30 * (g 92 26))) + v4)).toNat) (g 114 v4.toNat)) 113 ((wr ((wr (30 * (g 92 26))) + v4)).toNat) (-1)) r g' h)
              · rw [if_neg hc] at h; cases h
            · rw [if_neg hc] at h
              refine es (115, [some (.inr (.inr 92)), some (.inl c1), some (.inl c2), none, some (.inl v4)], [.inl (wr ((wr (30 * (g 92 26))) + v4)), .inr (.inr 113)], (gset g 112 ((wr ((wr (30 * (g 92 26))) + v4)).toNat) (g 114 v4.toNat))) (congrArg some (if_neg hc)) ?_
              refine ev_runs 3 (115, [some (.inr (.inr 92)), some (.inl c1), some (.inl c2), none, some (.inl v4)], [.inl (wr ((wr (30 * (g 92 26))) + v4)), .inr (.inr 113)], (gset g 112 ((wr ((wr (30 * (g 92 26))) + v4)).toNat) (g 114 v4.toNat))) (121, [some (.inr (.inr 92)), some (.inl c1), some (.inl c2), none, some (.inl v4)], [.inl v4, .inr (.inr 116), .inl (wr ((wr (30 * (g 92 26))) + v4)), .inr (.inr 113)], (gset g 112 ((wr ((wr (30 * (g 92 26))) + v4)).toNat) (g 114 v4.toNat))) rfl ?_
              by_cases hc : 0 ≤ v4 ∧ v4 < 30
              · rw [if_pos hc] at h
                refine es (122, [some (.inr (.inr 92)), some (.inl c1), some (.inl c2), none, some (.inl v4)], [.inl (g 116 v4.toNat), .inl (wr ((wr (30 * (g 92 26))) + v4)), .inr (.inr 113)], (gset g 112 ((wr ((wr (30 * (g 92 26))) + v4)).toNat) (g 114 v4.toNat))) (if_pos hc) ?_
                refine ev_runs 1 (122, [some (.inr (.inr 92)), some (.inl c1), some (.inl c2), none, some (.inl v4)], [.inl (g 116 v4.toNat), .inl (wr ((wr (30 * (g 92 26))) + v4)), .inr (.inr 113)], (gset g 112 ((wr ((wr (30 * (g 92 26))) + v4)).toNat) (g 114 v4.toNat))) (126, [some (.inr (.inr 92)), some (.inl c1), some (.inl c2), none, some (.inl v4)], [.inl (g 116 v4.toNat), .inl (wr ((wr (30 * (g 92 26))) + v4)), .inr (.inr 113)], (gset g 112 ((wr ((wr (30 * (g 92 26))) + v4)).toNat) (g 114 v4.toNat))) rfl ?_
                by_cases hc : 0 ≤ (wr ((wr (30 * (g 92 26))) + v4)) ∧ (wr ((wr (30 * (g 92 26))) + v4)) < 900
                · rw [if_pos hc] at h
                  refine es (127, [some (.inr (.inr 92)), some (.inl c1), some (.inl c2), none, some (.inl v4)], [], (gset (gset g 112 ((wr ((wr (30 * (g 92 26))) + v4)).toNat) (g 114 v4.toNat)) 113 ((wr ((wr (30 * (g 92 26))) + v4)).toNat) (g 116 v4.toNat))) (if_pos hc) ?_
                  refine ev_runs 2 (127, [some (.inr (.inr 92)), some (.inl c1), some (.inl c2), none, some (.inl v4)], [], (gset (gset g 112 ((wr ((wr (30 * (g 92 26))) + v4)).toNat) (g 114 v4.toNat)) 113 ((wr ((wr (30 * (g 92 26))) + v4)).toNat) (g 116 v4.toNat))) (50, [some (.inr (.inr 92)), some (.inl c1), some (.inl c2), none, some (.inl (wr (v4 + 1)))], [], (gset (gset g 112 ((wr ((wr (30 * (g 92 26))) + v4)).toNat) (g 114 v4.toNat)) 113 ((wr ((wr (30 * (g 92 26))) + v4)).toNat) (g 116 v4.toNat))) rfl ?_
                  exact ev_le (L := [some (.inr (.inr 92)), some (.inl c1), some (.inl c2), none, some (.inl (wr (v4 + 1)))]) (by simp [Lle]) (ih50 (wr (v4 + 1)) (gset (gset g 112 ((wr ((wr (30 * (g 92 26))) + v4)).toNat) (g 114 v4.toNat)) 113 ((wr ((wr (30 * (g 92 26))) + v4)).toNat) (g 116 v4.toNat)) r g' h)
                · rw [if_neg hc] at h; cases h
              · rw [if_neg hc] at h; cases h
          · rw [if_neg hc] at h; cases h
        · rw [if_neg hc] at h; cases h
set_option maxRecDepth 100000 in
set_option maxHeartbeats 4000000 in
theorem ev_Md_unfolds_l151 (c1 : Int) (c2 : Int) (K151_179 : Int → Gx → Option (Int × Gx)) (hK151_179 : ∀ (x4 : Int) (g : Gx) (r : Int) (g' : Gx), K151_179 x4 g = some (r, g') → Ev 80 179 [some (.inr (.inr 92)), some (.inl c1), some (.inl c2), none, some (.inl x4)] [] g (some (.inl r)) g') : ∀ (n151 : Nat) (v4 : Int) (g : Gx) (r : Int) (g' : Gx), Md_unfolds_l151 c1 c2 K151_179 n151 v4 g = some (r, g') → Ev 80 151 [some (.inr (.inr 92)), some (.inl c1), some (.inl c2), none, some (.inl v4)] [] g (some (.inl r)) g' := by
  intro n151
  induction n151 with
  | zero => intro v4 g r g' h; cases h
  | succ n151 ih151 =>
    intro v4 g r g' h
    rw [Md_unfolds_l151] at h
    refine ev_runs 1 (151, [some (.inr (.inr 92)), some (.inl c1), some (.inl c2), none, some (.inl v4)], [], g) (153, [some (.inr (.inr 92)), some (.inl c1), some (.inl c2), none, some (.inl v4)], [.inl v4], g) rfl ?_
    by_cases hc : v4 < 0
    · rw [if_pos hc] at h
      refine es (179, [some (.inr (.inr 92)), some (.inl c1), some (.inl c2), none, some (.inl v4)], [], g) (congrArg some (if_pos hc)) ?_
      exact ev_le (L := [some (.inr (.inr 92)), some (.inl c1), some (.inl c2), none, some (.inl v4)]) (by simp [Lle]) (hK151_179 v4 g r g' h)
    · rw [if_neg hc] at h
      refine es (156, [some (.inr (.inr 92)), some (.inl c1), some (.inl c2), none, some (.inl v4)], [], g) (congrArg some (if_neg hc)) ?_
      refine ev_runs 3 (156, [some (.inr (.inr 92)), some (.inl c1), some (.inl c2), none, some (.inl v4)], [], g) (162, [some (.inr (.inr 92)), some (.inl c1), some (.inl c2), none, some (.inl v4)], [.inl v4, .inr (.inr 114)], g) rfl ?_
      by_cases hc : 0 ≤ v4 ∧ v4 < 30
      · rw [if_pos hc] at h
        refine es (163, [some (.inr (.inr 92)), some (.inl c1), some (.inl c2), none, some (.inl v4)], [.inl (g 114 v4.toNat)], g) (if_pos hc) ?_
        refine ev_runs 3 (163, [some (.inr (.inr 92)), some (.inl c1), some (.inl c2), none, some (.inl v4)], [.inl (g 114 v4.toNat)], g) (169, [some (.inr (.inr 92)), some (.inl c1), some (.inl c2), none, some (.inl v4)], [.inl v4, .inr (.inr 115), .inl (g 114 v4.toNat)], g) rfl ?_
        by_cases hc : 0 ≤ v4 ∧ v4 < 30
        · rw [if_pos hc] at h
          refine es (170, [some (.inr (.inr 92)), some (.inl c1), some (.inl c2), none, some (.inl v4)], [.inl (g 115 v4.toNat), .inl (g 114 v4.toNat)], g) (if_pos hc) ?_
          by_cases hc : ¬ (g 114 v4.toNat) = (g 115 v4.toNat)
          · rw [if_pos hc] at h
            refine es (179, [some (.inr (.inr 92)), some (.inl c1), some (.inl c2), none, some (.inl v4)], [], g) (congrArg some (if_pos hc)) ?_
            exact ev_le (L := [some (.inr (.inr 92)), some (.inl c1), some (.inl c2), none, some (.inl v4)]) (by simp [Lle]) (hK151_179 v4 g r g' h)
          · rw [if_neg hc] at h
            refine es (173, [some (.inr (.inr 92)), some (.inl c1), some (.inl c2), none, some (.inl v4)], [], g) (congrArg some (if_neg hc)) ?_
            refine ev_runs 2 (173, [some (.inr (.inr 92)), some (.inl c1), some (.inl c2), none, some (.inl v4)], [], g) (151, [some (.inr (.inr 92)), some (.inl c1), some (.inl c2), none, some (.inl (wr (v4 + (-1))))], [], g) rfl ?_
            exact ev_le (L := [some (.inr (.inr 92)), some (.inl c1), some (.inl c2), none, some (.inl (wr (v4 + (-1))))]) (by simp [Lle]) (ih151 (wr (v4 + (-1))) g r g' h)
        · rw [if_neg hc] at h; cases h
      · rw [if_neg hc] at h; cases h
set_option maxRecDepth 100000 in
set_option maxHeartbeats 4000000 in
theorem ev_Md_unfolds_l9 (c1 : Int) (K9_213 : Gx → Option (Int × Gx)) (hK9_213 : ∀ (g : Gx) (r : Int) (g' : Gx), K9_213 g = some (r, g') → Ev 80 213 [none, none, none, none, none] [] g (some (.inl r)) g') : ∀ (n9 : Nat) (v2 v3 : Int) (g : Gx) (r : Int) (g' : Gx), Md_unfolds_l9 c1 K9_213 n9 v2 v3 g = some (r, g') → Ev 80 9 [some (.inr (.inr 92)), some (.inl c1), some (.inl v2), some (.inl v3), none] [] g (some (.inl r)) g' := by
  intro n9
  induction n9 with
  | zero => intro v2 v3 g r g' h; cases h
  | succ n9 ih9 =>
    intro v2 v3 g r g' h
    rw [Md_unfolds_l9] at h
    refine ev_runs 1 (9, [some (.inr (.inr 92)), some (.inl c1), some (.inl v2), some (.inl v3), none], [], g) (10, [some (.inr (.inr 92)), some (.inl c1), some (.inl v2), some (.inl v3), none], [.inl v3], g) rfl ?_
    by_cases hc : v3 = 0
    · rw [if_pos hc] at h
      refine es (213, [some (.inr (.inr 92)), some (.inl c1), some (.inl v2), some (.inl v3), none], [], g) (congrArg some (if_pos hc)) ?_
      exact ev_le (L := [none, none, none, none, none]) (by simp [Lle]) (hK9_213 g r g' h)
    · rw [if_neg hc] at h
      refine es (13, [some (.inr (.inr 92)), some (.inl c1), some (.inl v2), some (.inl v3), none], [], g) (congrArg some (if_neg hc)) ?_
      refine ev_runs 3 (13, [some (.inr (.inr 92)), some (.inl c1), some (.inl v2), some (.inl v3), none], [], g) (16, [some (.inr (.inr 92)), some (.inl c1), some (.inl v2), some (.inl v3), none], [.inl c1, .inl v2, .inr (.inr 92)], g) rfl ?_
      obtain ⟨q1, hq, h⟩ := Option.bind_eq_some_iff.mp h
      refine ec 79 19 [.inr (.inr 92), .inl v2, .inl c1] [] rfl (ev_Md_goes v2 c1 g q1.1 q1.2 hq) ?_
      show Ev 80 19 [some (.inr (.inr 92)), some (.inl c1), some (.inl v2), some (.inl v3), none] [.inl q1.1] q1.2 _ _
      by_cases hc : q1.1 = 0
      · rw [if_pos hc] at h
        refine es (31, [some (.inr (.inr 92)), some (.inl c1), some (.inl v2), some (.inl v3), none], [], q1.2) (congrArg some (if_pos hc)) ?_
        refine ev_runs 1 (31, [some (.inr (.inr 92)), some (.inl c1), some (.inl v2), some (.inl v3), none], [], q1.2) (33, [some (.inr (.inr 92)), some (.inl c1), some (.inl v2), some (.inl v3), none], [.inl (-4)], q1.2) rfl ?_
        cases h
        exact er rfl
      · rw [if_neg hc] at h
        refine es (22, [some (.inr (.inr 92)), some (.inl c1), some (.inl v2), some (.inl v3), none], [], q1.2) (congrArg some (if_neg hc)) ?_
        refine ev_runs 3 (22, [some (.inr (.inr 92)), some (.inl c1), some (.inl v2), some (.inl v3), none], [], q1.2) (28, [some (.inr (.inr 92)), some (.inl c1), some (.inl v2), some (.inl v3), none], [.inl 30, .inl (q1.2 92 26)], q1.2) rfl ?_
        by_cases hc : ¬ (q1.2 92 26) = 30
        · rw [if_pos hc] at h
          refine es (34, [some (.inr (.inr 92)), some (.inl c1), some (.inl v2), some (.inl v3), none], [], q1.2) (congrArg some (if_pos hc)) ?_
          refine ev_runs 6 (34, [some (.inr (.inr 92)), some (.inl c1), some (.inl v2), some (.inl v3), none], [], q1.2) (46, [some (.inr (.inr 92)), some (.inl c1), some (.inl v2), some (.inl v3), none], [.inl (q1.2 92 36), .inl (q1.2 92 26), .inr (.inr 110)], q1.2) rfl ?_
          by_cases hc : 0 ≤ (q1.2 92 26) ∧ (q1.2 92 26) < 30
          · rw [if_pos hc] at h
            refine es (47, [some (.inr (.inr 92)), some (.inl c1), some (.inl v2), some (.inl v3), none], [], (gset q1.2 110 ((q1.2 92 26).toNat) (q1.2 92 36))) (if_pos hc) ?_
            refine ev_runs 2 (47, [some (.inr (.inr 92)), some (.inl c1), some (.inl v2), some (.inl v3), none], [], (gset q1.2 110 ((q1.2 92 26).toNat) (q1.2 92 36))) (50, [some (.inr (.inr 92)), some (.inl c1), some (.inl v2), some (.inl v3), some (.inl 0)], [], (gset q1.2 110 ((q1.2 92 26).toNat) (q1.2 92 36))) rfl ?_
            refine ev_le (L := [some (.inr (.inr 92)), some (.inl c1), some (.inl v2), none, some (.inl 0)]) (by simp [Lle]) ?_
            refine ev_Md_unfolds_l50 c1 v2 _ ?_ fu 0 (gset q1.2 110 ((q1.2 92 26).toNat) (q1.2 92 36)) r g' h
            · intro g2 r g' h
              refine ev_runs 11 (133, [some (.inr (.inr 92)), some (.inl c1), some (.inl v2), none, none], [], g2) (151, [some (.inr (.inr 92)), some (.inl c1), some (.inl v2), none, some (.inl (wr ((g2 92 35) - 1)))], [], (gset g2 92 26 (wr ((g2 92 26) + 1)))) rfl ?_
              refine ev_le (L := [some (.inr (.inr 92)), some (.inl c1), some (.inl v2), none, some (.inl (wr ((g2 92 35) - 1)))]) (by simp [Lle]) ?_
              refine ev_Md_unfolds_l151 c1 v2 _ ?_ fu (wr ((g2 92 35) - 1)) (gset g2 92 26 (wr ((g2 92 26) + 1))) r g' h
              · intro x3 g4 r g' h
                refine ev_runs 1 (179, [some (.inr (.inr 92)), some (.inl c1), some (.inl v2), none, some (.inl x3)], [], g4) (181, [some (.inr (.inr 92)), some (.inl c1), some (.inl v2), none, some (.inl x3)], [.inl x3], g4) rfl ?_
                obtain ⟨y5, hy5, h⟩ := lett_inv h
                have hjy5 : Ev 80 189 [some (.inr (.inr 92)), some (.inl c1), some (.inl v2), none, some (.inl x3)] [.inl y5] g4 (some (.inl r)) g' := by
                  refine ev_runs 2 (189, [some (.inr (.inr 92)), some (.inl c1), some (.inl v2), none, some (.inl x3)], [.inl y5], g4) (191, [some (.inr (.inr 92)), some (.inl c1), some (.inl v2), some (.inl y5), some (.inl x3)], [.inl y5], g4) rfl ?_
                  by_cases hc : y5 = 0
                  · rw [if_pos hc] at h
                    refine es (210, [some (.inr (.inr 92)), some (.inl c1), some (.inl v2), some (.inl y5), some (.inl x3)], [], g4) (congrArg some (if_pos hc)) ?_
                    refine ev_runs 1 (210, [some (.inr (.inr 92)), some (.inl c1), some (.inl v2), some (.inl y5), some (.inl x3)], [], g4) (9, [some (.inr (.inr 92)), some (.inl c1), some (.inl v2), some (.inl y5), some (.inl x3)], [], g4) rfl ?_
                    exact ev_le (L := [some (.inr (.inr 92)), some (.inl c1), some (.inl v2), some (.inl y5), none]) (by simp [Lle]) (ih9 v2 y5 g4 r g' h)
                  · rw [if_neg hc] at h
                    refine es (194, [some (.inr (.inr 92)), some (.inl c1), some (.inl v2), some (.inl y5), some (.inl x3)], [], g4) (congrArg some (if_neg hc)) ?_
                    refine ev_runs 4 (194, [some (.inr (.inr 92)), some (.inl c1), some (.inl v2), some (.inl y5), some (.inl x3)], [], g4) (201, [some (.inr (.inr 92)), some (.inl c1), some (.inl v2), some (.inl y5), some (.inl x3)], [.inl x3, .inr (.inr 114), .inl x3, .inr (.inr 114)], g4) rfl ?_
                    by_cases hc : 0 ≤ x3 ∧ x3 < 30
                    · rw [if_pos hc] at h
                      refine es (202, [some (.inr (.inr 92)), some (.inl c1), some (.inl v2), some (.inl y5), some (.inl x3)], [.inl (g4 114 x3.toNat), .inl x3, .inr (.inr 114)], g4) (if_pos hc) ?_
                      refine ev_runs 2 (202, [some (.inr (.inr 92)), some (.inl c1), some (.inl v2), some (.inl y5), some (.inl x3)], [.inl (g4 114 x3.toNat), .inl x3, .inr (.inr 114)], g4) (204, [some (.inr (.inr 92)), some (.inl c1), some (.inl v2), some (.inl y5), some (.inl x3)], [.inl (wr ((g4 114 x3.toNat) + 1)), .inl x3, .inr (.inr 114)], g4) rfl ?_
                      by_cases hc : 0 ≤ x3 ∧ x3 < 30
                      · rw [if_pos hc] at h
                        refine es (205, [some (.inr (.inr 92)), some (.inl c1), some (.inl v2), some (.inl y5), some (.inl x3)], [], (gset g4 114 x3.toNat (wr ((g4 114 x3.toNat) + 1)))) (if_pos hc) ?_
                        refine ev_runs 5 (205, [some (.inr (.inr 92)), some (.inl c1), some (.inl v2), some (.inl y5), some (.inl x3)], [], (gset g4 114 x3.toNat (wr ((g4 114 x3.toNat) + 1)))) (9, [some (.inr (.inr 92)), some (.inl c1), some (.inl (wr (x3 + 1))), some (.inl y5), some (.inl x3)], [], (gset g4 114 x3.toNat (wr ((g4 114 x3.toNat) + 1)))) rfl ?_
                        exact ev_le (L := [some (.inr (.inr 92)), some (.inl c1), some (.inl (wr (x3 + 1))), some (.inl y5), none]) (by simp [Lle]) (ih9 (wr (x3 + 1)) y5 (gset g4 114 x3.toNat (wr ((g4 114 x3.toNat) + 1))) r g' h)
                      · rw [if_neg hc] at h; cases h
                    · rw [if_neg hc] at h; cases h
                by_cases hc : x3 < 0
                · rw [if_pos hc] at hy5
                  refine es (188, [some (.inr (.inr 92)), some (.inl c1), some (.inl v2), none, some (.inl x3)], [], g4) (congrArg some (if_pos hc)) ?_
                  refine ev_runs 1 (188, [some (.inr (.inr 92)), some (.inl c1), some (.inl v2), none, some (.inl x3)], [], g4) (189, [some (.inr (.inr 92)), some (.inl c1), some (.inl v2), none, some (.inl x3)], [.inl 0], g4) rfl ?_
                  rw [hy5] at hjy5
                  exact ev_le (L := [some (.inr (.inr 92)), some (.inl c1), some (.inl v2), none, some (.inl x3)]) (by simp [Lle]) hjy5
                · rw [if_neg hc] at hy5
                  refine es (184, [some (.inr (.inr 92)), some (.inl c1), some (.inl v2), none, some (.inl x3)], [], g4) (congrArg some (if_neg hc)) ?_
                  refine ev_runs 2 (184, [some (.inr (.inr 92)), some (.inl c1), some (.inl v2), none, some (.inl x3)], [], g4) (189, [some (.inr (.inr 92)), some (.inl c1), some (.inl v2), none, some (.inl x3)], [.inl 1], g4) rfl ?_
                  rw [hy5] at hjy5
                  exact ev_le (L := [some (.inr (.inr 92)), some (.inl c1), some (.inl v2), none, some (.inl x3)]) (by simp [Lle]) hjy5
          · rw [if_neg hc] at h; cases h
        · rw [if_neg hc] at h
          refine es (31, [some (.inr (.inr 92)), some (.inl c1), some (.inl v2), some (.inl v3), none], [], q1.2) (congrArg some (if_neg hc)) ?_
          refine ev_runs 1 (31, [some (.inr (.inr 92)), some (.inl c1), some (.inl v2), some (.inl v3), none], [], q1.2) (33, [some (.inr (.inr 92)), some (.inl c1), some (.inl v2), some (.inl v3), none], [.inl (-4)], q1.2) rfl ?_
          cases h
          exact er rfl
set_option maxRecDepth 100000 in
set_option maxHeartbeats 4000000 in
theorem ev_Md_unfolds (a1 : Int) (g : Gx) (r : Int) (g' : Gx) (h : Md_unfolds a1 g = some (r, g')) : Ev 80 0 [some (.inr (.inr 92)), some (.inl a1), none, none, none] [] g (some (.inl r)) g' := by
  rw [Md_unfolds] at h
  refine ev_runs 7 (0, [some (.inr (.inr 92)), some (.inl a1), none, none, none], [], g) (9, [some (.inr (.inr 92)), some (.inl a1), some (.inl 0), some (.inl 1), none], [], (gset g 92 26 0)) rfl ?_
  refine ev_le (L := [some (.inr (.inr 92)), some (.inl a1), some (.inl 0), some (.inl 1), none]) (by simp [Lle]) ?_
  refine ev_Md_unfolds_l9 a1 _ ?_ fu 0 1 (gset g 92 26 0) r g' h
  · intro g6 r g' h
    refine ev_runs 1 (213, [none, none, none, none, none], [], g6) (214, [none, none, none, none, none], [.inl 0], g6) rfl ?_
    cases h
    exact er rfl
set_option maxRecDepth 100000 in
set_option maxHeartbeats 4000000 in
theorem ev_Md_without (g : Gx) (r : Int) (g' : Gx) (h : Md_without g = some (r, g')) : Ev 81 0 [some (.inr (.inr 92))] [] g (some (.inl r)) g' := by
  rw [Md_without] at h
  refine ev_runs 1 (0, [some (.inr (.inr 92))], [], g) (1, [some (.inr (.inr 92))], [.inr (.inr 92)], g) rfl ?_
  obtain ⟨q1, hq, h⟩ := Option.bind_eq_some_iff.mp h
  refine ec 43 4 [.inr (.inr 92)] [] rfl (ev_Md_reads g q1.1 q1.2 hq) ?_
  show Ev 81 4 [some (.inr (.inr 92))] [.inl q1.1] q1.2 _ _
  refine ev_runs 1 (4, [some (.inr (.inr 92))], [.inl q1.1], q1.2) (5, [some (.inr (.inr 92))], [.inl (-1), .inl q1.1], q1.2) rfl ?_
  by_cases hc : ¬ q1.1 = (-1)
  · rw [if_pos hc] at h
    refine es (19, [some (.inr (.inr 92))], [], q1.2) (congrArg some (if_pos hc)) ?_
    refine ev_runs 1 (19, [some (.inr (.inr 92))], [], q1.2) (21, [some (.inr (.inr 92))], [.inl (-3)], q1.2) rfl ?_
    cases h
    exact er rfl
  · rw [if_neg hc] at h
    refine es (8, [some (.inr (.inr 92))], [], q1.2) (congrArg some (if_neg hc)) ?_
    refine ev_runs 3 (8, [some (.inr (.inr 92))], [], q1.2) (13, [some (.inr (.inr 92))], [.inl (q1.2 92 7), .inr (.inr 92)], q1.2) rfl ?_
    obtain ⟨q2, hq, h⟩ := Option.bind_eq_some_iff.mp h
    refine ec 80 16 [.inr (.inr 92), .inl (q1.2 92 7)] [] rfl (ev_Md_unfolds (q1.2 92 7) q1.2 q2.1 q2.2 hq) ?_
    show Ev 81 16 [some (.inr (.inr 92))] [.inl q2.1] q2.2 _ _
    refine ev_runs 1 (16, [some (.inr (.inr 92))], [.inl q2.1], q2.2) (21, [some (.inr (.inr 92))], [.inl q2.1], q2.2) rfl ?_
    cases h
    exact er rfl
set_option maxRecDepth 100000 in
set_option maxHeartbeats 4000000 in
theorem ev_Md_histories (g : Gx) (r : Int) (g' : Gx) (h : Md_histories g = some (r, g')) : Ev 82 0 [some (.inr (.inr 92)), none] [] g (some (.inl r)) g' := by
  rw [Md_histories] at h
  refine ev_runs 1 (0, [some (.inr (.inr 92)), none], [], g) (1, [some (.inr (.inr 92)), none], [.inr (.inr 92)], g) rfl ?_
  obtain ⟨q1, hq, h⟩ := Option.bind_eq_some_iff.mp h
  refine ec 81 4 [.inr (.inr 92)] [] rfl (ev_Md_without g q1.1 q1.2 hq) ?_
  show Ev 82 4 [some (.inr (.inr 92)), none] [.inl q1.1] q1.2 _ _
  refine ev_runs 2 (4, [some (.inr (.inr 92)), none], [.inl q1.1], q1.2) (6, [some (.inr (.inr 92)), some (.inl q1.1)], [.inl q1.1], q1.2) rfl ?_
  by_cases hc : q1.1 = 0
  · rw [if_pos hc] at h
    refine es (13, [some (.inr (.inr 92)), some (.inl q1.1)], [], q1.2) (congrArg some (if_pos hc)) ?_
    refine ev_runs 2 (13, [some (.inr (.inr 92)), some (.inl q1.1)], [], q1.2) (17, [some (.inr (.inr 92)), some (.inl q1.1)], [.inl (q1.2 92 26)], q1.2) rfl ?_
    cases h
    exact er rfl
  · rw [if_neg hc] at h
    refine es (9, [some (.inr (.inr 92)), some (.inl q1.1)], [], q1.2) (congrArg some (if_neg hc)) ?_
    refine ev_runs 2 (9, [some (.inr (.inr 92)), some (.inl q1.1)], [], q1.2) (17, [some (.inr (.inr 92)), some (.inl q1.1)], [.inl q1.1], q1.2) rfl ?_
    cases h
    exact er rfl
set_option maxRecDepth 100000 in
set_option maxHeartbeats 4000000 in
theorem ev_Op_isHistory (a0 : Int) (g : Gx) (r : Int) (h : Op_isHistory a0 = r) : Ev 83 0 [some (.inl a0)] [] g (some (.inl r)) g := by
  rw [Op_isHistory] at h
  refine ev_runs 1 (0, [some (.inl a0)], [], g) (1, [some (.inl a0)], [.inl a0], g) rfl ?_
  by_cases hc : a0 < 0
  · rw [if_pos hc] at h
    refine es (14, [some (.inl a0)], [], g) (congrArg some (if_pos hc)) ?_
    refine ev_runs 1 (14, [some (.inl a0)], [], g) (15, [some (.inl a0)], [.inl 0], g) rfl ?_
    subst h
    exact er rfl
  · rw [if_neg hc] at h
    refine es (4, [some (.inl a0)], [], g) (congrArg some (if_neg hc)) ?_
    refine ev_runs 2 (4, [some (.inl a0)], [], g) (7, [some (.inl a0)], [.inl 30, .inl a0], g) rfl ?_
    by_cases hc : 30 ≤ a0
    · rw [if_pos hc] at h
      refine es (14, [some (.inl a0)], [], g) (congrArg some (if_pos hc)) ?_
      refine ev_runs 1 (14, [some (.inl a0)], [], g) (15, [some (.inl a0)], [.inl 0], g) rfl ?_
      subst h
      exact er rfl
    · rw [if_neg hc] at h
      refine es (10, [some (.inl a0)], [], g) (congrArg some (if_neg hc)) ?_
      refine ev_runs 2 (10, [some (.inl a0)], [], g) (15, [some (.inl a0)], [.inl 1], g) rfl ?_
      subst h
      exact er rfl
set_option maxRecDepth 100000 in
set_option maxHeartbeats 4000000 in
theorem ev_Hi_length (a1 : Int) (g : Gx) (r : Int) (h : Hi_length a1 g = r) : Ev 84 0 [some (.inr (.inr 33)), some (.inl a1)] [] g (some (.inl r)) g := by
  rw [Hi_length] at h
  refine ev_runs 3 (0, [some (.inr (.inr 33)), some (.inl a1)], [], g) (5, [some (.inr (.inr 33)), some (.inl a1)], [.inl a1, .inr (.inr 36)], g) rfl ?_
  refine ec 13 8 [.inr (.inr 36), .inl a1] [] rfl (ev_Row_at rfl rfl _ _) ?_
  show Ev 84 8 [some (.inr (.inr 33)), some (.inl a1)] [.inl (rat g 37 30 a1)] g _ _
  subst h
  exact er rfl
set_option maxRecDepth 100000 in
set_option maxHeartbeats 4000000 in
theorem ev_Hi_word (a1 a2 : Int) (g : Gx) (r : Int) (h : Hi_word a1 a2 g = r) : Ev 85 0 [some (.inr (.inr 33)), some (.inl a1), some (.inl a2)] [] g (some (.inl r)) g := by
  rw [Hi_word] at h
  refine ev_runs 7 (0, [some (.inr (.inr 33)), some (.inl a1), some (.inl a2)], [], g) (10, [some (.inr (.inr 33)), some (.inl a1), some (.inl a2)], [.inl (wr ((wr (a1 * 24)) + a2)), .inr (.inr 34)], g) rfl ?_
  refine ec 13 13 [.inr (.inr 34), .inl (wr ((wr (a1 * 24)) + a2))] [] rfl (ev_Row_at rfl rfl _ _) ?_
  show Ev 85 13 [some (.inr (.inr 33)), some (.inl a1), some (.inl a2)] [.inl (rat g 35 720 (wr ((wr (a1 * 24)) + a2)))] g _ _
  subst h
  exact er rfl
set_option maxRecDepth 100000 in
set_option maxHeartbeats 4000000 in
theorem ev_Op_said (a1 a2 : Int) (g : Gx) (r : Int) (g' : Gx) (h : Op_said a1 a2 g = some (r, g')) : Ev 86 0 [some (.inr (.inr 0)), some (.inl a1), some (.inl a2), none] [] g (some (.inl r)) g' := by
  rw [Op_said] at h
  refine ev_runs 1 (0, [some (.inr (.inr 0)), some (.inl a1), some (.inl a2), none], [], g) (1, [some (.inr (.inr 0)), some (.inl a1), some (.inl a2), none], [.inl a1], g) rfl ?_
  refine ec 83 4 [.inl a1] [] rfl (ev_Op_isHistory a1 g _ rfl) ?_
  show Ev 86 4 [some (.inr (.inr 0)), some (.inl a1), some (.inl a2), none] [.inl (Op_isHistory a1)] g _ _
  by_cases hc : (Op_isHistory a1) = 0
  · rw [if_pos hc] at h
    refine es (12, [some (.inr (.inr 0)), some (.inl a1), some (.inl a2), none], [], g) (congrArg some (if_pos hc)) ?_
    refine ev_runs 1 (12, [some (.inr (.inr 0)), some (.inl a1), some (.inl a2), none], [], g) (14, [some (.inr (.inr 0)), some (.inl a1), some (.inl a2), none], [.inl (-2)], g) rfl ?_
    cases h
    exact er rfl
  · rw [if_neg hc] at h
    refine es (7, [some (.inr (.inr 0)), some (.inl a1), some (.inl a2), none], [], g) (congrArg some (if_neg hc)) ?_
    refine ev_runs 2 (7, [some (.inr (.inr 0)), some (.inl a1), some (.inl a2), none], [], g) (9, [some (.inr (.inr 0)), some (.inl a1), some (.inl a2), none], [.inl (-1), .inl a2], g) rfl ?_
    by_cases hc : (-1) ≤ a2
    · rw [if_pos hc] at h
      refine es (15, [some (.inr (.inr 0)), some (.inl a1), some (.inl a2), none], [], g) (congrArg some (if_pos hc)) ?_
      refine ev_runs 2 (15, [some (.inr (.inr 0)), some (.inl a1), some (.inl a2), none], [], g) (17, [some (.inr (.inr 0)), some (.inl a1), some (.inl a2), none], [.inl a1, .inr (.inr 0)], g) rfl ?_
      obtain ⟨q1, hq, h⟩ := Option.bind_eq_some_iff.mp h
      refine ec 75 20 [.inr (.inr 0), .inl a1] [] rfl (ev_Op_hindrance a1 g q1.1 q1.2 hq) ?_
      show Ev 86 20 [some (.inr (.inr 0)), some (.inl a1), some (.inl a2), none] [.inl q1.1] q1.2 _ _
      refine ev_runs 2 (20, [some (.inr (.inr 0)), some (.inl a1), some (.inl a2), none], [.inl q1.1], q1.2) (22, [some (.inr (.inr 0)), some (.inl a1), some (.inl a2), some (.inl q1.1)], [.inl q1.1], q1.2) rfl ?_
      by_cases hc : q1.1 = 0
      · rw [if_pos hc] at h
        refine es (27, [some (.inr (.inr 0)), some (.inl a1), some (.inl a2), some (.inl q1.1)], [], q1.2) (congrArg some (if_pos hc)) ?_
        refine ev_runs 2 (27, [some (.inr (.inr 0)), some (.inl a1), some (.inl a2), some (.inl q1.1)], [], q1.2) (29, [some (.inr (.inr 0)), some (.inl a1), some (.inl a2), some (.inl q1.1)], [.inl (-1), .inl a2], q1.2) rfl ?_
        by_cases hc : ¬ a2 = (-1)
        · rw [if_pos hc] at h
          refine es (41, [some (.inr (.inr 0)), some (.inl a1), some (.inl a2), some (.inl q1.1)], [], q1.2) (congrArg some (if_pos hc)) ?_
          refine ev_runs 4 (41, [some (.inr (.inr 0)), some (.inl a1), some (.inl a2), some (.inl q1.1)], [], q1.2) (47, [some (.inr (.inr 0)), some (.inl a1), some (.inl a2), some (.inl q1.1)], [.inl a1, .inr (.inr 33), .inl a2], q1.2) rfl ?_
          refine ec 84 50 [.inr (.inr 33), .inl a1] [.inl a2] rfl (ev_Hi_length a1 q1.2 _ rfl) ?_
          show Ev 86 50 [some (.inr (.inr 0)), some (.inl a1), some (.inl a2), some (.inl q1.1)] [.inl (Hi_length a1 q1.2), .inl a2] q1.2 _ _
          by_cases hc : (Hi_length a1 q1.2) ≤ a2
          · rw [if_pos hc] at h
            refine es (65, [some (.inr (.inr 0)), some (.inl a1), some (.inl a2), some (.inl q1.1)], [], q1.2) (congrArg some (if_pos hc)) ?_
            refine ev_runs 1 (65, [some (.inr (.inr 0)), some (.inl a1), some (.inl a2), some (.inl q1.1)], [], q1.2) (66, [some (.inr (.inr 0)), some (.inl a1), some (.inl a2), some (.inl q1.1)], [.inl (-1)], q1.2) rfl ?_
            cases h
            exact er rfl
          · rw [if_neg hc] at h
            refine es (53, [some (.inr (.inr 0)), some (.inl a1), some (.inl a2), some (.inl q1.1)], [], q1.2) (congrArg some (if_neg hc)) ?_
            refine ev_runs 4 (53, [some (.inr (.inr 0)), some (.inl a1), some (.inl a2), some (.inl q1.1)], [], q1.2) (59, [some (.inr (.inr 0)), some (.inl a1), some (.inl a2), some (.inl q1.1)], [.inl a2, .inl a1, .inr (.inr 33)], q1.2) rfl ?_
            refine ec 85 62 [.inr (.inr 33), .inl a1, .inl a2] [] rfl (ev_Hi_word a1 a2 q1.2 _ rfl) ?_
            show Ev 86 62 [some (.inr (.inr 0)), some (.inl a1), some (.inl a2), some (.inl q1.1)] [.inl (Hi_word a1 a2 q1.2)] q1.2 _ _
            refine ev_runs 1 (62, [some (.inr (.inr 0)), some (.inl a1), some (.inl a2), some (.inl q1.1)], [.inl (Hi_word a1 a2 q1.2)], q1.2) (66, [some (.inr (.inr 0)), some (.inl a1), some (.inl a2), some (.inl q1.1)], [.inl (Hi_word a1 a2 q1.2)], q1.2) rfl ?_
            cases h
            exact er rfl
        · rw [if_neg hc] at h
          refine es (32, [some (.inr (.inr 0)), some (.inl a1), some (.inl a2), some (.inl q1.1)], [], q1.2) (congrArg some (if_neg hc)) ?_
          refine ev_runs 3 (32, [some (.inr (.inr 0)), some (.inl a1), some (.inl a2), some (.inl q1.1)], [], q1.2) (37, [some (.inr (.inr 0)), some (.inl a1), some (.inl a2), some (.inl q1.1)], [.inl a1, .inr (.inr 33)], q1.2) rfl ?_
          refine ec 84 40 [.inr (.inr 33), .inl a1] [] rfl (ev_Hi_length a1 q1.2 _ rfl) ?_
          show Ev 86 40 [some (.inr (.inr 0)), some (.inl a1), some (.inl a2), some (.inl q1.1)] [.inl (Hi_length a1 q1.2)] q1.2 _ _
          cases h
          exact er rfl
      · rw [if_neg hc] at h
        refine es (25, [some (.inr (.inr 0)), some (.inl a1), some (.inl a2), some (.inl q1.1)], [], q1.2) (congrArg some (if_neg hc)) ?_
        refine ev_runs 1 (25, [some (.inr (.inr 0)), some (.inl a1), some (.inl a2), some (.inl q1.1)], [], q1.2) (26, [some (.inr (.inr 0)), some (.inl a1), some (.inl a2), some (.inl q1.1)], [.inl q1.1], q1.2) rfl ?_
        cases h
        exact er rfl
    · rw [if_neg hc] at h
      refine es (12, [some (.inr (.inr 0)), some (.inl a1), some (.inl a2), none], [], g) (congrArg some (if_neg hc)) ?_
      refine ev_runs 1 (12, [some (.inr (.inr 0)), some (.inl a1), some (.inl a2), none], [], g) (14, [some (.inr (.inr 0)), some (.inl a1), some (.inl a2), none], [.inl (-2)], g) rfl ?_
      cases h
      exact er rfl
set_option maxRecDepth 100000 in
set_option maxHeartbeats 4000000 in
theorem ev_Md_isHistory (a0 : Int) (g : Gx) (r : Int) (h : Md_isHistory a0 = r) : Ev 87 0 [some (.inl a0)] [] g (some (.inl r)) g := by
  rw [Md_isHistory] at h
  refine ev_runs 4 (0, [some (.inl a0)], [], g) (6, [some (.inl a0)], [.inr (.inl 29), .inr (.inl 0), .inr (.inl a0)], g) rfl ?_
  refine ec 4 9 [.inr (.inl a0), .inr (.inl 0), .inr (.inl 29)] [] rfl (ev_Md_in a0 0 29 g _ rfl) ?_
  show Ev 87 9 [some (.inl a0)] [.inl (Md_in a0 0 29)] g _ _
  subst h
  exact er (if_pos (bo_Md_in a0 0 29))
set_option maxRecDepth 100000 in
set_option maxHeartbeats 4000000 in
theorem ev_Md_lacksOne (a1 : Int) (g : Gx) (r : Int) (g' : Gx) (h : Md_lacksOne a1 g = some (r, g')) : Ev 88 0 [some (.inr (.inr 92)), some (.inl a1), none] [] g (some (.inl r)) g' := by
  rw [Md_lacksOne] at h
  refine ev_runs 1 (0, [some (.inr (.inr 92)), some (.inl a1), none], [], g) (1, [some (.inr (.inr 92)), some (.inl a1), none], [.inr (.inr 92)], g) rfl ?_
  obtain ⟨q1, hq, h⟩ := Option.bind_eq_some_iff.mp h
  refine ec 81 4 [.inr (.inr 92)] [] rfl (ev_Md_without g q1.1 q1.2 hq) ?_
  show Ev 88 4 [some (.inr (.inr 92)), some (.inl a1), none] [.inl q1.1] q1.2 _ _
  refine ev_runs 2 (4, [some (.inr (.inr 92)), some (.inl a1), none], [.inl q1.1], q1.2) (6, [some (.inr (.inr 92)), some (.inl a1), some (.inl q1.1)], [.inl q1.1], q1.2) rfl ?_
  by_cases hc : q1.1 = 0
  · rw [if_pos hc] at h
    refine es (13, [some (.inr (.inr 92)), some (.inl a1), some (.inl q1.1)], [], q1.2) (congrArg some (if_pos hc)) ?_
    refine ev_runs 3 (13, [some (.inr (.inr 92)), some (.inl a1), some (.inl q1.1)], [], q1.2) (18, [some (.inr (.inr 92)), some (.inl a1), some (.inl q1.1)], [.inl (q1.2 92 26), .inl a1], q1.2) rfl ?_
    by_cases hc : (q1.2 92 26) ≤ a1
    · rw [if_pos hc] at h
      refine es (25, [some (.inr (.inr 92)), some (.inl a1), some (.inl q1.1)], [], q1.2) (congrArg some (if_pos hc)) ?_
      refine ev_runs 1 (25, [some (.inr (.inr 92)), some (.inl a1), some (.inl q1.1)], [], q1.2) (27, [some (.inr (.inr 92)), some (.inl a1), some (.inl q1.1)], [.inl (-2)], q1.2) rfl ?_
      cases h
      exact er rfl
    · rw [if_neg hc] at h
      refine es (21, [some (.inr (.inr 92)), some (.inl a1), some (.inl q1.1)], [], q1.2) (congrArg some (if_neg hc)) ?_
      refine ev_runs 2 (21, [some (.inr (.inr 92)), some (.inl a1), some (.inl q1.1)], [], q1.2) (27, [some (.inr (.inr 92)), some (.inl a1), some (.inl q1.1)], [.inl 0], q1.2) rfl ?_
      cases h
      exact er rfl
  · rw [if_neg hc] at h
    refine es (9, [some (.inr (.inr 92)), some (.inl a1), some (.inl q1.1)], [], q1.2) (congrArg some (if_neg hc)) ?_
    refine ev_runs 2 (9, [some (.inr (.inr 92)), some (.inl a1), some (.inl q1.1)], [], q1.2) (27, [some (.inr (.inr 92)), some (.inl a1), some (.inl q1.1)], [.inl q1.1], q1.2) rfl ?_
    cases h
    exact er rfl
set_option maxRecDepth 100000 in
set_option maxHeartbeats 4000000 in
theorem ev_Md_code (a1 a2 : Int) (g : Gx) (r : Int) (g' : Gx) (h : Md_code a1 a2 g = some (r, g')) : Ev 89 0 [some (.inr (.inr 92)), some (.inl a1), some (.inl a2)] [] g (some (.inl r)) g' := by
  rw [Md_code] at h
  refine ev_runs 7 (0, [some (.inr (.inr 92)), some (.inl a1), some (.inl a2)], [], g) (10, [some (.inr (.inr 92)), some (.inl a1), some (.inl a2)], [.inl (wr ((wr (24 * a1)) + a2)), .inr (.inr 111)], g) rfl ?_
  by_cases hc : 0 ≤ (wr ((wr (24 * a1)) + a2)) ∧ (wr ((wr (24 * a1)) + a2)) < 720
  · rw [if_pos hc] at h
    refine es (11, [some (.inr (.inr 92)), some (.inl a1), some (.inl a2)], [.inl (g 111 (wr ((wr (24 * a1)) + a2)).toNat)], g) (if_pos hc) ?_
    cases h
    exact er rfl
  · rw [if_neg hc] at h; cases h
set_option maxRecDepth 100000 in
set_option maxHeartbeats 4000000 in
theorem ev_Md_said (a1 a2 : Int) (g : Gx) (r : Int) (g' : Gx) (h : Md_said a1 a2 g = some (r, g')) : Ev 90 0 [some (.inr (.inr 92)), some (.inl a1), some (.inl a2), none] [] g (some (.inl r)) g' := by
  rw [Md_said] at h
  refine ev_runs 1 (0, [some (.inr (.inr 92)), some (.inl a1), some (.inl a2), none], [], g) (1, [some (.inr (.inr 92)), some (.inl a1), some (.inl a2), none], [.inl a1], g) rfl ?_
  refine ec 87 4 [.inl a1] [] rfl (ev_Md_isHistory a1 g _ rfl) ?_
  show Ev 90 4 [some (.inr (.inr 92)), some (.inl a1), some (.inl a2), none] [.inl (Md_isHistory a1)] g _ _
  by_cases hc : (Md_isHistory a1) = 0
  · rw [if_pos hc] at h
    refine es (12, [some (.inr (.inr 92)), some (.inl a1), some (.inl a2), none], [], g) (congrArg some (if_pos hc)) ?_
    refine ev_runs 1 (12, [some (.inr (.inr 92)), some (.inl a1), some (.inl a2), none], [], g) (14, [some (.inr (.inr 92)), some (.inl a1), some (.inl a2), none], [.inl (-2)], g) rfl ?_
    cases h
    exact er rfl
  · rw [if_neg hc] at h
    refine es (7, [some (.inr (.inr 92)), some (.inl a1), some (.inl a2), none], [], g) (congrArg some (if_neg hc)) ?_
    refine ev_runs 2 (7, [some (.inr (.inr 92)), some (.inl a1), some (.inl a2), none], [], g) (9, [some (.inr (.inr 92)), some (.inl a1), some (.inl a2), none], [.inl (-1), .inl a2], g) rfl ?_
    by_cases hc : (-1) ≤ a2
    · rw [if_pos hc] at h
      refine es (15, [some (.inr (.inr 92)), some (.inl a1), some (.inl a2), none], [], g) (congrArg some (if_pos hc)) ?_
      refine ev_runs 2 (15, [some (.inr (.inr 92)), some (.inl a1), some (.inl a2), none], [], g) (17, [some (.inr (.inr 92)), some (.inl a1), some (.inl a2), none], [.inl a1, .inr (.inr 92)], g) rfl ?_
      obtain ⟨q1, hq, h⟩ := Option.bind_eq_some_iff.mp h
      refine ec 88 20 [.inr (.inr 92), .inl a1] [] rfl (ev_Md_lacksOne a1 g q1.1 q1.2 hq) ?_
      show Ev 90 20 [some (.inr (.inr 92)), some (.inl a1), some (.inl a2), none] [.inl q1.1] q1.2 _ _
      refine ev_runs 2 (20, [some (.inr (.inr 92)), some (.inl a1), some (.inl a2), none], [.inl q1.1], q1.2) (22, [some (.inr (.inr 92)), some (.inl a1), some (.inl a2), some (.inl q1.1)], [.inl q1.1], q1.2) rfl ?_
      by_cases hc : q1.1 = 0
      · rw [if_pos hc] at h
        refine es (27, [some (.inr (.inr 92)), some (.inl a1), some (.inl a2), some (.inl q1.1)], [], q1.2) (congrArg some (if_pos hc)) ?_
        refine ev_runs 2 (27, [some (.inr (.inr 92)), some (.inl a1), some (.inl a2), some (.inl q1.1)], [], q1.2) (29, [some (.inr (.inr 92)), some (.inl a1), some (.inl a2), some (.inl q1.1)], [.inl (-1), .inl a2], q1.2) rfl ?_
        by_cases hc : ¬ a2 = (-1)
        · rw [if_pos hc] at h
          refine es (41, [some (.inr (.inr 92)), some (.inl a1), some (.inl a2), some (.inl q1.1)], [], q1.2) (congrArg some (if_pos hc)) ?_
          refine ev_runs 4 (41, [some (.inr (.inr 92)), some (.inl a1), some (.inl a2), some (.inl q1.1)], [], q1.2) (47, [some (.inr (.inr 92)), some (.inl a1), some (.inl a2), some (.inl q1.1)], [.inl a1, .inr (.inr 110), .inl a2], q1.2) rfl ?_
          by_cases hc : 0 ≤ a1 ∧ a1 < 30
          · rw [if_pos hc] at h
            refine es (48, [some (.inr (.inr 92)), some (.inl a1), some (.inl a2), some (.inl q1.1)], [.inl (q1.2 110 a1.toNat), .inl a2], q1.2) (if_pos hc) ?_
            by_cases hc : (q1.2 110 a1.toNat) ≤ a2
            · rw [if_pos hc] at h
              refine es (60, [some (.inr (.inr 92)), some (.inl a1), some (.inl a2), some (.inl q1.1)], [], q1.2) (congrArg some (if_pos hc)) ?_
              refine ev_runs 1 (60, [some (.inr (.inr 92)), some (.inl a1), some (.inl a2), some (.inl q1.1)], [], q1.2) (61, [some (.inr (.inr 92)), some (.inl a1), some (.inl a2), some (.inl q1.1)], [.inl (-1)], q1.2) rfl ?_
              cases h
              exact er rfl
            · rw [if_neg hc] at h
              refine es (51, [some (.inr (.inr 92)), some (.inl a1), some (.inl a2), some (.inl q1.1)], [], q1.2) (congrArg some (if_neg hc)) ?_
              refine ev_runs 3 (51, [some (.inr (.inr 92)), some (.inl a1), some (.inl a2), some (.inl q1.1)], [], q1.2) (54, [some (.inr (.inr 92)), some (.inl a1), some (.inl a2), some (.inl q1.1)], [.inl a2, .inl a1, .inr (.inr 92)], q1.2) rfl ?_
              obtain ⟨q2, hq, h⟩ := Option.bind_eq_some_iff.mp h
              refine ec 89 57 [.inr (.inr 92), .inl a1, .inl a2] [] rfl (ev_Md_code a1 a2 q1.2 q2.1 q2.2 hq) ?_
              show Ev 90 57 [some (.inr (.inr 92)), some (.inl a1), some (.inl a2), some (.inl q1.1)] [.inl q2.1] q2.2 _ _
              refine ev_runs 1 (57, [some (.inr (.inr 92)), some (.inl a1), some (.inl a2), some (.inl q1.1)], [.inl q2.1], q2.2) (61, [some (.inr (.inr 92)), some (.inl a1), some (.inl a2), some (.inl q1.1)], [.inl q2.1], q2.2) rfl ?_
              cases h
              exact er rfl
          · rw [if_neg hc] at h; cases h
        · rw [if_neg hc] at h
          refine es (32, [some (.inr (.inr 92)), some (.inl a1), some (.inl a2), some (.inl q1.1)], [], q1.2) (congrArg some (if_neg hc)) ?_
          refine ev_runs 3 (32, [some (.inr (.inr 92)), some (.inl a1), some (.inl a2), some (.inl q1.1)], [], q1.2) (37, [some (.inr (.inr 92)), some (.inl a1), some (.inl a2), some (.inl q1.1)], [.inl a1, .inr (.inr 110)], q1.2) rfl ?_
          by_cases hc : 0 ≤ a1 ∧ a1 < 30
          · rw [if_pos hc] at h
            refine es (38, [some (.inr (.inr 92)), some (.inl a1), some (.inl a2), some (.inl q1.1)], [.inl (q1.2 110 a1.toNat)], q1.2) (if_pos hc) ?_
            refine ev_runs 1 (38, [some (.inr (.inr 92)), some (.inl a1), some (.inl a2), some (.inl q1.1)], [.inl (q1.2 110 a1.toNat)], q1.2) (61, [some (.inr (.inr 92)), some (.inl a1), some (.inl a2), some (.inl q1.1)], [.inl (q1.2 110 a1.toNat)], q1.2) rfl ?_
            cases h
            exact er rfl
          · rw [if_neg hc] at h; cases h
      · rw [if_neg hc] at h
        refine es (25, [some (.inr (.inr 92)), some (.inl a1), some (.inl a2), some (.inl q1.1)], [], q1.2) (congrArg some (if_neg hc)) ?_
        refine ev_runs 1 (25, [some (.inr (.inr 92)), some (.inl a1), some (.inl a2), some (.inl q1.1)], [], q1.2) (26, [some (.inr (.inr 92)), some (.inl a1), some (.inl a2), some (.inl q1.1)], [.inl q1.1], q1.2) rfl ?_
        cases h
        exact er rfl
    · rw [if_neg hc] at h
      refine es (12, [some (.inr (.inr 92)), some (.inl a1), some (.inl a2), none], [], g) (congrArg some (if_neg hc)) ?_
      refine ev_runs 1 (12, [some (.inr (.inr 92)), some (.inl a1), some (.inl a2), none], [], g) (14, [some (.inr (.inr 92)), some (.inl a1), some (.inl a2), none], [.inl (-2)], g) rfl ?_
      cases h
      exact er rfl
set_option maxRecDepth 100000 in
set_option maxHeartbeats 4000000 in
theorem ev_Op_isTalker (a0 : Int) (g : Gx) (r : Int) (h : Op_isTalker a0 = r) : Ev 91 0 [some (.inl a0)] [] g (some (.inl r)) g := by
  rw [Op_isTalker] at h
  refine ev_runs 1 (0, [some (.inl a0)], [], g) (1, [some (.inl a0)], [.inl a0], g) rfl ?_
  by_cases hc : a0 < 0
  · rw [if_pos hc] at h
    refine es (14, [some (.inl a0)], [], g) (congrArg some (if_pos hc)) ?_
    refine ev_runs 1 (14, [some (.inl a0)], [], g) (15, [some (.inl a0)], [.inl 0], g) rfl ?_
    subst h
    exact er rfl
  · rw [if_neg hc] at h
    refine es (4, [some (.inl a0)], [], g) (congrArg some (if_neg hc)) ?_
    refine ev_runs 2 (4, [some (.inl a0)], [], g) (7, [some (.inl a0)], [.inl 6, .inl a0], g) rfl ?_
    by_cases hc : 6 ≤ a0
    · rw [if_pos hc] at h
      refine es (14, [some (.inl a0)], [], g) (congrArg some (if_pos hc)) ?_
      refine ev_runs 1 (14, [some (.inl a0)], [], g) (15, [some (.inl a0)], [.inl 0], g) rfl ?_
      subst h
      exact er rfl
    · rw [if_neg hc] at h
      refine es (10, [some (.inl a0)], [], g) (congrArg some (if_neg hc)) ?_
      refine ev_runs 2 (10, [some (.inl a0)], [], g) (15, [some (.inl a0)], [.inl 1], g) rfl ?_
      subst h
      exact er rfl
set_option maxRecDepth 100000 in
set_option maxHeartbeats 4000000 in
theorem ev_Op_sayer (a0 : Int) (g : Gx) (r : Int) (h : Op_sayer a0 = r) : Ev 92 0 [some (.inl a0)] [] g (some (.inl r)) g := by
  rw [Op_sayer] at h
  refine ev_runs 3 (0, [some (.inl a0)], [], g) (5, [some (.inl a0)], [.inl (jdiv a0 1000)], g) rfl ?_
  subst h
  exact er rfl
set_option maxRecDepth 100000 in
set_option maxHeartbeats 4000000 in
theorem ev_Op_getter (a0 : Int) (g : Gx) (r : Int) (h : Op_getter a0 = r) : Ev 93 0 [some (.inl a0)] [] g (some (.inl r)) g := by
  rw [Op_getter] at h
  refine ev_runs 5 (0, [some (.inl a0)], [], g) (7, [some (.inl a0)], [.inl (jrem (jdiv a0 100) 10)], g) rfl ?_
  subst h
  exact er rfl
set_option maxRecDepth 100000 in
set_option maxHeartbeats 4000000 in
theorem ev_Lk_load_l18 (c1 : Int) (c2 : Int) (K18_108 : Int → Gx → Option Gx) (hK18_108 : ∀ (x3 : Int) (g : Gx) (g' : Gx), K18_108 x3 g = some g' → Ev 94 108 [some (.inr (.inr 50)), some (.inl c1), some (.inl c2), some (.inl x3), none, none, none] [] g none g') : ∀ (n18 : Nat) (v3 v4 : Int) (g : Gx) (g' : Gx), Lk_load_l18 c1 c2 K18_108 n18 v3 v4 g = some g' → Ev 94 18 [some (.inr (.inr 50)), some (.inl c1), some (.inl c2), some (.inl v3), some (.inl v4), none, none] [] g none g' := by
  intro n18
  induction n18 with
  | zero => intro v3 v4 g g' h; cases h
  | succ n18 ih18 =>
    intro v3 v4 g g' h
    rw [Lk_load_l18] at h
    refine ev_runs 4 (18, [some (.inr (.inr 50)), some (.inl c1), some (.inl c2), some (.inl v3), some (.inl v4), none, none], [], g) (25, [some (.inr (.inr 50)), some (.inl c1), some (.inl c2), some (.inl v3), some (.inl v4), none, none], [.inl c2, .inr (.inr 33), .inl v4], g) rfl ?_
    refine ec 84 28 [.inr (.inr 33), .inl c2] [.inl v4] rfl (ev_Hi_length c2 g _ rfl) ?_
    show Ev 94 28 [some (.inr (.inr 50)), some (.inl c1), some (.inl c2), some (.inl v3), some (.inl v4), none, none] [.inl (Hi_length c2 g), .inl v4] g _ _
    by_cases hc : (Hi_length c2 g) ≤ v4
    · rw [if_pos hc] at h
      refine es (108, [some (.inr (.inr 50)), some (.inl c1), some (.inl c2), some (.inl v3), some (.inl v4), none, none], [], g) (congrArg some (if_pos hc)) ?_
      exact ev_le (L := [some (.inr (.inr 50)), some (.inl c1), some (.inl c2), some (.inl v3), none, none, none]) (by simp [Lle]) (hK18_108 v3 g g' h)
    · rw [if_neg hc] at h
      refine es (31, [some (.inr (.inr 50)), some (.inl c1), some (.inl c2), some (.inl v3), some (.inl v4), none, none], [], g) (congrArg some (if_neg hc)) ?_
      refine ev_runs 4 (31, [some (.inr (.inr 50)), some (.inl c1), some (.inl c2), some (.inl v3), some (.inl v4), none, none], [], g) (38, [some (.inr (.inr 50)), some (.inl c1), some (.inl c2), some (.inl v3), some (.inl v4), none, none], [.inl v4, .inl c2, .inr (.inr 33)], g) rfl ?_
      refine ec 85 41 [.inr (.inr 33), .inl c2, .inl v4] [] rfl (ev_Hi_word c2 v4 g _ rfl) ?_
      show Ev 94 41 [some (.inr (.inr 50)), some (.inl c1), some (.inl c2), some (.inl v3), some (.inl v4), none, none] [.inl (Hi_word c2 v4 g)] g _ _
      refine ev_runs 2 (41, [some (.inr (.inr 50)), some (.inl c1), some (.inl c2), some (.inl v3), some (.inl v4), none, none], [.inl (Hi_word c2 v4 g)], g) (45, [some (.inr (.inr 50)), some (.inl c1), some (.inl c2), some (.inl v3), some (.inl v4), some (.inl (Hi_word c2 v4 g)), none], [.inl (Hi_word c2 v4 g)], g) rfl ?_
      refine ec 92 48 [.inl (Hi_word c2 v4 g)] [] rfl (ev_Op_sayer (Hi_word c2 v4 g) g _ rfl) ?_
      show Ev 94 48 [some (.inr (.inr 50)), some (.inl c1), some (.inl c2), some (.inl v3), some (.inl v4), some (.inl (Hi_word c2 v4 g)), none] [.inl (Op_sayer (Hi_word c2 v4 g))] g _ _
      refine ev_runs 1 (48, [some (.inr (.inr 50)), some (.inl c1), some (.inl c2), some (.inl v3), some (.inl v4), some (.inl (Hi_word c2 v4 g)), none], [.inl (Op_sayer (Hi_word c2 v4 g))], g) (49, [some (.inr (.inr 50)), some (.inl c1), some (.inl c2), some (.inl v3), some (.inl v4), some (.inl (Hi_word c2 v4 g)), none], [.inl c1, .inl (Op_sayer (Hi_word c2 v4 g))], g) rfl ?_
      by_cases hc : (Op_sayer (Hi_word c2 v4 g)) = c1
      · rw [if_pos hc] at h
        refine es (61, [some (.inr (.inr 50)), some (.inl c1), some (.inl c2), some (.inl v3), some (.inl v4), some (.inl (Hi_word c2 v4 g)), none], [], g) (congrArg some (if_pos hc)) ?_
        refine ev_runs 1 (61, [some (.inr (.inr 50)), some (.inl c1), some (.inl c2), some (.inl v3), some (.inl v4), some (.inl (Hi_word c2 v4 g)), none], [], g) (63, [some (.inr (.inr 50)), some (.inl c1), some (.inl c2), some (.inl v3), some (.inl v4), some (.inl (Hi_word c2 v4 g)), none], [.inl (Hi_word c2 v4 g)], g) rfl ?_
        refine ec 92 66 [.inl (Hi_word c2 v4 g)] [] rfl (ev_Op_sayer (Hi_word c2 v4 g) g _ rfl) ?_
        show Ev 94 66 [some (.inr (.inr 50)), some (.inl c1), some (.inl c2), some (.inl v3), some (.inl v4), some (.inl (Hi_word c2 v4 g)), none] [.inl (Op_sayer (Hi_word c2 v4 g))] g _ _
        refine ev_runs 1 (66, [some (.inr (.inr 50)), some (.inl c1), some (.inl c2), some (.inl v3), some (.inl v4), some (.inl (Hi_word c2 v4 g)), none], [.inl (Op_sayer (Hi_word c2 v4 g))], g) (67, [some (.inr (.inr 50)), some (.inl c1), some (.inl c2), some (.inl v3), some (.inl v4), some (.inl (Hi_word c2 v4 g)), none], [.inl c1, .inl (Op_sayer (Hi_word c2 v4 g))], g) rfl ?_
        obtain ⟨y1, hy1, h⟩ := lett_inv h
        have hjy1 : Ev 94 79 [some (.inr (.inr 50)), some (.inl c1), some (.inl c2), some (.inl v3), some (.inl v4), some (.inl (Hi_word c2 v4 g)), none] [.inl y1] g none g' := by
          refine ev_runs 11 (79, [some (.inr (.inr 50)), some (.inl c1), some (.inl c2), some (.inl v3), some (.inl v4), some (.inl (Hi_word c2 v4 g)), none], [.inl y1], g) (96, [some (.inr (.inr 50)), some (.inl c1), some (.inl c2), some (.inl v3), some (.inl v4), some (.inl (Hi_word c2 v4 g)), some (.inl y1)], [.inl (wr (y1 + (Hi_word c2 v4 g))), .inl (wr ((wr (c2 * 24)) + v3)), .inr (.inr 51)], g) rfl ?_
          refine ec 0 99 [.inr (.inr 51), .inl (wr ((wr (c2 * 24)) + v3)), .inl (wr (y1 + (Hi_word c2 v4 g)))] [] rfl (ev_Row_set rfl rfl _ _ _) ?_
          show Ev 94 99 [some (.inr (.inr 50)), some (.inl c1), some (.inl c2), some (.inl v3), some (.inl v4), some (.inl (Hi_word c2 v4 g)), some (.inl y1)] [] (rset g 52 720 (wr ((wr (c2 * 24)) + v3)) (wr (y1 + (Hi_word c2 v4 g)))) _ _
          refine ev_runs 3 (99, [some (.inr (.inr 50)), some (.inl c1), some (.inl c2), some (.inl v3), some (.inl v4), some (.inl (Hi_word c2 v4 g)), some (.inl y1)], [], (rset g 52 720 (wr ((wr (c2 * 24)) + v3)) (wr (y1 + (Hi_word c2 v4 g))))) (18, [some (.inr (.inr 50)), some (.inl c1), some (.inl c2), some (.inl (wr (v3 + 1))), some (.inl (wr (v4 + 1))), some (.inl (Hi_word c2 v4 g)), some (.inl y1)], [], (rset g 52 720 (wr ((wr (c2 * 24)) + v3)) (wr (y1 + (Hi_word c2 v4 g))))) rfl ?_
          exact ev_le (L := [some (.inr (.inr 50)), some (.inl c1), some (.inl c2), some (.inl (wr (v3 + 1))), some (.inl (wr (v4 + 1))), none, none]) (by simp [Lle]) (ih18 (wr (v3 + 1)) (wr (v4 + 1)) (rset g 52 720 (wr ((wr (c2 * 24)) + v3)) (wr (y1 + (Hi_word c2 v4 g)))) g' h)
        by_cases hc : ¬ (Op_sayer (Hi_word c2 v4 g)) = c1
        · rw [if_pos hc] at hy1
          refine es (76, [some (.inr (.inr 50)), some (.inl c1), some (.inl c2), some (.inl v3), some (.inl v4), some (.inl (Hi_word c2 v4 g)), none], [], g) (congrArg some (if_pos hc)) ?_
          refine ev_runs 1 (76, [some (.inr (.inr 50)), some (.inl c1), some (.inl c2), some (.inl v3), some (.inl v4), some (.inl (Hi_word c2 v4 g)), none], [], g) (79, [some (.inr (.inr 50)), some (.inl c1), some (.inl c2), some (.inl v3), some (.inl v4), some (.inl (Hi_word c2 v4 g)), none], [.inl 20000], g) rfl ?_
          rw [hy1] at hjy1
          exact ev_le (L := [some (.inr (.inr 50)), some (.inl c1), some (.inl c2), some (.inl v3), some (.inl v4), some (.inl (Hi_word c2 v4 g)), none]) (by simp [Lle]) hjy1
        · rw [if_neg hc] at hy1
          refine es (70, [some (.inr (.inr 50)), some (.inl c1), some (.inl c2), some (.inl v3), some (.inl v4), some (.inl (Hi_word c2 v4 g)), none], [], g) (congrArg some (if_neg hc)) ?_
          refine ev_runs 2 (70, [some (.inr (.inr 50)), some (.inl c1), some (.inl c2), some (.inl v3), some (.inl v4), some (.inl (Hi_word c2 v4 g)), none], [], g) (79, [some (.inr (.inr 50)), some (.inl c1), some (.inl c2), some (.inl v3), some (.inl v4), some (.inl (Hi_word c2 v4 g)), none], [.inl 10000], g) rfl ?_
          rw [hy1] at hjy1
          exact ev_le (L := [some (.inr (.inr 50)), some (.inl c1), some (.inl c2), some (.inl v3), some (.inl v4), some (.inl (Hi_word c2 v4 g)), none]) (by simp [Lle]) hjy1
      · rw [if_neg hc] at h
        refine es (52, [some (.inr (.inr 50)), some (.inl c1), some (.inl c2), some (.inl v3), some (.inl v4), some (.inl (Hi_word c2 v4 g)), none], [], g) (congrArg some (if_neg hc)) ?_
        refine ev_runs 1 (52, [some (.inr (.inr 50)), some (.inl c1), some (.inl c2), some (.inl v3), some (.inl v4), some (.inl (Hi_word c2 v4 g)), none], [], g) (54, [some (.inr (.inr 50)), some (.inl c1), some (.inl c2), some (.inl v3), some (.inl v4), some (.inl (Hi_word c2 v4 g)), none], [.inl (Hi_word c2 v4 g)], g) rfl ?_
        refine ec 93 57 [.inl (Hi_word c2 v4 g)] [] rfl (ev_Op_getter (Hi_word c2 v4 g) g _ rfl) ?_
        show Ev 94 57 [some (.inr (.inr 50)), some (.inl c1), some (.inl c2), some (.inl v3), some (.inl v4), some (.inl (Hi_word c2 v4 g)), none] [.inl (Op_getter (Hi_word c2 v4 g))] g _ _
        refine ev_runs 1 (57, [some (.inr (.inr 50)), some (.inl c1), some (.inl c2), some (.inl v3), some (.inl v4), some (.inl (Hi_word c2 v4 g)), none], [.inl (Op_getter (Hi_word c2 v4 g))], g) (58, [some (.inr (.inr 50)), some (.inl c1), some (.inl c2), some (.inl v3), some (.inl v4), some (.inl (Hi_word c2 v4 g)), none], [.inl c1, .inl (Op_getter (Hi_word c2 v4 g))], g) rfl ?_
        by_cases hc : ¬ (Op_getter (Hi_word c2 v4 g)) = c1
        · rw [if_pos hc] at h
          refine es (102, [some (.inr (.inr 50)), some (.inl c1), some (.inl c2), some (.inl v3), some (.inl v4), some (.inl (Hi_word c2 v4 g)), none], [], g) (congrArg some (if_pos hc)) ?_
          refine ev_runs 2 (102, [some (.inr (.inr 50)), some (.inl c1), some (.inl c2), some (.inl v3), some (.inl v4), some (.inl (Hi_word c2 v4 g)), none], [], g) (18, [some (.inr (.inr 50)), some (.inl c1), some (.inl c2), some (.inl v3), some (.inl (wr (v4 + 1))), some (.inl (Hi_word c2 v4 g)), none], [], g) rfl ?_
          exact ev_le (L := [some (.inr (.inr 50)), some (.inl c1), some (.inl c2), some (.inl v3), some (.inl (wr (v4 + 1))), none, none]) (by simp [Lle]) (ih18 v3 (wr (v4 + 1)) g g' h)
        · rw [if_neg hc] at h
          refine es (61, [some (.inr (.inr 50)), some (.inl c1), some (.inl c2), some (.inl v3), some (.inl v4), some (.inl (Hi_word c2 v4 g)), none], [], g) (congrArg some (if_neg hc)) ?_
          refine ev_runs 1 (61, [some (.inr (.inr 50)), some (.inl c1), some (.inl c2), some (.inl v3), some (.inl v4), some (.inl (Hi_word c2 v4 g)), none], [], g) (63, [some (.inr (.inr 50)), some (.inl c1), some (.inl c2), some (.inl v3), some (.inl v4), some (.inl (Hi_word c2 v4 g)), none], [.inl (Hi_word c2 v4 g)], g) rfl ?_
          refine ec 92 66 [.inl (Hi_word c2 v4 g)] [] rfl (ev_Op_sayer (Hi_word c2 v4 g) g _ rfl) ?_
          show Ev 94 66 [some (.inr (.inr 50)), some (.inl c1), some (.inl c2), some (.inl v3), some (.inl v4), some (.inl (Hi_word c2 v4 g)), none] [.inl (Op_sayer (Hi_word c2 v4 g))] g _ _
          refine ev_runs 1 (66, [some (.inr (.inr 50)), some (.inl c1), some (.inl c2), some (.inl v3), some (.inl v4), some (.inl (Hi_word c2 v4 g)), none], [.inl (Op_sayer (Hi_word c2 v4 g))], g) (67, [some (.inr (.inr 50)), some (.inl c1), some (.inl c2), some (.inl v3), some (.inl v4), some (.inl (Hi_word c2 v4 g)), none], [.inl c1, .inl (Op_sayer (Hi_word c2 v4 g))], g) rfl ?_
          obtain ⟨y2, hy2, h⟩ := lett_inv h
          have hjy2 : Ev 94 79 [some (.inr (.inr 50)), some (.inl c1), some (.inl c2), some (.inl v3), some (.inl v4), some (.inl (Hi_word c2 v4 g)), none] [.inl y2] g none g' := by
            refine ev_runs 11 (79, [some (.inr (.inr 50)), some (.inl c1), some (.inl c2), some (.inl v3), some (.inl v4), some (.inl (Hi_word c2 v4 g)), none], [.inl y2], g) (96, [some (.inr (.inr 50)), some (.inl c1), some (.inl c2), some (.inl v3), some (.inl v4), some (.inl (Hi_word c2 v4 g)), some (.inl y2)], [.inl (wr (y2 + (Hi_word c2 v4 g))), .inl (wr ((wr (c2 * 24)) + v3)), .inr (.inr 51)], g) rfl ?_
            refine ec 0 99 [.inr (.inr 51), .inl (wr ((wr (c2 * 24)) + v3)), .inl (wr (y2 + (Hi_word c2 v4 g)))] [] rfl (ev_Row_set rfl rfl _ _ _) ?_
            show Ev 94 99 [some (.inr (.inr 50)), some (.inl c1), some (.inl c2), some (.inl v3), some (.inl v4), some (.inl (Hi_word c2 v4 g)), some (.inl y2)] [] (rset g 52 720 (wr ((wr (c2 * 24)) + v3)) (wr (y2 + (Hi_word c2 v4 g)))) _ _
            refine ev_runs 3 (99, [some (.inr (.inr 50)), some (.inl c1), some (.inl c2), some (.inl v3), some (.inl v4), some (.inl (Hi_word c2 v4 g)), some (.inl y2)], [], (rset g 52 720 (wr ((wr (c2 * 24)) + v3)) (wr (y2 + (Hi_word c2 v4 g))))) (18, [some (.inr (.inr 50)), some (.inl c1), some (.inl c2), some (.inl (wr (v3 + 1))), some (.inl (wr (v4 + 1))), some (.inl (Hi_word c2 v4 g)), some (.inl y2)], [], (rset g 52 720 (wr ((wr (c2 * 24)) + v3)) (wr (y2 + (Hi_word c2 v4 g))))) rfl ?_
            exact ev_le (L := [some (.inr (.inr 50)), some (.inl c1), some (.inl c2), some (.inl (wr (v3 + 1))), some (.inl (wr (v4 + 1))), none, none]) (by simp [Lle]) (ih18 (wr (v3 + 1)) (wr (v4 + 1)) (rset g 52 720 (wr ((wr (c2 * 24)) + v3)) (wr (y2 + (Hi_word c2 v4 g)))) g' h)
          by_cases hc : ¬ (Op_sayer (Hi_word c2 v4 g)) = c1
          · rw [if_pos hc] at hy2
            refine es (76, [some (.inr (.inr 50)), some (.inl c1), some (.inl c2), some (.inl v3), some (.inl v4), some (.inl (Hi_word c2 v4 g)), none], [], g) (congrArg some (if_pos hc)) ?_
            refine ev_runs 1 (76, [some (.inr (.inr 50)), some (.inl c1), some (.inl c2), some (.inl v3), some (.inl v4), some (.inl (Hi_word c2 v4 g)), none], [], g) (79, [some (.inr (.inr 50)), some (.inl c1), some (.inl c2), some (.inl v3), some (.inl v4), some (.inl (Hi_word c2 v4 g)), none], [.inl 20000], g) rfl ?_
            rw [hy2] at hjy2
            exact ev_le (L := [some (.inr (.inr 50)), some (.inl c1), some (.inl c2), some (.inl v3), some (.inl v4), some (.inl (Hi_word c2 v4 g)), none]) (by simp [Lle]) hjy2
          · rw [if_neg hc] at hy2
            refine es (70, [some (.inr (.inr 50)), some (.inl c1), some (.inl c2), some (.inl v3), some (.inl v4), some (.inl (Hi_word c2 v4 g)), none], [], g) (congrArg some (if_neg hc)) ?_
            refine ev_runs 2 (70, [some (.inr (.inr 50)), some (.inl c1), some (.inl c2), some (.inl v3), some (.inl v4), some (.inl (Hi_word c2 v4 g)), none], [], g) (79, [some (.inr (.inr 50)), some (.inl c1), some (.inl c2), some (.inl v3), some (.inl v4), some (.inl (Hi_word c2 v4 g)), none], [.inl 10000], g) rfl ?_
            rw [hy2] at hjy2
            exact ev_le (L := [some (.inr (.inr 50)), some (.inl c1), some (.inl c2), some (.inl v3), some (.inl v4), some (.inl (Hi_word c2 v4 g)), none]) (by simp [Lle]) hjy2
set_option maxRecDepth 100000 in
set_option maxHeartbeats 4000000 in
theorem ev_Lk_load_l2 (c1 : Int) (K2_123 : Gx → Option Gx) (hK2_123 : ∀ (g : Gx) (g' : Gx), K2_123 g = some g' → Ev 94 123 [none, none, none, none, none, none, none] [] g none g') : ∀ (n2 : Nat) (v2 : Int) (g : Gx) (g' : Gx), Lk_load_l2 c1 K2_123 n2 v2 g = some g' → Ev 94 2 [some (.inr (.inr 50)), some (.inl c1), some (.inl v2), none, none, none, none] [] g none g' := by
  intro n2
  induction n2 with
  | zero => intro v2 g g' h; cases h
  | succ n2 ih2 =>
    intro v2 g g' h
    rw [Lk_load_l2] at h
    refine ev_runs 3 (2, [some (.inr (.inr 50)), some (.inl c1), some (.inl v2), none, none, none, none], [], g) (7, [some (.inr (.inr 50)), some (.inl c1), some (.inl v2), none, none, none, none], [.inr (.inr 33), .inl v2], g) rfl ?_
    refine ec 74 10 [.inr (.inr 33)] [.inl v2] rfl (ev_Hi_size g _ rfl) ?_
    show Ev 94 10 [some (.inr (.inr 50)), some (.inl c1), some (.inl v2), none, none, none, none] [.inl (Hi_size g), .inl v2] g _ _
    by_cases hc : (Hi_size g) ≤ v2
    · rw [if_pos hc] at h
      refine es (123, [some (.inr (.inr 50)), some (.inl c1), some (.inl v2), none, none, none, none], [], g) (congrArg some (if_pos hc)) ?_
      exact ev_le (L := [none, none, none, none, none, none, none]) (by simp [Lle]) (hK2_123 g g' h)
    · rw [if_neg hc] at h
      refine es (13, [some (.inr (.inr 50)), some (.inl c1), some (.inl v2), none, none, none, none], [], g) (congrArg some (if_neg hc)) ?_
      refine ev_runs 4 (13, [some (.inr (.inr 50)), some (.inl c1), some (.inl v2), none, none, none, none], [], g) (18, [some (.inr (.inr 50)), some (.inl c1), some (.inl v2), some (.inl 0), some (.inl 0), none, none], [], g) rfl ?_
      refine ev_le (L := [some (.inr (.inr 50)), some (.inl c1), some (.inl v2), some (.inl 0), some (.inl 0), none, none]) (by simp [Lle]) ?_
      refine ev_Lk_load_l18 c1 v2 _ ?_ fu 0 0 g g' h
      · intro x3 g4 g' h
        refine ev_runs 4 (108, [some (.inr (.inr 50)), some (.inl c1), some (.inl v2), some (.inl x3), none, none, none], [], g4) (114, [some (.inr (.inr 50)), some (.inl c1), some (.inl v2), some (.inl x3), none, none, none], [.inl x3, .inl v2, .inr (.inr 53)], g4) rfl ?_
        refine ec 0 117 [.inr (.inr 53), .inl v2, .inl x3] [] rfl (ev_Row_set rfl rfl _ _ _) ?_
        show Ev 94 117 [some (.inr (.inr 50)), some (.inl c1), some (.inl v2), some (.inl x3), none, none, none] [] (rset g4 54 30 v2 x3) _ _
        refine ev_runs 2 (117, [some (.inr (.inr 50)), some (.inl c1), some (.inl v2), some (.inl x3), none, none, none], [], (rset g4 54 30 v2 x3)) (2, [some (.inr (.inr 50)), some (.inl c1), some (.inl (wr (v2 + 1))), some (.inl x3), none, none, none], [], (rset g4 54 30 v2 x3)) rfl ?_
        exact ev_le (L := [some (.inr (.inr 50)), some (.inl c1), some (.inl (wr (v2 + 1))), none, none, none, none]) (by simp [Lle]) (ih2 (wr (v2 + 1)) (rset g4 54 30 v2 x3) g' h)
set_option maxRecDepth 100000 in
set_option maxHeartbeats 4000000 in
theorem ev_Lk_load (a1 : Int) (g : Gx) (g' : Gx) (h : Lk_load a1 g = some g') : Ev 94 0 [some (.inr (.inr 50)), some (.inl a1), none, none, none, none, none] [] g none g' := by
  rw [Lk_load] at h
  refine ev_runs 2 (0, [some (.inr (.inr 50)), some (.inl a1), none, none, none, none, none], [], g) (2, [some (.inr (.inr 50)), some (.inl a1), some (.inl 0), none, none, none, none], [], g) rfl ?_
  refine ev_le (L := [some (.inr (.inr 50)), some (.inl a1), some (.inl 0), none, none, none, none]) (by simp [Lle]) ?_
  refine ev_Lk_load_l2 a1 _ ?_ fu 0 g g' h
  · intro g5 g' h
    cases h
    exact er rfl
set_option maxRecDepth 100000 in
set_option maxHeartbeats 4000000 in
theorem ev_Lk_length (a1 : Int) (g : Gx) (r : Int) (h : Lk_length a1 g = r) : Ev 95 0 [some (.inr (.inr 50)), some (.inl a1)] [] g (some (.inl r)) g := by
  rw [Lk_length] at h
  refine ev_runs 3 (0, [some (.inr (.inr 50)), some (.inl a1)], [], g) (5, [some (.inr (.inr 50)), some (.inl a1)], [.inl a1, .inr (.inr 53)], g) rfl ?_
  refine ec 13 8 [.inr (.inr 53), .inl a1] [] rfl (ev_Row_at rfl rfl _ _) ?_
  show Ev 95 8 [some (.inr (.inr 50)), some (.inl a1)] [.inl (rat g 54 30 a1)] g _ _
  subst h
  exact er rfl
set_option maxRecDepth 100000 in
set_option maxHeartbeats 4000000 in
theorem ev_Lk_act (a1 a2 : Int) (g : Gx) (r : Int) (h : Lk_act a1 a2 g = r) : Ev 96 0 [some (.inr (.inr 50)), some (.inl a1), some (.inl a2)] [] g (some (.inl r)) g := by
  rw [Lk_act] at h
  refine ev_runs 7 (0, [some (.inr (.inr 50)), some (.inl a1), some (.inl a2)], [], g) (10, [some (.inr (.inr 50)), some (.inl a1), some (.inl a2)], [.inl (wr ((wr (a1 * 24)) + a2)), .inr (.inr 51)], g) rfl ?_
  refine ec 13 13 [.inr (.inr 51), .inl (wr ((wr (a1 * 24)) + a2))] [] rfl (ev_Row_at rfl rfl _ _) ?_
  show Ev 96 13 [some (.inr (.inr 50)), some (.inl a1), some (.inl a2)] [.inl (rat g 52 720 (wr ((wr (a1 * 24)) + a2)))] g _ _
  subst h
  exact er rfl
set_option maxRecDepth 100000 in
set_option maxHeartbeats 4000000 in
theorem ev_Op_look (a1 a2 a3 : Int) (g : Gx) (r : Int) (g' : Gx) (h : Op_look a1 a2 a3 g = some (r, g')) : Ev 97 0 [some (.inr (.inr 0)), some (.inl a1), some (.inl a2), some (.inl a3), none] [] g (some (.inl r)) g' := by
  rw [Op_look] at h
  refine ev_runs 1 (0, [some (.inr (.inr 0)), some (.inl a1), some (.inl a2), some (.inl a3), none], [], g) (1, [some (.inr (.inr 0)), some (.inl a1), some (.inl a2), some (.inl a3), none], [.inl a1], g) rfl ?_
  refine ec 91 4 [.inl a1] [] rfl (ev_Op_isTalker a1 g _ rfl) ?_
  show Ev 97 4 [some (.inr (.inr 0)), some (.inl a1), some (.inl a2), some (.inl a3), none] [.inl (Op_isTalker a1)] g _ _
  by_cases hc : (Op_isTalker a1) = 0
  · rw [if_pos hc] at h
    refine es (19, [some (.inr (.inr 0)), some (.inl a1), some (.inl a2), some (.inl a3), none], [], g) (congrArg some (if_pos hc)) ?_
    refine ev_runs 1 (19, [some (.inr (.inr 0)), some (.inl a1), some (.inl a2), some (.inl a3), none], [], g) (21, [some (.inr (.inr 0)), some (.inl a1), some (.inl a2), some (.inl a3), none], [.inl (-2)], g) rfl ?_
    cases h
    exact er rfl
  · rw [if_neg hc] at h
    refine es (7, [some (.inr (.inr 0)), some (.inl a1), some (.inl a2), some (.inl a3), none], [], g) (congrArg some (if_neg hc)) ?_
    refine ev_runs 1 (7, [some (.inr (.inr 0)), some (.inl a1), some (.inl a2), some (.inl a3), none], [], g) (8, [some (.inr (.inr 0)), some (.inl a1), some (.inl a2), some (.inl a3), none], [.inl a2], g) rfl ?_
    refine ec 83 11 [.inl a2] [] rfl (ev_Op_isHistory a2 g _ rfl) ?_
    show Ev 97 11 [some (.inr (.inr 0)), some (.inl a1), some (.inl a2), some (.inl a3), none] [.inl (Op_isHistory a2)] g _ _
    by_cases hc : (Op_isHistory a2) = 0
    · rw [if_pos hc] at h
      refine es (19, [some (.inr (.inr 0)), some (.inl a1), some (.inl a2), some (.inl a3), none], [], g) (congrArg some (if_pos hc)) ?_
      refine ev_runs 1 (19, [some (.inr (.inr 0)), some (.inl a1), some (.inl a2), some (.inl a3), none], [], g) (21, [some (.inr (.inr 0)), some (.inl a1), some (.inl a2), some (.inl a3), none], [.inl (-2)], g) rfl ?_
      cases h
      exact er rfl
    · rw [if_neg hc] at h
      refine es (14, [some (.inr (.inr 0)), some (.inl a1), some (.inl a2), some (.inl a3), none], [], g) (congrArg some (if_neg hc)) ?_
      refine ev_runs 2 (14, [some (.inr (.inr 0)), some (.inl a1), some (.inl a2), some (.inl a3), none], [], g) (16, [some (.inr (.inr 0)), some (.inl a1), some (.inl a2), some (.inl a3), none], [.inl (-1), .inl a3], g) rfl ?_
      by_cases hc : (-1) ≤ a3
      · rw [if_pos hc] at h
        refine es (22, [some (.inr (.inr 0)), some (.inl a1), some (.inl a2), some (.inl a3), none], [], g) (congrArg some (if_pos hc)) ?_
        refine ev_runs 2 (22, [some (.inr (.inr 0)), some (.inl a1), some (.inl a2), some (.inl a3), none], [], g) (24, [some (.inr (.inr 0)), some (.inl a1), some (.inl a2), some (.inl a3), none], [.inl a2, .inr (.inr 0)], g) rfl ?_
        obtain ⟨q1, hq, h⟩ := Option.bind_eq_some_iff.mp h
        refine ec 75 27 [.inr (.inr 0), .inl a2] [] rfl (ev_Op_hindrance a2 g q1.1 q1.2 hq) ?_
        show Ev 97 27 [some (.inr (.inr 0)), some (.inl a1), some (.inl a2), some (.inl a3), none] [.inl q1.1] q1.2 _ _
        refine ev_runs 2 (27, [some (.inr (.inr 0)), some (.inl a1), some (.inl a2), some (.inl a3), none], [.inl q1.1], q1.2) (31, [some (.inr (.inr 0)), some (.inl a1), some (.inl a2), some (.inl a3), some (.inl q1.1)], [.inl q1.1], q1.2) rfl ?_
        by_cases hc : q1.1 = 0
        · rw [if_pos hc] at h
          refine es (37, [some (.inr (.inr 0)), some (.inl a1), some (.inl a2), some (.inl a3), some (.inl q1.1)], [], q1.2) (congrArg some (if_pos hc)) ?_
          refine ev_runs 3 (37, [some (.inr (.inr 0)), some (.inl a1), some (.inl a2), some (.inl a3), some (.inl q1.1)], [], q1.2) (42, [some (.inr (.inr 0)), some (.inl a1), some (.inl a2), some (.inl a3), some (.inl q1.1)], [.inl a1, .inr (.inr 50)], q1.2) rfl ?_
          obtain ⟨g2, hq, h⟩ := Option.bind_eq_some_iff.mp h
          refine ec 94 45 [.inr (.inr 50), .inl a1] [] rfl (ev_Lk_load a1 q1.2 g2 hq) ?_
          show Ev 97 45 [some (.inr (.inr 0)), some (.inl a1), some (.inl a2), some (.inl a3), some (.inl q1.1)] [] g2 _ _
          refine ev_runs 2 (45, [some (.inr (.inr 0)), some (.inl a1), some (.inl a2), some (.inl a3), some (.inl q1.1)], [], g2) (47, [some (.inr (.inr 0)), some (.inl a1), some (.inl a2), some (.inl a3), some (.inl q1.1)], [.inl (-1), .inl a3], g2) rfl ?_
          by_cases hc : ¬ a3 = (-1)
          · rw [if_pos hc] at h
            refine es (59, [some (.inr (.inr 0)), some (.inl a1), some (.inl a2), some (.inl a3), some (.inl q1.1)], [], g2) (congrArg some (if_pos hc)) ?_
            refine ev_runs 4 (59, [some (.inr (.inr 0)), some (.inl a1), some (.inl a2), some (.inl a3), some (.inl q1.1)], [], g2) (65, [some (.inr (.inr 0)), some (.inl a1), some (.inl a2), some (.inl a3), some (.inl q1.1)], [.inl a2, .inr (.inr 50), .inl a3], g2) rfl ?_
            refine ec 95 68 [.inr (.inr 50), .inl a2] [.inl a3] rfl (ev_Lk_length a2 g2 _ rfl) ?_
            show Ev 97 68 [some (.inr (.inr 0)), some (.inl a1), some (.inl a2), some (.inl a3), some (.inl q1.1)] [.inl (Lk_length a2 g2), .inl a3] g2 _ _
            by_cases hc : (Lk_length a2 g2) ≤ a3
            · rw [if_pos hc] at h
              refine es (83, [some (.inr (.inr 0)), some (.inl a1), some (.inl a2), some (.inl a3), some (.inl q1.1)], [], g2) (congrArg some (if_pos hc)) ?_
              refine ev_runs 1 (83, [some (.inr (.inr 0)), some (.inl a1), some (.inl a2), some (.inl a3), some (.inl q1.1)], [], g2) (84, [some (.inr (.inr 0)), some (.inl a1), some (.inl a2), some (.inl a3), some (.inl q1.1)], [.inl (-1)], g2) rfl ?_
              cases h
              exact er rfl
            · rw [if_neg hc] at h
              refine es (71, [some (.inr (.inr 0)), some (.inl a1), some (.inl a2), some (.inl a3), some (.inl q1.1)], [], g2) (congrArg some (if_neg hc)) ?_
              refine ev_runs 4 (71, [some (.inr (.inr 0)), some (.inl a1), some (.inl a2), some (.inl a3), some (.inl q1.1)], [], g2) (77, [some (.inr (.inr 0)), some (.inl a1), some (.inl a2), some (.inl a3), some (.inl q1.1)], [.inl a3, .inl a2, .inr (.inr 50)], g2) rfl ?_
              refine ec 96 80 [.inr (.inr 50), .inl a2, .inl a3] [] rfl (ev_Lk_act a2 a3 g2 _ rfl) ?_
              show Ev 97 80 [some (.inr (.inr 0)), some (.inl a1), some (.inl a2), some (.inl a3), some (.inl q1.1)] [.inl (Lk_act a2 a3 g2)] g2 _ _
              refine ev_runs 1 (80, [some (.inr (.inr 0)), some (.inl a1), some (.inl a2), some (.inl a3), some (.inl q1.1)], [.inl (Lk_act a2 a3 g2)], g2) (84, [some (.inr (.inr 0)), some (.inl a1), some (.inl a2), some (.inl a3), some (.inl q1.1)], [.inl (Lk_act a2 a3 g2)], g2) rfl ?_
              cases h
              exact er rfl
          · rw [if_neg hc] at h
            refine es (50, [some (.inr (.inr 0)), some (.inl a1), some (.inl a2), some (.inl a3), some (.inl q1.1)], [], g2) (congrArg some (if_neg hc)) ?_
            refine ev_runs 3 (50, [some (.inr (.inr 0)), some (.inl a1), some (.inl a2), some (.inl a3), some (.inl q1.1)], [], g2) (55, [some (.inr (.inr 0)), some (.inl a1), some (.inl a2), some (.inl a3), some (.inl q1.1)], [.inl a2, .inr (.inr 50)], g2) rfl ?_
            refine ec 95 58 [.inr (.inr 50), .inl a2] [] rfl (ev_Lk_length a2 g2 _ rfl) ?_
            show Ev 97 58 [some (.inr (.inr 0)), some (.inl a1), some (.inl a2), some (.inl a3), some (.inl q1.1)] [.inl (Lk_length a2 g2)] g2 _ _
            cases h
            exact er rfl
        · rw [if_neg hc] at h
          refine es (34, [some (.inr (.inr 0)), some (.inl a1), some (.inl a2), some (.inl a3), some (.inl q1.1)], [], q1.2) (congrArg some (if_neg hc)) ?_
          refine ev_runs 1 (34, [some (.inr (.inr 0)), some (.inl a1), some (.inl a2), some (.inl a3), some (.inl q1.1)], [], q1.2) (36, [some (.inr (.inr 0)), some (.inl a1), some (.inl a2), some (.inl a3), some (.inl q1.1)], [.inl q1.1], q1.2) rfl ?_
          cases h
          exact er rfl
      · rw [if_neg hc] at h
        refine es (19, [some (.inr (.inr 0)), some (.inl a1), some (.inl a2), some (.inl a3), none], [], g) (congrArg some (if_neg hc)) ?_
        refine ev_runs 1 (19, [some (.inr (.inr 0)), some (.inl a1), some (.inl a2), some (.inl a3), none], [], g) (21, [some (.inr (.inr 0)), some (.inl a1), some (.inl a2), some (.inl a3), none], [.inl (-2)], g) rfl ?_
        cases h
        exact er rfl
set_option maxRecDepth 100000 in
set_option maxHeartbeats 4000000 in
theorem ev_Md_isOne (a0 : Int) (g : Gx) (r : Int) (h : Md_isOne a0 = r) : Ev 98 0 [some (.inl a0)] [] g (some (.inl r)) g := by
  rw [Md_isOne] at h
  refine ev_runs 4 (0, [some (.inl a0)], [], g) (6, [some (.inl a0)], [.inr (.inl 5), .inr (.inl 0), .inr (.inl a0)], g) rfl ?_
  refine ec 4 9 [.inr (.inl a0), .inr (.inl 0), .inr (.inl 5)] [] rfl (ev_Md_in a0 0 5 g _ rfl) ?_
  show Ev 98 9 [some (.inl a0)] [.inl (Md_in a0 0 5)] g _ _
  subst h
  exact er (if_pos (bo_Md_in a0 0 5))
set_option maxRecDepth 100000 in
set_option maxHeartbeats 4000000 in
theorem ev_Md_from (a0 : Int) (g : Gx) (r : Int) (h : Md_from a0 = r) : Ev 99 0 [some (.inl a0)] [] g (some (.inl r)) g := by
  rw [Md_from] at h
  refine ev_runs 3 (0, [some (.inl a0)], [], g) (5, [some (.inl a0)], [.inl (jdiv a0 1000)], g) rfl ?_
  subst h
  exact er rfl
set_option maxRecDepth 100000 in
set_option maxHeartbeats 4000000 in
theorem ev_Md_to (a0 : Int) (g : Gx) (r : Int) (h : Md_to a0 = r) : Ev 100 0 [some (.inl a0)] [] g (some (.inl r)) g := by
  rw [Md_to] at h
  refine ev_runs 5 (0, [some (.inl a0)], [], g) (7, [some (.inl a0)], [.inl (jrem (jdiv a0 100) 10)], g) rfl ?_
  subst h
  exact er rfl
set_option maxRecDepth 100000 in
set_option maxHeartbeats 4000000 in
theorem ev_Md_findLooks_l23 (c1 : Int) (c2 : Int) (K23_107 : Int → Gx → Option Gx) (hK23_107 : ∀ (x3 : Int) (g : Gx) (g' : Gx), K23_107 x3 g = some g' → Ev 101 107 [some (.inr (.inr 92)), some (.inl c1), some (.inl c2), some (.inl x3), none, none] [] g none g') : ∀ (n23 : Nat) (v3 v4 : Int) (g : Gx) (g' : Gx), Md_findLooks_l23 c1 c2 K23_107 n23 v3 v4 g = some g' → Ev 101 23 [some (.inr (.inr 92)), some (.inl c1), some (.inl c2), some (.inl v3), some (.inl v4), none] [] g none g' := by
  intro n23
  induction n23 with
  | zero => intro v3 v4 g g' h; cases h
  | succ n23 ih23 =>
    intro v3 v4 g g' h
    rw [Md_findLooks_l23] at h
    refine ev_runs 4 (23, [some (.inr (.inr 92)), some (.inl c1), some (.inl c2), some (.inl v3), some (.inl v4), none], [], g) (30, [some (.inr (.inr 92)), some (.inl c1), some (.inl c2), some (.inl v3), some (.inl v4), none], [.inl c1, .inr (.inr 110), .inl v4], g) rfl ?_
    by_cases hc : 0 ≤ c1 ∧ c1 < 30
    · rw [if_pos hc] at h
      refine es (31, [some (.inr (.inr 92)), some (.inl c1), some (.inl c2), some (.inl v3), some (.inl v4), none], [.inl (g 110 c1.toNat), .inl v4], g) (if_pos hc) ?_
      by_cases hc : (g 110 c1.toNat) ≤ v4
      · rw [if_pos hc] at h
        refine es (107, [some (.inr (.inr 92)), some (.inl c1), some (.inl c2), some (.inl v3), some (.inl v4), none], [], g) (congrArg some (if_pos hc)) ?_
        exact ev_le (L := [some (.inr (.inr 92)), some (.inl c1), some (.inl c2), some (.inl v3), none, none]) (by simp [Lle]) (hK23_107 v3 g g' h)
      · rw [if_neg hc] at h
        refine es (34, [some (.inr (.inr 92)), some (.inl c1), some (.inl c2), some (.inl v3), some (.inl v4), none], [], g) (congrArg some (if_neg hc)) ?_
        refine ev_runs 3 (34, [some (.inr (.inr 92)), some (.inl c1), some (.inl c2), some (.inl v3), some (.inl v4), none], [], g) (38, [some (.inr (.inr 92)), some (.inl c1), some (.inl c2), some (.inl v3), some (.inl v4), none], [.inl v4, .inl c1, .inr (.inr 92)], g) rfl ?_
        obtain ⟨q1, hq, h⟩ := Option.bind_eq_some_iff.mp h
        refine ec 89 41 [.inr (.inr 92), .inl c1, .inl v4] [] rfl (ev_Md_code c1 v4 g q1.1 q1.2 hq) ?_
        show Ev 101 41 [some (.inr (.inr 92)), some (.inl c1), some (.inl c2), some (.inl v3), some (.inl v4), none] [.inl q1.1] q1.2 _ _
        refine ev_runs 2 (41, [some (.inr (.inr 92)), some (.inl c1), some (.inl c2), some (.inl v3), some (.inl v4), none], [.inl q1.1], q1.2) (45, [some (.inr (.inr 92)), some (.inl c1), some (.inl c2), some (.inl v3), some (.inl v4), some (.inl q1.1)], [.inl q1.1], q1.2) rfl ?_
        refine ec 99 48 [.inl q1.1] [] rfl (ev_Md_from q1.1 q1.2 _ rfl) ?_
        show Ev 101 48 [some (.inr (.inr 92)), some (.inl c1), some (.inl c2), some (.inl v3), some (.inl v4), some (.inl q1.1)] [.inl (Md_from q1.1)] q1.2 _ _
        refine ev_runs 1 (48, [some (.inr (.inr 92)), some (.inl c1), some (.inl c2), some (.inl v3), some (.inl v4), some (.inl q1.1)], [.inl (Md_from q1.1)], q1.2) (49, [some (.inr (.inr 92)), some (.inl c1), some (.inl c2), some (.inl v3), some (.inl v4), some (.inl q1.1)], [.inl c2, .inl (Md_from q1.1)], q1.2) rfl ?_
        by_cases hc : (Md_from q1.1) = c2
        · rw [if_pos hc] at h
          refine es (61, [some (.inr (.inr 92)), some (.inl c1), some (.inl c2), some (.inl v3), some (.inl v4), some (.inl q1.1)], [], q1.2) (congrArg some (if_pos hc)) ?_
          refine ev_runs 12 (61, [some (.inr (.inr 92)), some (.inl c1), some (.inl c2), some (.inl v3), some (.inl v4), some (.inl q1.1)], [], q1.2) (78, [some (.inr (.inr 92)), some (.inl c1), some (.inl c2), some (.inl v3), some (.inl v4), some (.inl q1.1)], [.inl q1.1, .inl (wr ((wr (24 * (wr ((wr (6 * c1)) + c2)))) + v3)), .inr (.inr 119)], q1.2) rfl ?_
          refine ec 99 81 [.inl q1.1] [.inl (wr ((wr (24 * (wr ((wr (6 * c1)) + c2)))) + v3)), .inr (.inr 119)] rfl (ev_Md_from q1.1 q1.2 _ rfl) ?_
          show Ev 101 81 [some (.inr (.inr 92)), some (.inl c1), some (.inl c2), some (.inl v3), some (.inl v4), some (.inl q1.1)] [.inl (Md_from q1.1), .inl (wr ((wr (24 * (wr ((wr (6 * c1)) + c2)))) + v3)), .inr (.inr 119)] q1.2 _ _
          refine ev_runs 1 (81, [some (.inr (.inr 92)), some (.inl c1), some (.inl c2), some (.inl v3), some (.inl v4), some (.inl q1.1)], [.inl (Md_from q1.1), .inl (wr ((wr (24 * (wr ((wr (6 * c1)) + c2)))) + v3)), .inr (.inr 119)], q1.2) (82, [some (.inr (.inr 92)), some (.inl c1), some (.inl c2), some (.inl v3), some (.inl v4), some (.inl q1.1)], [.inl c2, .inl (Md_from q1.1), .inl (wr ((wr (24 * (wr ((wr (6 * c1)) + c2)))) + v3)), .inr (.inr 119)], q1.2) rfl ?_
          by_cases hc : ¬ (Md_from q1.1) = c2
          · rw [if_pos hc] at h
            refine es (91, [some (.inr (.inr 92)), some (.inl c1), some (.inl c2), some (.inl v3), some (.inl v4), some (.inl q1.1)], [.inl (wr ((wr (24 * (wr ((wr (6 * c1)) + c2)))) + v3)), .inr (.inr 119)], q1.2) (congrArg some (if_pos hc)) ?_
            refine ev_runs 3 (91, [some (.inr (.inr 92)), some (.inl c1), some (.inl c2), some (.inl v3), some (.inl v4), some (.inl q1.1)], [.inl (wr ((wr (24 * (wr ((wr (6 * c1)) + c2)))) + v3)), .inr (.inr 119)], q1.2) (97, [some (.inr (.inr 92)), some (.inl c1), some (.inl c2), some (.inl v3), some (.inl v4), some (.inl q1.1)], [.inl (wr (20000 + q1.1)), .inl (wr ((wr (24 * (wr ((wr (6 * c1)) + c2)))) + v3)), .inr (.inr 119)], q1.2) rfl ?_
            by_cases hc : 0 ≤ (wr ((wr (24 * (wr ((wr (6 * c1)) + c2)))) + v3)) ∧ (wr ((wr (24 * (wr ((wr (6 * c1)) + c2)))) + v3)) < 4320
            · rw [if_pos hc] at h
              refine es (98, [some (.inr (.inr 92)), some (.inl c1), some (.inl c2), some (.inl v3), some (.inl v4), some (.inl q1.1)], [], (gset q1.2 119 ((wr ((wr (24 * (wr ((wr (6 * c1)) + c2)))) + v3)).toNat) (wr (20000 + q1.1)))) (if_pos hc) ?_
              refine ev_runs 3 (98, [some (.inr (.inr 92)), some (.inl c1), some (.inl c2), some (.inl v3), some (.inl v4), some (.inl q1.1)], [], (gset q1.2 119 ((wr ((wr (24 * (wr ((wr (6 * c1)) + c2)))) + v3)).toNat) (wr (20000 + q1.1)))) (23, [some (.inr (.inr 92)), some (.inl c1), some (.inl c2), some (.inl (wr (v3 + 1))), some (.inl (wr (v4 + 1))), some (.inl q1.1)], [], (gset q1.2 119 ((wr ((wr (24 * (wr ((wr (6 * c1)) + c2)))) + v3)).toNat) (wr (20000 + q1.1)))) rfl ?_
              exact ev_le (L := [some (.inr (.inr 92)), some (.inl c1), some (.inl c2), some (.inl (wr (v3 + 1))), some (.inl (wr (v4 + 1))), none]) (by simp [Lle]) (ih23 (wr (v3 + 1)) (wr (v4 + 1)) (gset q1.2 119 ((wr ((wr (24 * (wr ((wr (6 * c1)) + c2)))) + v3)).toNat) (wr (20000 + q1.1))) g' h)
            · rw [if_neg hc] at h; cases h
          · rw [if_neg hc] at h
            refine es (85, [some (.inr (.inr 92)), some (.inl c1), some (.inl c2), some (.inl v3), some (.inl v4), some (.inl q1.1)], [.inl (wr ((wr (24 * (wr ((wr (6 * c1)) + c2)))) + v3)), .inr (.inr 119)], q1.2) (congrArg some (if_neg hc)) ?_
            refine ev_runs 4 (85, [some (.inr (.inr 92)), some (.inl c1), some (.inl c2), some (.inl v3), some (.inl v4), some (.inl q1.1)], [.inl (wr ((wr (24 * (wr ((wr (6 * c1)) + c2)))) + v3)), .inr (.inr 119)], q1.2) (97, [some (.inr (.inr 92)), some (.inl c1), some (.inl c2), some (.inl v3), some (.inl v4), some (.inl q1.1)], [.inl (wr (10000 + q1.1)), .inl (wr ((wr (24 * (wr ((wr (6 * c1)) + c2)))) + v3)), .inr (.inr 119)], q1.2) rfl ?_
            by_cases hc : 0 ≤ (wr ((wr (24 * (wr ((wr (6 * c1)) + c2)))) + v3)) ∧ (wr ((wr (24 * (wr ((wr (6 * c1)) + c2)))) + v3)) < 4320
            · rw [if_pos hc] at h
              refine es (98, [some (.inr (.inr 92)), some (.inl c1), some (.inl c2), some (.inl v3), some (.inl v4), some (.inl q1.1)], [], (gset q1.2 119 ((wr ((wr (24 * (wr ((wr (6 * c1)) + c2)))) + v3)).toNat) (wr (10000 + q1.1)))) (if_pos hc) ?_
              refine ev_runs 3 (98, [some (.inr (.inr 92)), some (.inl c1), some (.inl c2), some (.inl v3), some (.inl v4), some (.inl q1.1)], [], (gset q1.2 119 ((wr ((wr (24 * (wr ((wr (6 * c1)) + c2)))) + v3)).toNat) (wr (10000 + q1.1)))) (23, [some (.inr (.inr 92)), some (.inl c1), some (.inl c2), some (.inl (wr (v3 + 1))), some (.inl (wr (v4 + 1))), some (.inl q1.1)], [], (gset q1.2 119 ((wr ((wr (24 * (wr ((wr (6 * c1)) + c2)))) + v3)).toNat) (wr (10000 + q1.1)))) rfl ?_
              exact ev_le (L := [some (.inr (.inr 92)), some (.inl c1), some (.inl c2), some (.inl (wr (v3 + 1))), some (.inl (wr (v4 + 1))), none]) (by simp [Lle]) (ih23 (wr (v3 + 1)) (wr (v4 + 1)) (gset q1.2 119 ((wr ((wr (24 * (wr ((wr (6 * c1)) + c2)))) + v3)).toNat) (wr (10000 + q1.1))) g' h)
            · rw [if_neg hc] at h; cases h
        · rw [if_neg hc] at h
          refine es (52, [some (.inr (.inr 92)), some (.inl c1), some (.inl c2), some (.inl v3), some (.inl v4), some (.inl q1.1)], [], q1.2) (congrArg some (if_neg hc)) ?_
          refine ev_runs 1 (52, [some (.inr (.inr 92)), some (.inl c1), some (.inl c2), some (.inl v3), some (.inl v4), some (.inl q1.1)], [], q1.2) (54, [some (.inr (.inr 92)), some (.inl c1), some (.inl c2), some (.inl v3), some (.inl v4), some (.inl q1.1)], [.inl q1.1], q1.2) rfl ?_
          refine ec 100 57 [.inl q1.1] [] rfl (ev_Md_to q1.1 q1.2 _ rfl) ?_
          show Ev 101 57 [some (.inr (.inr 92)), some (.inl c1), some (.inl c2), some (.inl v3), some (.inl v4), some (.inl q1.1)] [.inl (Md_to q1.1)] q1.2 _ _
          refine ev_runs 1 (57, [some (.inr (.inr 92)), some (.inl c1), some (.inl c2), some (.inl v3), some (.inl v4), some (.inl q1.1)], [.inl (Md_to q1.1)], q1.2) (58, [some (.inr (.inr 92)), some (.inl c1), some (.inl c2), some (.inl v3), some (.inl v4), some (.inl q1.1)], [.inl c2, .inl (Md_to q1.1)], q1.2) rfl ?_
          by_cases hc : ¬ (Md_to q1.1) = c2
          · rw [if_pos hc] at h
            refine es (101, [some (.inr (.inr 92)), some (.inl c1), some (.inl c2), some (.inl v3), some (.inl v4), some (.inl q1.1)], [], q1.2) (congrArg some (if_pos hc)) ?_
            refine ev_runs 2 (101, [some (.inr (.inr 92)), some (.inl c1), some (.inl c2), some (.inl v3), some (.inl v4), some (.inl q1.1)], [], q1.2) (23, [some (.inr (.inr 92)), some (.inl c1), some (.inl c2), some (.inl v3), some (.inl (wr (v4 + 1))), some (.inl q1.1)], [], q1.2) rfl ?_
            exact ev_le (L := [some (.inr (.inr 92)), some (.inl c1), some (.inl c2), some (.inl v3), some (.inl (wr (v4 + 1))), none]) (by simp [Lle]) (ih23 v3 (wr (v4 + 1)) q1.2 g' h)
          · rw [if_neg hc] at h
            refine es (61, [some (.inr (.inr 92)), some (.inl c1), some (.inl c2), some (.inl v3), some (.inl v4), some (.inl q1.1)], [], q1.2) (congrArg some (if_neg hc)) ?_
            refine ev_runs 12 (61, [some (.inr (.inr 92)), some (.inl c1), some (.inl c2), some (.inl v3), some (.inl v4), some (.inl q1.1)], [], q1.2) (78, [some (.inr (.inr 92)), some (.inl c1), some (.inl c2), some (.inl v3), some (.inl v4), some (.inl q1.1)], [.inl q1.1, .inl (wr ((wr (24 * (wr ((wr (6 * c1)) + c2)))) + v3)), .inr (.inr 119)], q1.2) rfl ?_
            refine ec 99 81 [.inl q1.1] [.inl (wr ((wr (24 * (wr ((wr (6 * c1)) + c2)))) + v3)), .inr (.inr 119)] rfl (ev_Md_from q1.1 q1.2 _ rfl) ?_
            show Ev 101 81 [some (.inr (.inr 92)), some (.inl c1), some (.inl c2), some (.inl v3), some (.inl v4), some (.inl q1.1)] [.inl (Md_from q1.1), .inl (wr ((wr (24 * (wr ((wr (6 * c1)) + c2)))) + v3)), .inr (.inr 119)] q1.2 _ _
            refine ev_runs 1 (81, [some (.inr (.inr 92)), some (.inl c1), some (.inl c2), some (.inl v3), some (.inl v4), some (.inl q1.1)], [.inl (Md_from q1.1), .inl (wr ((wr (24 * (wr ((wr (6 * c1)) + c2)))) + v3)), .inr (.inr 119)], q1.2) (82, [some (.inr (.inr 92)), some (.inl c1), some (.inl c2), some (.inl v3), some (.inl v4), some (.inl q1.1)], [.inl c2, .inl (Md_from q1.1), .inl (wr ((wr (24 * (wr ((wr (6 * c1)) + c2)))) + v3)), .inr (.inr 119)], q1.2) rfl ?_
            by_cases hc : ¬ (Md_from q1.1) = c2
            · rw [if_pos hc] at h
              refine es (91, [some (.inr (.inr 92)), some (.inl c1), some (.inl c2), some (.inl v3), some (.inl v4), some (.inl q1.1)], [.inl (wr ((wr (24 * (wr ((wr (6 * c1)) + c2)))) + v3)), .inr (.inr 119)], q1.2) (congrArg some (if_pos hc)) ?_
              refine ev_runs 3 (91, [some (.inr (.inr 92)), some (.inl c1), some (.inl c2), some (.inl v3), some (.inl v4), some (.inl q1.1)], [.inl (wr ((wr (24 * (wr ((wr (6 * c1)) + c2)))) + v3)), .inr (.inr 119)], q1.2) (97, [some (.inr (.inr 92)), some (.inl c1), some (.inl c2), some (.inl v3), some (.inl v4), some (.inl q1.1)], [.inl (wr (20000 + q1.1)), .inl (wr ((wr (24 * (wr ((wr (6 * c1)) + c2)))) + v3)), .inr (.inr 119)], q1.2) rfl ?_
              by_cases hc : 0 ≤ (wr ((wr (24 * (wr ((wr (6 * c1)) + c2)))) + v3)) ∧ (wr ((wr (24 * (wr ((wr (6 * c1)) + c2)))) + v3)) < 4320
              · rw [if_pos hc] at h
                refine es (98, [some (.inr (.inr 92)), some (.inl c1), some (.inl c2), some (.inl v3), some (.inl v4), some (.inl q1.1)], [], (gset q1.2 119 ((wr ((wr (24 * (wr ((wr (6 * c1)) + c2)))) + v3)).toNat) (wr (20000 + q1.1)))) (if_pos hc) ?_
                refine ev_runs 3 (98, [some (.inr (.inr 92)), some (.inl c1), some (.inl c2), some (.inl v3), some (.inl v4), some (.inl q1.1)], [], (gset q1.2 119 ((wr ((wr (24 * (wr ((wr (6 * c1)) + c2)))) + v3)).toNat) (wr (20000 + q1.1)))) (23, [some (.inr (.inr 92)), some (.inl c1), some (.inl c2), some (.inl (wr (v3 + 1))), some (.inl (wr (v4 + 1))), some (.inl q1.1)], [], (gset q1.2 119 ((wr ((wr (24 * (wr ((wr (6 * c1)) + c2)))) + v3)).toNat) (wr (20000 + q1.1)))) rfl ?_
                exact ev_le (L := [some (.inr (.inr 92)), some (.inl c1), some (.inl c2), some (.inl (wr (v3 + 1))), some (.inl (wr (v4 + 1))), none]) (by simp [Lle]) (ih23 (wr (v3 + 1)) (wr (v4 + 1)) (gset q1.2 119 ((wr ((wr (24 * (wr ((wr (6 * c1)) + c2)))) + v3)).toNat) (wr (20000 + q1.1))) g' h)
              · rw [if_neg hc] at h; cases h
            · rw [if_neg hc] at h
              refine es (85, [some (.inr (.inr 92)), some (.inl c1), some (.inl c2), some (.inl v3), some (.inl v4), some (.inl q1.1)], [.inl (wr ((wr (24 * (wr ((wr (6 * c1)) + c2)))) + v3)), .inr (.inr 119)], q1.2) (congrArg some (if_neg hc)) ?_
              refine ev_runs 4 (85, [some (.inr (.inr 92)), some (.inl c1), some (.inl c2), some (.inl v3), some (.inl v4), some (.inl q1.1)], [.inl (wr ((wr (24 * (wr ((wr (6 * c1)) + c2)))) + v3)), .inr (.inr 119)], q1.2) (97, [some (.inr (.inr 92)), some (.inl c1), some (.inl c2), some (.inl v3), some (.inl v4), some (.inl q1.1)], [.inl (wr (10000 + q1.1)), .inl (wr ((wr (24 * (wr ((wr (6 * c1)) + c2)))) + v3)), .inr (.inr 119)], q1.2) rfl ?_
              by_cases hc : 0 ≤ (wr ((wr (24 * (wr ((wr (6 * c1)) + c2)))) + v3)) ∧ (wr ((wr (24 * (wr ((wr (6 * c1)) + c2)))) + v3)) < 4320
              · rw [if_pos hc] at h
                refine es (98, [some (.inr (.inr 92)), some (.inl c1), some (.inl c2), some (.inl v3), some (.inl v4), some (.inl q1.1)], [], (gset q1.2 119 ((wr ((wr (24 * (wr ((wr (6 * c1)) + c2)))) + v3)).toNat) (wr (10000 + q1.1)))) (if_pos hc) ?_
                refine ev_runs 3 (98, [some (.inr (.inr 92)), some (.inl c1), some (.inl c2), some (.inl v3), some (.inl v4), some (.inl q1.1)], [], (gset q1.2 119 ((wr ((wr (24 * (wr ((wr (6 * c1)) + c2)))) + v3)).toNat) (wr (10000 + q1.1)))) (23, [some (.inr (.inr 92)), some (.inl c1), some (.inl c2), some (.inl (wr (v3 + 1))), some (.inl (wr (v4 + 1))), some (.inl q1.1)], [], (gset q1.2 119 ((wr ((wr (24 * (wr ((wr (6 * c1)) + c2)))) + v3)).toNat) (wr (10000 + q1.1)))) rfl ?_
                exact ev_le (L := [some (.inr (.inr 92)), some (.inl c1), some (.inl c2), some (.inl (wr (v3 + 1))), some (.inl (wr (v4 + 1))), none]) (by simp [Lle]) (ih23 (wr (v3 + 1)) (wr (v4 + 1)) (gset q1.2 119 ((wr ((wr (24 * (wr ((wr (6 * c1)) + c2)))) + v3)).toNat) (wr (10000 + q1.1))) g' h)
              · rw [if_neg hc] at h; cases h
    · rw [if_neg hc] at h; cases h
set_option maxRecDepth 100000 in
set_option maxHeartbeats 4000000 in
theorem ev_Md_findLooks_l12 (c1 : Int) (K12_125 : Gx → Option Gx) (hK12_125 : ∀ (g : Gx) (g' : Gx), K12_125 g = some g' → Ev 101 125 [some (.inr (.inr 92)), some (.inl c1), none, none, none, none] [] g none g') : ∀ (n12 : Nat) (v2 : Int) (g : Gx) (g' : Gx), Md_findLooks_l12 c1 K12_125 n12 v2 g = some g' → Ev 101 12 [some (.inr (.inr 92)), some (.inl c1), some (.inl v2), none, none, none] [] g none g' := by
  intro n12
  induction n12 with
  | zero => intro v2 g g' h; cases h
  | succ n12 ih12 =>
    intro v2 g g' h
    rw [Md_findLooks_l12] at h
    refine ev_runs 2 (12, [some (.inr (.inr 92)), some (.inl c1), some (.inl v2), none, none, none], [], g) (15, [some (.inr (.inr 92)), some (.inl c1), some (.inl v2), none, none, none], [.inl 6, .inl v2], g) rfl ?_
    by_cases hc : 6 ≤ v2
    · rw [if_pos hc] at h
      refine es (125, [some (.inr (.inr 92)), some (.inl c1), some (.inl v2), none, none, none], [], g) (congrArg some (if_pos hc)) ?_
      exact ev_le (L := [some (.inr (.inr 92)), some (.inl c1), none, none, none, none]) (by simp [Lle]) (hK12_125 g g' h)
    · rw [if_neg hc] at h
      refine es (18, [some (.inr (.inr 92)), some (.inl c1), some (.inl v2), none, none, none], [], g) (congrArg some (if_neg hc)) ?_
      refine ev_runs 4 (18, [some (.inr (.inr 92)), some (.inl c1), some (.inl v2), none, none, none], [], g) (23, [some (.inr (.inr 92)), some (.inl c1), some (.inl v2), some (.inl 0), some (.inl 0), none], [], g) rfl ?_
      refine ev_le (L := [some (.inr (.inr 92)), some (.inl c1), some (.inl v2), some (.inl 0), some (.inl 0), none]) (by simp [Lle]) ?_
      refine ev_Md_findLooks_l23 c1 v2 _ ?_ fu 0 0 g g' h
      · intro x2 g3 g' h
        refine ev_runs 8 (107, [some (.inr (.inr 92)), some (.inl c1), some (.inl v2), some (.inl x2), none, none], [], g3) (118, [some (.inr (.inr 92)), some (.inl c1), some (.inl v2), some (.inl x2), none, none], [.inl x2, .inl (wr ((wr (6 * c1)) + v2)), .inr (.inr 118)], g3) rfl ?_
        by_cases hc : 0 ≤ (wr ((wr (6 * c1)) + v2)) ∧ (wr ((wr (6 * c1)) + v2)) < 180
        · rw [if_pos hc] at h
          refine es (119, [some (.inr (.inr 92)), some (.inl c1), some (.inl v2), some (.inl x2), none, none], [], (gset g3 118 ((wr ((wr (6 * c1)) + v2)).toNat) x2)) (if_pos hc) ?_
          refine ev_runs 2 (119, [some (.inr (.inr 92)), some (.inl c1), some (.inl v2), some (.inl x2), none, none], [], (gset g3 118 ((wr ((wr (6 * c1)) + v2)).toNat) x2)) (12, [some (.inr (.inr 92)), some (.inl c1), some (.inl (wr (v2 + 1))), some (.inl x2), none, none], [], (gset g3 118 ((wr ((wr (6 * c1)) + v2)).toNat) x2)) rfl ?_
          exact ev_le (L := [some (.inr (.inr 92)), some (.inl c1), some (.inl (wr (v2 + 1))), none, none, none]) (by simp [Lle]) (ih12 (wr (v2 + 1)) (gset g3 118 ((wr ((wr (6 * c1)) + v2)).toNat) x2) g' h)
        · rw [if_neg hc] at h; cases h
set_option maxRecDepth 100000 in
set_option maxHeartbeats 4000000 in
theorem ev_Md_findLooks_l2 (K2_131 : Gx → Option Gx) (hK2_131 : ∀ (g : Gx) (g' : Gx), K2_131 g = some g' → Ev 101 131 [none, none, none, none, none, none] [] g none g') : ∀ (n2 : Nat) (v1 : Int) (g : Gx) (g' : Gx), Md_findLooks_l2 K2_131 n2 v1 g = some g' → Ev 101 2 [some (.inr (.inr 92)), some (.inl v1), none, none, none, none] [] g none g' := by
  intro n2
  induction n2 with
  | zero => intro v1 g g' h; cases h
  | succ n2 ih2 =>
    intro v1 g g' h
    rw [Md_findLooks_l2] at h
    refine ev_runs 3 (2, [some (.inr (.inr 92)), some (.inl v1), none, none, none, none], [], g) (7, [some (.inr (.inr 92)), some (.inl v1), none, none, none, none], [.inl (g 92 26), .inl v1], g) rfl ?_
    by_cases hc : (g 92 26) ≤ v1
    · rw [if_pos hc] at h
      refine es (131, [some (.inr (.inr 92)), some (.inl v1), none, none, none, none], [], g) (congrArg some (if_pos hc)) ?_
      exact ev_le (L := [none, none, none, none, none, none]) (by simp [Lle]) (hK2_131 g g' h)
    · rw [if_neg hc] at h
      refine es (10, [some (.inr (.inr 92)), some (.inl v1), none, none, none, none], [], g) (congrArg some (if_neg hc)) ?_
      refine ev_runs 2 (10, [some (.inr (.inr 92)), some (.inl v1), none, none, none, none], [], g) (12, [some (.inr (.inr 92)), some (.inl v1), some (.inl 0), none, none, none], [], g) rfl ?_
      refine ev_le (L := [some (.inr (.inr 92)), some (.inl v1), some (.inl 0), none, none, none]) (by simp [Lle]) ?_
      refine ev_Md_findLooks_l12 v1 _ ?_ fu 0 g g' h
      · intro g4 g' h
        refine ev_runs 2 (125, [some (.inr (.inr 92)), some (.inl v1), none, none, none, none], [], g4) (2, [some (.inr (.inr 92)), some (.inl (wr (v1 + 1))), none, none, none, none], [], g4) rfl ?_
        exact ev_le (L := [some (.inr (.inr 92)), some (.inl (wr (v1 + 1))), none, none, none, none]) (by simp [Lle]) (ih2 (wr (v1 + 1)) g4 g' h)
set_option maxRecDepth 100000 in
set_option maxHeartbeats 4000000 in
theorem ev_Md_findLooks (g : Gx) (g' : Gx) (h : Md_findLooks g = some g') : Ev 101 0 [some (.inr (.inr 92)), none, none, none, none, none] [] g none g' := by
  rw [Md_findLooks] at h
  refine ev_runs 2 (0, [some (.inr (.inr 92)), none, none, none, none, none], [], g) (2, [some (.inr (.inr 92)), some (.inl 0), none, none, none, none], [], g) rfl ?_
  refine ev_le (L := [some (.inr (.inr 92)), some (.inl 0), none, none, none, none]) (by simp [Lle]) ?_
  refine ev_Md_findLooks_l2 _ ?_ fu 0 g g' h
  · intro g5 g' h
    cases h
    exact er rfl
set_option maxRecDepth 100000 in
set_option maxHeartbeats 4000000 in
theorem ev_Md_lookAt (a1 a2 a3 : Int) (g : Gx) (r : Int) (g' : Gx) (h : Md_lookAt a1 a2 a3 g = some (r, g')) : Ev 102 0 [some (.inr (.inr 92)), some (.inl a1), some (.inl a2), some (.inl a3)] [] g (some (.inl r)) g' := by
  rw [Md_lookAt] at h
  refine ev_runs 8 (0, [some (.inr (.inr 92)), some (.inl a1), some (.inl a2), some (.inl a3)], [], g) (11, [some (.inr (.inr 92)), some (.inl a1), some (.inl a2), some (.inl a3)], [.inl (wr ((wr (6 * a2)) + a1)), .inr (.inr 118), .inl a3], g) rfl ?_
  by_cases hc : 0 ≤ (wr ((wr (6 * a2)) + a1)) ∧ (wr ((wr (6 * a2)) + a1)) < 180
  · rw [if_pos hc] at h
    refine es (12, [some (.inr (.inr 92)), some (.inl a1), some (.inl a2), some (.inl a3)], [.inl (g 118 (wr ((wr (6 * a2)) + a1)).toNat), .inl a3], g) (if_pos hc) ?_
    by_cases hc : (g 118 (wr ((wr (6 * a2)) + a1)).toNat) ≤ a3
    · rw [if_pos hc] at h
      refine es (34, [some (.inr (.inr 92)), some (.inl a1), some (.inl a2), some (.inl a3)], [], g) (congrArg some (if_pos hc)) ?_
      refine ev_runs 1 (34, [some (.inr (.inr 92)), some (.inl a1), some (.inl a2), some (.inl a3)], [], g) (35, [some (.inr (.inr 92)), some (.inl a1), some (.inl a2), some (.inl a3)], [.inl (-1)], g) rfl ?_
      cases h
      exact er rfl
    · rw [if_neg hc] at h
      refine es (15, [some (.inr (.inr 92)), some (.inl a1), some (.inl a2), some (.inl a3)], [], g) (congrArg some (if_neg hc)) ?_
      refine ev_runs 11 (15, [some (.inr (.inr 92)), some (.inl a1), some (.inl a2), some (.inl a3)], [], g) (30, [some (.inr (.inr 92)), some (.inl a1), some (.inl a2), some (.inl a3)], [.inl (wr ((wr (24 * (wr ((wr (6 * a2)) + a1)))) + a3)), .inr (.inr 119)], g) rfl ?_
      by_cases hc : 0 ≤ (wr ((wr (24 * (wr ((wr (6 * a2)) + a1)))) + a3)) ∧ (wr ((wr (24 * (wr ((wr (6 * a2)) + a1)))) + a3)) < 4320
      · rw [if_pos hc] at h
        refine es (31, [some (.inr (.inr 92)), some (.inl a1), some (.inl a2), some (.inl a3)], [.inl (g 119 (wr ((wr (24 * (wr ((wr (6 * a2)) + a1)))) + a3)).toNat)], g) (if_pos hc) ?_
        refine ev_runs 1 (31, [some (.inr (.inr 92)), some (.inl a1), some (.inl a2), some (.inl a3)], [.inl (g 119 (wr ((wr (24 * (wr ((wr (6 * a2)) + a1)))) + a3)).toNat)], g) (35, [some (.inr (.inr 92)), some (.inl a1), some (.inl a2), some (.inl a3)], [.inl (g 119 (wr ((wr (24 * (wr ((wr (6 * a2)) + a1)))) + a3)).toNat)], g) rfl ?_
        cases h
        exact er rfl
      · rw [if_neg hc] at h; cases h
  · rw [if_neg hc] at h; cases h
set_option maxRecDepth 100000 in
set_option maxHeartbeats 4000000 in
theorem ev_Md_look (a1 a2 a3 : Int) (g : Gx) (r : Int) (g' : Gx) (h : Md_look a1 a2 a3 g = some (r, g')) : Ev 103 0 [some (.inr (.inr 92)), some (.inl a1), some (.inl a2), some (.inl a3), none] [] g (some (.inl r)) g' := by
  rw [Md_look] at h
  refine ev_runs 1 (0, [some (.inr (.inr 92)), some (.inl a1), some (.inl a2), some (.inl a3), none], [], g) (1, [some (.inr (.inr 92)), some (.inl a1), some (.inl a2), some (.inl a3), none], [.inl a1], g) rfl ?_
  refine ec 98 4 [.inl a1] [] rfl (ev_Md_isOne a1 g _ rfl) ?_
  show Ev 103 4 [some (.inr (.inr 92)), some (.inl a1), some (.inl a2), some (.inl a3), none] [.inl (Md_isOne a1)] g _ _
  by_cases hc : (Md_isOne a1) = 0
  · rw [if_pos hc] at h
    refine es (19, [some (.inr (.inr 92)), some (.inl a1), some (.inl a2), some (.inl a3), none], [], g) (congrArg some (if_pos hc)) ?_
    refine ev_runs 1 (19, [some (.inr (.inr 92)), some (.inl a1), some (.inl a2), some (.inl a3), none], [], g) (21, [some (.inr (.inr 92)), some (.inl a1), some (.inl a2), some (.inl a3), none], [.inl (-2)], g) rfl ?_
    cases h
    exact er rfl
  · rw [if_neg hc] at h
    refine es (7, [some (.inr (.inr 92)), some (.inl a1), some (.inl a2), some (.inl a3), none], [], g) (congrArg some (if_neg hc)) ?_
    refine ev_runs 1 (7, [some (.inr (.inr 92)), some (.inl a1), some (.inl a2), some (.inl a3), none], [], g) (8, [some (.inr (.inr 92)), some (.inl a1), some (.inl a2), some (.inl a3), none], [.inl a2], g) rfl ?_
    refine ec 87 11 [.inl a2] [] rfl (ev_Md_isHistory a2 g _ rfl) ?_
    show Ev 103 11 [some (.inr (.inr 92)), some (.inl a1), some (.inl a2), some (.inl a3), none] [.inl (Md_isHistory a2)] g _ _
    by_cases hc : (Md_isHistory a2) = 0
    · rw [if_pos hc] at h
      refine es (19, [some (.inr (.inr 92)), some (.inl a1), some (.inl a2), some (.inl a3), none], [], g) (congrArg some (if_pos hc)) ?_
      refine ev_runs 1 (19, [some (.inr (.inr 92)), some (.inl a1), some (.inl a2), some (.inl a3), none], [], g) (21, [some (.inr (.inr 92)), some (.inl a1), some (.inl a2), some (.inl a3), none], [.inl (-2)], g) rfl ?_
      cases h
      exact er rfl
    · rw [if_neg hc] at h
      refine es (14, [some (.inr (.inr 92)), some (.inl a1), some (.inl a2), some (.inl a3), none], [], g) (congrArg some (if_neg hc)) ?_
      refine ev_runs 2 (14, [some (.inr (.inr 92)), some (.inl a1), some (.inl a2), some (.inl a3), none], [], g) (16, [some (.inr (.inr 92)), some (.inl a1), some (.inl a2), some (.inl a3), none], [.inl (-1), .inl a3], g) rfl ?_
      by_cases hc : (-1) ≤ a3
      · rw [if_pos hc] at h
        refine es (22, [some (.inr (.inr 92)), some (.inl a1), some (.inl a2), some (.inl a3), none], [], g) (congrArg some (if_pos hc)) ?_
        refine ev_runs 2 (22, [some (.inr (.inr 92)), some (.inl a1), some (.inl a2), some (.inl a3), none], [], g) (24, [some (.inr (.inr 92)), some (.inl a1), some (.inl a2), some (.inl a3), none], [.inl a2, .inr (.inr 92)], g) rfl ?_
        obtain ⟨q1, hq, h⟩ := Option.bind_eq_some_iff.mp h
        refine ec 88 27 [.inr (.inr 92), .inl a2] [] rfl (ev_Md_lacksOne a2 g q1.1 q1.2 hq) ?_
        show Ev 103 27 [some (.inr (.inr 92)), some (.inl a1), some (.inl a2), some (.inl a3), none] [.inl q1.1] q1.2 _ _
        refine ev_runs 2 (27, [some (.inr (.inr 92)), some (.inl a1), some (.inl a2), some (.inl a3), none], [.inl q1.1], q1.2) (31, [some (.inr (.inr 92)), some (.inl a1), some (.inl a2), some (.inl a3), some (.inl q1.1)], [.inl q1.1], q1.2) rfl ?_
        by_cases hc : q1.1 = 0
        · rw [if_pos hc] at h
          refine es (37, [some (.inr (.inr 92)), some (.inl a1), some (.inl a2), some (.inl a3), some (.inl q1.1)], [], q1.2) (congrArg some (if_pos hc)) ?_
          refine ev_runs 1 (37, [some (.inr (.inr 92)), some (.inl a1), some (.inl a2), some (.inl a3), some (.inl q1.1)], [], q1.2) (38, [some (.inr (.inr 92)), some (.inl a1), some (.inl a2), some (.inl a3), some (.inl q1.1)], [.inr (.inr 92)], q1.2) rfl ?_
          obtain ⟨g2, hq, h⟩ := Option.bind_eq_some_iff.mp h
          refine ec 101 41 [.inr (.inr 92)] [] rfl (ev_Md_findLooks q1.2 g2 hq) ?_
          show Ev 103 41 [some (.inr (.inr 92)), some (.inl a1), some (.inl a2), some (.inl a3), some (.inl q1.1)] [] g2 _ _
          refine ev_runs 2 (41, [some (.inr (.inr 92)), some (.inl a1), some (.inl a2), some (.inl a3), some (.inl q1.1)], [], g2) (43, [some (.inr (.inr 92)), some (.inl a1), some (.inl a2), some (.inl a3), some (.inl q1.1)], [.inl (-1), .inl a3], g2) rfl ?_
          by_cases hc : ¬ a3 = (-1)
          · rw [if_pos hc] at h
            refine es (60, [some (.inr (.inr 92)), some (.inl a1), some (.inl a2), some (.inl a3), some (.inl q1.1)], [], g2) (congrArg some (if_pos hc)) ?_
            refine ev_runs 4 (60, [some (.inr (.inr 92)), some (.inl a1), some (.inl a2), some (.inl a3), some (.inl q1.1)], [], g2) (64, [some (.inr (.inr 92)), some (.inl a1), some (.inl a2), some (.inl a3), some (.inl q1.1)], [.inl a3, .inl a2, .inl a1, .inr (.inr 92)], g2) rfl ?_
            obtain ⟨q3, hq, h⟩ := Option.bind_eq_some_iff.mp h
            refine ec 102 67 [.inr (.inr 92), .inl a1, .inl a2, .inl a3] [] rfl (ev_Md_lookAt a1 a2 a3 g2 q3.1 q3.2 hq) ?_
            show Ev 103 67 [some (.inr (.inr 92)), some (.inl a1), some (.inl a2), some (.inl a3), some (.inl q1.1)] [.inl q3.1] q3.2 _ _
            cases h
            exact er rfl
          · rw [if_neg hc] at h
            refine es (46, [some (.inr (.inr 92)), some (.inl a1), some (.inl a2), some (.inl a3), some (.inl q1.1)], [], g2) (congrArg some (if_neg hc)) ?_
            refine ev_runs 7 (46, [some (.inr (.inr 92)), some (.inl a1), some (.inl a2), some (.inl a3), some (.inl q1.1)], [], g2) (56, [some (.inr (.inr 92)), some (.inl a1), some (.inl a2), some (.inl a3), some (.inl q1.1)], [.inl (wr ((wr (6 * a2)) + a1)), .inr (.inr 118)], g2) rfl ?_
            by_cases hc : 0 ≤ (wr ((wr (6 * a2)) + a1)) ∧ (wr ((wr (6 * a2)) + a1)) < 180
            · rw [if_pos hc] at h
              refine es (57, [some (.inr (.inr 92)), some (.inl a1), some (.inl a2), some (.inl a3), some (.inl q1.1)], [.inl (g2 118 (wr ((wr (6 * a2)) + a1)).toNat)], g2) (if_pos hc) ?_
              refine ev_runs 1 (57, [some (.inr (.inr 92)), some (.inl a1), some (.inl a2), some (.inl a3), some (.inl q1.1)], [.inl (g2 118 (wr ((wr (6 * a2)) + a1)).toNat)], g2) (67, [some (.inr (.inr 92)), some (.inl a1), some (.inl a2), some (.inl a3), some (.inl q1.1)], [.inl (g2 118 (wr ((wr (6 * a2)) + a1)).toNat)], g2) rfl ?_
              cases h
              exact er rfl
            · rw [if_neg hc] at h; cases h
        · rw [if_neg hc] at h
          refine es (34, [some (.inr (.inr 92)), some (.inl a1), some (.inl a2), some (.inl a3), some (.inl q1.1)], [], q1.2) (congrArg some (if_neg hc)) ?_
          refine ev_runs 1 (34, [some (.inr (.inr 92)), some (.inl a1), some (.inl a2), some (.inl a3), some (.inl q1.1)], [], q1.2) (36, [some (.inr (.inr 92)), some (.inl a1), some (.inl a2), some (.inl a3), some (.inl q1.1)], [.inl q1.1], q1.2) rfl ?_
          cases h
          exact er rfl
      · rw [if_neg hc] at h
        refine es (19, [some (.inr (.inr 92)), some (.inl a1), some (.inl a2), some (.inl a3), none], [], g) (congrArg some (if_neg hc)) ?_
        refine ev_runs 1 (19, [some (.inr (.inr 92)), some (.inl a1), some (.inl a2), some (.inl a3), none], [], g) (21, [some (.inr (.inr 92)), some (.inl a1), some (.inl a2), some (.inl a3), none], [.inl (-2)], g) rfl ?_
        cases h
        exact er rfl
set_option maxRecDepth 100000 in
set_option maxHeartbeats 4000000 in
theorem ev_Hi_all (g : Gx) (r : Int) (h : Hi_all g = r) : Ev 104 0 [some (.inr (.inr 33))] [] g (some (.inl r)) g := by
  rw [Hi_all] at h
  refine ev_runs 6 (0, [some (.inr (.inr 33))], [], g) (8, [some (.inr (.inr 33))], [.inl (wr ((jshl 1 (g 33 9)) - 1))], g) rfl ?_
  subst h
  exact er rfl
set_option maxRecDepth 100000 in
set_option maxHeartbeats 4000000 in
theorem ev_Lk_common_l23 (c1 : Int) (c2 : Int) (c3 : Int) (K23_66 : Int → Gx → Option (Int × Gx)) (hK23_66 : ∀ (x4 : Int) (g : Gx) (r : Int) (g' : Gx), K23_66 x4 g = some (r, g') → Ev 105 66 [none, none, none, none, some (.inl x4)] [] g (some (.inl r)) g') : ∀ (n23 : Nat) (v4 : Int) (g : Gx) (r : Int) (g' : Gx), Lk_common_l23 c1 c2 c3 K23_66 n23 v4 g = some (r, g') → Ev 105 23 [some (.inr (.inr 50)), some (.inl c1), some (.inl c2), some (.inl c3), some (.inl v4)] [] g (some (.inl r)) g' := by
  intro n23
  induction n23 with
  | zero => intro v4 g r g' h; cases h
  | succ n23 ih23 =>
    intro v4 g r g' h
    rw [Lk_common_l23] at h
    refine ev_runs 2 (23, [some (.inr (.inr 50)), some (.inl c1), some (.inl c2), some (.inl c3), some (.inl v4)], [], g) (26, [some (.inr (.inr 50)), some (.inl c1), some (.inl c2), some (.inl c3), some (.inl v4)], [.inl c3, .inl v4], g) rfl ?_
    by_cases hc : c3 ≤ v4
    · rw [if_pos hc] at h
      refine es (66, [some (.inr (.inr 50)), some (.inl c1), some (.inl c2), some (.inl c3), some (.inl v4)], [], g) (congrArg some (if_pos hc)) ?_
      exact ev_le (L := [none, none, none, none, some (.inl v4)]) (by simp [Lle]) (hK23_66 v4 g r g' h)
    · rw [if_neg hc] at h
      refine es (29, [some (.inr (.inr 50)), some (.inl c1), some (.inl c2), some (.inl c3), some (.inl v4)], [], g) (congrArg some (if_neg hc)) ?_
      refine ev_runs 7 (29, [some (.inr (.inr 50)), some (.inl c1), some (.inl c2), some (.inl c3), some (.inl v4)], [], g) (40, [some (.inr (.inr 50)), some (.inl c1), some (.inl c2), some (.inl c3), some (.inl v4)], [.inl (wr ((wr (c1 * 24)) + v4)), .inr (.inr 51)], g) rfl ?_
      refine ec 13 43 [.inr (.inr 51), .inl (wr ((wr (c1 * 24)) + v4))] [] rfl (ev_Row_at rfl rfl _ _) ?_
      show Ev 105 43 [some (.inr (.inr 50)), some (.inl c1), some (.inl c2), some (.inl c3), some (.inl v4)] [.inl (rat g 52 720 (wr ((wr (c1 * 24)) + v4)))] g _ _
      refine ev_runs 7 (43, [some (.inr (.inr 50)), some (.inl c1), some (.inl c2), some (.inl c3), some (.inl v4)], [.inl (rat g 52 720 (wr ((wr (c1 * 24)) + v4)))], g) (54, [some (.inr (.inr 50)), some (.inl c1), some (.inl c2), some (.inl c3), some (.inl v4)], [.inl (wr ((wr (c2 * 24)) + v4)), .inr (.inr 51), .inl (rat g 52 720 (wr ((wr (c1 * 24)) + v4)))], g) rfl ?_
      refine ec 13 57 [.inr (.inr 51), .inl (wr ((wr (c2 * 24)) + v4))] [.inl (rat g 52 720 (wr ((wr (c1 * 24)) + v4)))] rfl (ev_Row_at rfl rfl _ _) ?_
      show Ev 105 57 [some (.inr (.inr 50)), some (.inl c1), some (.inl c2), some (.inl c3), some (.inl v4)] [.inl (rat g 52 720 (wr ((wr (c2 * 24)) + v4))), .inl (rat g 52 720 (wr ((wr (c1 * 24)) + v4)))] g _ _
      by_cases hc : ¬ (rat g 52 720 (wr ((wr (c1 * 24)) + v4))) = (rat g 52 720 (wr ((wr (c2 * 24)) + v4)))
      · rw [if_pos hc] at h
        refine es (66, [some (.inr (.inr 50)), some (.inl c1), some (.inl c2), some (.inl c3), some (.inl v4)], [], g) (congrArg some (if_pos hc)) ?_
        exact ev_le (L := [none, none, none, none, some (.inl v4)]) (by simp [Lle]) (hK23_66 v4 g r g' h)
      · rw [if_neg hc] at h
        refine es (60, [some (.inr (.inr 50)), some (.inl c1), some (.inl c2), some (.inl c3), some (.inl v4)], [], g) (congrArg some (if_neg hc)) ?_
        refine ev_runs 2 (60, [some (.inr (.inr 50)), some (.inl c1), some (.inl c2), some (.inl c3), some (.inl v4)], [], g) (23, [some (.inr (.inr 50)), some (.inl c1), some (.inl c2), some (.inl c3), some (.inl (wr (v4 + 1)))], [], g) rfl ?_
        exact ev_le (L := [some (.inr (.inr 50)), some (.inl c1), some (.inl c2), some (.inl c3), some (.inl (wr (v4 + 1)))]) (by simp [Lle]) (ih23 (wr (v4 + 1)) g r g' h)
set_option maxRecDepth 100000 in
set_option maxHeartbeats 4000000 in
theorem ev_Lk_common (a1 a2 : Int) (g : Gx) (r : Int) (g' : Gx) (h : Lk_common a1 a2 g = some (r, g')) : Ev 105 0 [some (.inr (.inr 50)), some (.inl a1), some (.inl a2), none, none] [] g (some (.inl r)) g' := by
  rw [Lk_common] at h
  refine ev_runs 3 (0, [some (.inr (.inr 50)), some (.inl a1), some (.inl a2), none, none], [], g) (5, [some (.inr (.inr 50)), some (.inl a1), some (.inl a2), none, none], [.inl a1, .inr (.inr 53)], g) rfl ?_
  refine ec 13 8 [.inr (.inr 53), .inl a1] [] rfl (ev_Row_at rfl rfl _ _) ?_
  show Ev 105 8 [some (.inr (.inr 50)), some (.inl a1), some (.inl a2), none, none] [.inl (rat g 54 30 a1)] g _ _
  refine ev_runs 3 (8, [some (.inr (.inr 50)), some (.inl a1), some (.inl a2), none, none], [.inl (rat g 54 30 a1)], g) (13, [some (.inr (.inr 50)), some (.inl a1), some (.inl a2), none, none], [.inl a2, .inr (.inr 53), .inl (rat g 54 30 a1)], g) rfl ?_
  refine ec 13 16 [.inr (.inr 53), .inl a2] [.inl (rat g 54 30 a1)] rfl (ev_Row_at rfl rfl _ _) ?_
  show Ev 105 16 [some (.inr (.inr 50)), some (.inl a1), some (.inl a2), none, none] [.inl (rat g 54 30 a2), .inl (rat g 54 30 a1)] g _ _
  refine ev_runs 4 (16, [some (.inr (.inr 50)), some (.inl a1), some (.inl a2), none, none], [.inl (rat g 54 30 a2), .inl (rat g 54 30 a1)], g) (23, [some (.inr (.inr 50)), some (.inl a1), some (.inl a2), some (.inl (imin (rat g 54 30 a1) (rat g 54 30 a2))), some (.inl 0)], [], g) rfl ?_
  refine ev_le (L := [some (.inr (.inr 50)), some (.inl a1), some (.inl a2), some (.inl (imin (rat g 54 30 a1) (rat g 54 30 a2))), some (.inl 0)]) (by simp [Lle]) ?_
  refine ev_Lk_common_l23 a1 a2 (imin (rat g 54 30 a1) (rat g 54 30 a2)) _ ?_ fu 0 g r g' h
  · intro x1 g2 r g' h
    refine ev_runs 1 (66, [none, none, none, none, some (.inl x1)], [], g2) (68, [none, none, none, none, some (.inl x1)], [.inl x1], g2) rfl ?_
    cases h
    exact er rfl
set_option maxRecDepth 100000 in
set_option maxHeartbeats 4000000 in
theorem ev_Lk_bothEnd (a1 a2 a3 : Int) (g : Gx) (r : Int) (h : Lk_bothEnd a1 a2 a3 g = r) : Ev 106 0 [some (.inr (.inr 50)), some (.inl a1), some (.inl a2), some (.inl a3)] [] g (some (.inl r)) g := by
  rw [Lk_bothEnd] at h
  refine ev_runs 3 (0, [some (.inr (.inr 50)), some (.inl a1), some (.inl a2), some (.inl a3)], [], g) (5, [some (.inr (.inr 50)), some (.inl a1), some (.inl a2), some (.inl a3)], [.inl a1, .inr (.inr 53)], g) rfl ?_
  refine ec 13 8 [.inr (.inr 53), .inl a1] [] rfl (ev_Row_at rfl rfl _ _) ?_
  show Ev 106 8 [some (.inr (.inr 50)), some (.inl a1), some (.inl a2), some (.inl a3)] [.inl (rat g 54 30 a1)] g _ _
  refine ev_runs 1 (8, [some (.inr (.inr 50)), some (.inl a1), some (.inl a2), some (.inl a3)], [.inl (rat g 54 30 a1)], g) (9, [some (.inr (.inr 50)), some (.inl a1), some (.inl a2), some (.inl a3)], [.inl a3, .inl (rat g 54 30 a1)], g) rfl ?_
  by_cases hc : ¬ (rat g 54 30 a1) = a3
  · rw [if_pos hc] at h
    refine es (28, [some (.inr (.inr 50)), some (.inl a1), some (.inl a2), some (.inl a3)], [], g) (congrArg some (if_pos hc)) ?_
    refine ev_runs 1 (28, [some (.inr (.inr 50)), some (.inl a1), some (.inl a2), some (.inl a3)], [], g) (29, [some (.inr (.inr 50)), some (.inl a1), some (.inl a2), some (.inl a3)], [.inl 0], g) rfl ?_
    subst h
    exact er rfl
  · rw [if_neg hc] at h
    refine es (12, [some (.inr (.inr 50)), some (.inl a1), some (.inl a2), some (.inl a3)], [], g) (congrArg some (if_neg hc)) ?_
    refine ev_runs 3 (12, [some (.inr (.inr 50)), some (.inl a1), some (.inl a2), some (.inl a3)], [], g) (17, [some (.inr (.inr 50)), some (.inl a1), some (.inl a2), some (.inl a3)], [.inl a2, .inr (.inr 53)], g) rfl ?_
    refine ec 13 20 [.inr (.inr 53), .inl a2] [] rfl (ev_Row_at rfl rfl _ _) ?_
    show Ev 106 20 [some (.inr (.inr 50)), some (.inl a1), some (.inl a2), some (.inl a3)] [.inl (rat g 54 30 a2)] g _ _
    refine ev_runs 1 (20, [some (.inr (.inr 50)), some (.inl a1), some (.inl a2), some (.inl a3)], [.inl (rat g 54 30 a2)], g) (21, [some (.inr (.inr 50)), some (.inl a1), some (.inl a2), some (.inl a3)], [.inl a3, .inl (rat g 54 30 a2)], g) rfl ?_
    by_cases hc : ¬ (rat g 54 30 a2) = a3
    · rw [if_pos hc] at h
      refine es (28, [some (.inr (.inr 50)), some (.inl a1), some (.inl a2), some (.inl a3)], [], g) (congrArg some (if_pos hc)) ?_
      refine ev_runs 1 (28, [some (.inr (.inr 50)), some (.inl a1), some (.inl a2), some (.inl a3)], [], g) (29, [some (.inr (.inr 50)), some (.inl a1), some (.inl a2), some (.inl a3)], [.inl 0], g) rfl ?_
      subst h
      exact er rfl
    · rw [if_neg hc] at h
      refine es (24, [some (.inr (.inr 50)), some (.inl a1), some (.inl a2), some (.inl a3)], [], g) (congrArg some (if_neg hc)) ?_
      refine ev_runs 2 (24, [some (.inr (.inr 50)), some (.inl a1), some (.inl a2), some (.inl a3)], [], g) (29, [some (.inr (.inr 50)), some (.inl a1), some (.inl a2), some (.inl a3)], [.inl 1], g) rfl ?_
      subst h
      exact er rfl
set_option maxRecDepth 100000 in
set_option maxHeartbeats 4000000 in
theorem ev_Lk_isFirst_l2 (c1 : Int) (c2 : Int) (K2_38 : Gx → Option (Int × Gx)) (hK2_38 : ∀ (g : Gx) (r : Int) (g' : Gx), K2_38 g = some (r, g') → Ev 107 38 [none, none, none, none] [] g (some (.inl r)) g') : ∀ (n2 : Nat) (v3 : Int) (g : Gx) (r : Int) (g' : Gx), Lk_isFirst_l2 c1 c2 K2_38 n2 v3 g = some (r, g') → Ev 107 2 [some (.inr (.inr 50)), some (.inl c1), some (.inl c2), some (.inl v3)] [] g (some (.inl r)) g' := by
  intro n2
  induction n2 with
  | zero => intro v3 g r g' h; cases h
  | succ n2 ih2 =>
    intro v3 g r g' h
    rw [Lk_isFirst_l2] at h
    refine ev_runs 2 (2, [some (.inr (.inr 50)), some (.inl c1), some (.inl c2), some (.inl v3)], [], g) (4, [some (.inr (.inr 50)), some (.inl c1), some (.inl c2), some (.inl v3)], [.inl c1, .inl v3], g) rfl ?_
    by_cases hc : c1 ≤ v3
    · rw [if_pos hc] at h
      refine es (38, [some (.inr (.inr 50)), some (.inl c1), some (.inl c2), some (.inl v3)], [], g) (congrArg some (if_pos hc)) ?_
      exact ev_le (L := [none, none, none, none]) (by simp [Lle]) (hK2_38 g r g' h)
    · rw [if_neg hc] at h
      refine es (7, [some (.inr (.inr 50)), some (.inl c1), some (.inl c2), some (.inl v3)], [], g) (congrArg some (if_neg hc)) ?_
      refine ev_runs 2 (7, [some (.inr (.inr 50)), some (.inl c1), some (.inl c2), some (.inl v3)], [], g) (9, [some (.inr (.inr 50)), some (.inl c1), some (.inl c2), some (.inl v3)], [.inl v3, .inl c2], g) rfl ?_
      refine ec 64 12 [.inl c2, .inl v3] [] rfl (ev_Op_has c2 v3 g _ rfl) ?_
      show Ev 107 12 [some (.inr (.inr 50)), some (.inl c1), some (.inl c2), some (.inl v3)] [.inl (Op_has c2 v3)] g _ _
      by_cases hc : (Op_has c2 v3) = 0
      · rw [if_pos hc] at h
        refine es (32, [some (.inr (.inr 50)), some (.inl c1), some (.inl c2), some (.inl v3)], [], g) (congrArg some (if_pos hc)) ?_
        refine ev_runs 2 (32, [some (.inr (.inr 50)), some (.inl c1), some (.inl c2), some (.inl v3)], [], g) (2, [some (.inr (.inr 50)), some (.inl c1), some (.inl c2), some (.inl (wr (v3 + 1)))], [], g) rfl ?_
        exact ev_le (L := [some (.inr (.inr 50)), some (.inl c1), some (.inl c2), some (.inl (wr (v3 + 1)))]) (by simp [Lle]) (ih2 (wr (v3 + 1)) g r g' h)
      · rw [if_neg hc] at h
        refine es (15, [some (.inr (.inr 50)), some (.inl c1), some (.inl c2), some (.inl v3)], [], g) (congrArg some (if_neg hc)) ?_
        refine ev_runs 6 (15, [some (.inr (.inr 50)), some (.inl c1), some (.inl c2), some (.inl v3)], [], g) (21, [some (.inr (.inr 50)), some (.inl c1), some (.inl c2), some (.inl v3)], [.inl c1, .inl v3, .inr (.inr 50), .inl c1, .inl v3, .inr (.inr 50)], g) rfl ?_
        obtain ⟨q1, hq, h⟩ := Option.bind_eq_some_iff.mp h
        refine ec 105 24 [.inr (.inr 50), .inl v3, .inl c1] [.inl c1, .inl v3, .inr (.inr 50)] rfl (ev_Lk_common v3 c1 g q1.1 q1.2 hq) ?_
        show Ev 107 24 [some (.inr (.inr 50)), some (.inl c1), some (.inl c2), some (.inl v3)] [.inl q1.1, .inl c1, .inl v3, .inr (.inr 50)] q1.2 _ _
        refine ec 106 27 [.inr (.inr 50), .inl v3, .inl c1, .inl q1.1] [] rfl (ev_Lk_bothEnd v3 c1 q1.1 q1.2 _ rfl) ?_
        show Ev 107 27 [some (.inr (.inr 50)), some (.inl c1), some (.inl c2), some (.inl v3)] [.inl (Lk_bothEnd v3 c1 q1.1 q1.2)] q1.2 _ _
        by_cases hc : (Lk_bothEnd v3 c1 q1.1 q1.2) = 0
        · rw [if_pos hc] at h
          refine es (32, [some (.inr (.inr 50)), some (.inl c1), some (.inl c2), some (.inl v3)], [], q1.2) (congrArg some (if_pos hc)) ?_
          refine ev_runs 2 (32, [some (.inr (.inr 50)), some (.inl c1), some (.inl c2), some (.inl v3)], [], q1.2) (2, [some (.inr (.inr 50)), some (.inl c1), some (.inl c2), some (.inl (wr (v3 + 1)))], [], q1.2) rfl ?_
          exact ev_le (L := [some (.inr (.inr 50)), some (.inl c1), some (.inl c2), some (.inl (wr (v3 + 1)))]) (by simp [Lle]) (ih2 (wr (v3 + 1)) q1.2 r g' h)
        · rw [if_neg hc] at h
          refine es (30, [some (.inr (.inr 50)), some (.inl c1), some (.inl c2), some (.inl v3)], [], q1.2) (congrArg some (if_neg hc)) ?_
          refine ev_runs 1 (30, [some (.inr (.inr 50)), some (.inl c1), some (.inl c2), some (.inl v3)], [], q1.2) (31, [some (.inr (.inr 50)), some (.inl c1), some (.inl c2), some (.inl v3)], [.inl 0], q1.2) rfl ?_
          cases h
          exact er rfl
set_option maxRecDepth 100000 in
set_option maxHeartbeats 4000000 in
theorem ev_Lk_isFirst (a1 a2 : Int) (g : Gx) (r : Int) (g' : Gx) (h : Lk_isFirst a1 a2 g = some (r, g')) : Ev 107 0 [some (.inr (.inr 50)), some (.inl a1), some (.inl a2), none] [] g (some (.inl r)) g' := by
  rw [Lk_isFirst] at h
  refine ev_runs 2 (0, [some (.inr (.inr 50)), some (.inl a1), some (.inl a2), none], [], g) (2, [some (.inr (.inr 50)), some (.inl a1), some (.inl a2), some (.inl 0)], [], g) rfl ?_
  refine ev_le (L := [some (.inr (.inr 50)), some (.inl a1), some (.inl a2), some (.inl 0)]) (by simp [Lle]) ?_
  refine ev_Lk_isFirst_l2 a1 a2 _ ?_ fu 0 g r g' h
  · intro g2 r g' h
    refine ev_runs 1 (38, [none, none, none, none], [], g2) (39, [none, none, none, none], [.inl 1], g2) rfl ?_
    cases h
    exact er rfl
set_option maxRecDepth 100000 in
set_option maxHeartbeats 4000000 in
theorem ev_Lk_unlike_l4 (c1 : Int) (K4_41 : Int → Gx → Option (Int × Gx)) (hK4_41 : ∀ (x2 : Int) (g : Gx) (r : Int) (g' : Gx), K4_41 x2 g = some (r, g') → Ev 108 41 [none, none, some (.inl x2), none] [] g (some (.inl r)) g') : ∀ (n4 : Nat) (v2 v3 : Int) (g : Gx) (r : Int) (g' : Gx), Lk_unlike_l4 c1 K4_41 n4 v2 v3 g = some (r, g') → Ev 108 4 [some (.inr (.inr 50)), some (.inl c1), some (.inl v2), some (.inl v3)] [] g (some (.inl r)) g' := by
  intro n4
  induction n4 with
  | zero => intro v2 v3 g r g' h; cases h
  | succ n4 ih4 =>
    intro v2 v3 g r g' h
    rw [Lk_unlike_l4] at h
    refine ev_runs 3 (4, [some (.inr (.inr 50)), some (.inl c1), some (.inl v2), some (.inl v3)], [], g) (9, [some (.inr (.inr 50)), some (.inl c1), some (.inl v2), some (.inl v3)], [.inr (.inr 33), .inl v3], g) rfl ?_
    refine ec 74 12 [.inr (.inr 33)] [.inl v3] rfl (ev_Hi_size g _ rfl) ?_
    show Ev 108 12 [some (.inr (.inr 50)), some (.inl c1), some (.inl v2), some (.inl v3)] [.inl (Hi_size g), .inl v3] g _ _
    by_cases hc : (Hi_size g) ≤ v3
    · rw [if_pos hc] at h
      refine es (41, [some (.inr (.inr 50)), some (.inl c1), some (.inl v2), some (.inl v3)], [], g) (congrArg some (if_pos hc)) ?_
      exact ev_le (L := [none, none, some (.inl v2), none]) (by simp [Lle]) (hK4_41 v2 g r g' h)
    · rw [if_neg hc] at h
      refine es (15, [some (.inr (.inr 50)), some (.inl c1), some (.inl v2), some (.inl v3)], [], g) (congrArg some (if_neg hc)) ?_
      refine ev_runs 2 (15, [some (.inr (.inr 50)), some (.inl c1), some (.inl v2), some (.inl v3)], [], g) (17, [some (.inr (.inr 50)), some (.inl c1), some (.inl v2), some (.inl v3)], [.inl v3, .inl c1], g) rfl ?_
      refine ec 64 20 [.inl c1, .inl v3] [] rfl (ev_Op_has c1 v3 g _ rfl) ?_
      show Ev 108 20 [some (.inr (.inr 50)), some (.inl c1), some (.inl v2), some (.inl v3)] [.inl (Op_has c1 v3)] g _ _
      by_cases hc : (Op_has c1 v3) = 0
      · rw [if_pos hc] at h
        refine es (35, [some (.inr (.inr 50)), some (.inl c1), some (.inl v2), some (.inl v3)], [], g) (congrArg some (if_pos hc)) ?_
        refine ev_runs 2 (35, [some (.inr (.inr 50)), some (.inl c1), some (.inl v2), some (.inl v3)], [], g) (4, [some (.inr (.inr 50)), some (.inl c1), some (.inl v2), some (.inl (wr (v3 + 1)))], [], g) rfl ?_
        exact ev_le (L := [some (.inr (.inr 50)), some (.inl c1), some (.inl v2), some (.inl (wr (v3 + 1)))]) (by simp [Lle]) (ih4 v2 (wr (v3 + 1)) g r g' h)
      · rw [if_neg hc] at h
        refine es (23, [some (.inr (.inr 50)), some (.inl c1), some (.inl v2), some (.inl v3)], [], g) (congrArg some (if_neg hc)) ?_
        refine ev_runs 3 (23, [some (.inr (.inr 50)), some (.inl c1), some (.inl v2), some (.inl v3)], [], g) (26, [some (.inr (.inr 50)), some (.inl c1), some (.inl v2), some (.inl v3)], [.inl c1, .inl v3, .inr (.inr 50)], g) rfl ?_
        obtain ⟨q1, hq, h⟩ := Option.bind_eq_some_iff.mp h
        refine ec 107 29 [.inr (.inr 50), .inl v3, .inl c1] [] rfl (ev_Lk_isFirst v3 c1 g q1.1 q1.2 hq) ?_
        show Ev 108 29 [some (.inr (.inr 50)), some (.inl c1), some (.inl v2), some (.inl v3)] [.inl q1.1] q1.2 _ _
        by_cases hc : q1.1 = 0
        · rw [if_pos hc] at h
          refine es (35, [some (.inr (.inr 50)), some (.inl c1), some (.inl v2), some (.inl v3)], [], q1.2) (congrArg some (if_pos hc)) ?_
          refine ev_runs 2 (35, [some (.inr (.inr 50)), some (.inl c1), some (.inl v2), some (.inl v3)], [], q1.2) (4, [some (.inr (.inr 50)), some (.inl c1), some (.inl v2), some (.inl (wr (v3 + 1)))], [], q1.2) rfl ?_
          exact ev_le (L := [some (.inr (.inr 50)), some (.inl c1), some (.inl v2), some (.inl (wr (v3 + 1)))]) (by simp [Lle]) (ih4 v2 (wr (v3 + 1)) q1.2 r g' h)
        · rw [if_neg hc] at h
          refine es (32, [some (.inr (.inr 50)), some (.inl c1), some (.inl v2), some (.inl v3)], [], q1.2) (congrArg some (if_neg hc)) ?_
          refine ev_runs 3 (32, [some (.inr (.inr 50)), some (.inl c1), some (.inl v2), some (.inl v3)], [], q1.2) (4, [some (.inr (.inr 50)), some (.inl c1), some (.inl (wr (v2 + 1))), some (.inl (wr (v3 + 1)))], [], q1.2) rfl ?_
          exact ev_le (L := [some (.inr (.inr 50)), some (.inl c1), some (.inl (wr (v2 + 1))), some (.inl (wr (v3 + 1)))]) (by simp [Lle]) (ih4 (wr (v2 + 1)) (wr (v3 + 1)) q1.2 r g' h)
set_option maxRecDepth 100000 in
set_option maxHeartbeats 4000000 in
theorem ev_Lk_unlike (a1 : Int) (g : Gx) (r : Int) (g' : Gx) (h : Lk_unlike a1 g = some (r, g')) : Ev 108 0 [some (.inr (.inr 50)), some (.inl a1), none, none] [] g (some (.inl r)) g' := by
  rw [Lk_unlike] at h
  refine ev_runs 4 (0, [some (.inr (.inr 50)), some (.inl a1), none, none], [], g) (4, [some (.inr (.inr 50)), some (.inl a1), some (.inl 0), some (.inl 0)], [], g) rfl ?_
  refine ev_le (L := [some (.inr (.inr 50)), some (.inl a1), some (.inl 0), some (.inl 0)]) (by simp [Lle]) ?_
  refine ev_Lk_unlike_l4 a1 _ ?_ fu 0 0 g r g' h
  · intro x2 g3 r g' h
    refine ev_runs 1 (41, [none, none, some (.inl x2), none], [], g3) (42, [none, none, some (.inl x2), none], [.inl x2], g3) rfl ?_
    cases h
    exact er rfl
set_option maxRecDepth 100000 in
set_option maxHeartbeats 4000000 in
theorem ev_Op_looks (a1 : Int) (g : Gx) (r : Int) (g' : Gx) (h : Op_looks a1 g = some (r, g')) : Ev 109 0 [some (.inr (.inr 0)), some (.inl a1), none] [] g (some (.inl r)) g' := by
  rw [Op_looks] at h
  refine ev_runs 1 (0, [some (.inr (.inr 0)), some (.inl a1), none], [], g) (1, [some (.inr (.inr 0)), some (.inl a1), none], [.inl a1], g) rfl ?_
  refine ec 91 4 [.inl a1] [] rfl (ev_Op_isTalker a1 g _ rfl) ?_
  show Ev 109 4 [some (.inr (.inr 0)), some (.inl a1), none] [.inl (Op_isTalker a1)] g _ _
  by_cases hc : ¬ (Op_isTalker a1) = 0
  · rw [if_pos hc] at h
    refine es (10, [some (.inr (.inr 0)), some (.inl a1), none], [], g) (congrArg some (if_pos hc)) ?_
    refine ev_runs 2 (10, [some (.inr (.inr 0)), some (.inl a1), none], [], g) (12, [some (.inr (.inr 0)), some (.inl a1), none], [.inl 0, .inr (.inr 0)], g) rfl ?_
    obtain ⟨q1, hq, h⟩ := Option.bind_eq_some_iff.mp h
    refine ec 75 15 [.inr (.inr 0), .inl 0] [] rfl (ev_Op_hindrance 0 g q1.1 q1.2 hq) ?_
    show Ev 109 15 [some (.inr (.inr 0)), some (.inl a1), none] [.inl q1.1] q1.2 _ _
    refine ev_runs 2 (15, [some (.inr (.inr 0)), some (.inl a1), none], [.inl q1.1], q1.2) (17, [some (.inr (.inr 0)), some (.inl a1), some (.inl q1.1)], [.inl q1.1], q1.2) rfl ?_
    by_cases hc : q1.1 = 0
    · rw [if_pos hc] at h
      refine es (22, [some (.inr (.inr 0)), some (.inl a1), some (.inl q1.1)], [], q1.2) (congrArg some (if_pos hc)) ?_
      refine ev_runs 3 (22, [some (.inr (.inr 0)), some (.inl a1), some (.inl q1.1)], [], q1.2) (27, [some (.inr (.inr 0)), some (.inl a1), some (.inl q1.1)], [.inl a1, .inr (.inr 50)], q1.2) rfl ?_
      obtain ⟨g2, hq, h⟩ := Option.bind_eq_some_iff.mp h
      refine ec 94 30 [.inr (.inr 50), .inl a1] [] rfl (ev_Lk_load a1 q1.2 g2 hq) ?_
      show Ev 109 30 [some (.inr (.inr 0)), some (.inl a1), some (.inl q1.1)] [] g2 _ _
      refine ev_runs 4 (30, [some (.inr (.inr 0)), some (.inl a1), some (.inl q1.1)], [], g2) (38, [some (.inr (.inr 0)), some (.inl a1), some (.inl q1.1)], [.inr (.inr 33), .inr (.inr 50)], g2) rfl ?_
      refine ec 104 41 [.inr (.inr 33)] [.inr (.inr 50)] rfl (ev_Hi_all g2 _ rfl) ?_
      show Ev 109 41 [some (.inr (.inr 0)), some (.inl a1), some (.inl q1.1)] [.inl (Hi_all g2), .inr (.inr 50)] g2 _ _
      obtain ⟨q3, hq, h⟩ := Option.bind_eq_some_iff.mp h
      refine ec 108 44 [.inr (.inr 50), .inl (Hi_all g2)] [] rfl (ev_Lk_unlike (Hi_all g2) g2 q3.1 q3.2 hq) ?_
      show Ev 109 44 [some (.inr (.inr 0)), some (.inl a1), some (.inl q1.1)] [.inl q3.1] q3.2 _ _
      cases h
      exact er rfl
    · rw [if_neg hc] at h
      refine es (20, [some (.inr (.inr 0)), some (.inl a1), some (.inl q1.1)], [], q1.2) (congrArg some (if_neg hc)) ?_
      refine ev_runs 1 (20, [some (.inr (.inr 0)), some (.inl a1), some (.inl q1.1)], [], q1.2) (21, [some (.inr (.inr 0)), some (.inl a1), some (.inl q1.1)], [.inl q1.1], q1.2) rfl ?_
      cases h
      exact er rfl
  · rw [if_neg hc] at h
    refine es (7, [some (.inr (.inr 0)), some (.inl a1), none], [], g) (congrArg some (if_neg hc)) ?_
    refine ev_runs 1 (7, [some (.inr (.inr 0)), some (.inl a1), none], [], g) (9, [some (.inr (.inr 0)), some (.inl a1), none], [.inl (-2)], g) rfl ?_
    cases h
    exact er rfl
set_option maxRecDepth 100000 in
set_option maxHeartbeats 4000000 in
theorem ev_Md_allBits (g : Gx) (r : Int) (h : Md_allBits g = r) : Ev 110 0 [some (.inr (.inr 92))] [] g (some (.inl r)) g := by
  rw [Md_allBits] at h
  refine ev_runs 6 (0, [some (.inr (.inr 92))], [], g) (8, [some (.inr (.inr 92))], [.inl (wr ((jshl 1 (g 92 26)) - 1))], g) rfl ?_
  subst h
  exact er rfl
set_option maxRecDepth 100000 in
set_option maxHeartbeats 4000000 in
theorem ev_Md_unlike_l3 (c1 : Int) (c2 : Int) (c3 : Int) (K3_40 : Int → Gx → Option (Int × Gx)) (hK3_40 : ∀ (x4 : Int) (g : Gx) (r : Int) (g' : Gx), K3_40 x4 g = some (r, g') → Ev 111 40 [some (.inr (.inr 92)), some (.inl c1), some (.inl c2), some (.inl c3), some (.inl x4)] [] g (some (.inl r)) g') : ∀ (n3 : Nat) (v4 : Int) (g : Gx) (r : Int) (g' : Gx), Md_unlike_l3 c1 c2 c3 K3_40 n3 v4 g = some (r, g') → Ev 111 3 [some (.inr (.inr 92)), some (.inl c1), some (.inl c2), some (.inl c3), some (.inl v4)] [] g (some (.inl r)) g' := by
  intro n3
  induction n3 with
  | zero => intro v4 g r g' h; cases h
  | succ n3 ih3 =>
    intro v4 g r g' h
    rw [Md_unlike_l3] at h
    refine ev_runs 4 (3, [some (.inr (.inr 92)), some (.inl c1), some (.inl c2), some (.inl c3), some (.inl v4)], [], g) (8, [some (.inr (.inr 92)), some (.inl c1), some (.inl c2), some (.inl c3), some (.inl v4)], [.inl v4, .inl c2, .inl c1, .inr (.inr 92)], g) rfl ?_
    obtain ⟨q1, hq, h⟩ := Option.bind_eq_some_iff.mp h
    refine ec 102 11 [.inr (.inr 92), .inl c1, .inl c2, .inl v4] [] rfl (ev_Md_lookAt c1 c2 v4 g q1.1 q1.2 hq) ?_
    show Ev 111 11 [some (.inr (.inr 92)), some (.inl c1), some (.inl c2), some (.inl c3), some (.inl v4)] [.inl q1.1] q1.2 _ _
    refine ev_runs 1 (11, [some (.inr (.inr 92)), some (.inl c1), some (.inl c2), some (.inl c3), some (.inl v4)], [.inl q1.1], q1.2) (12, [some (.inr (.inr 92)), some (.inl c1), some (.inl c2), some (.inl c3), some (.inl v4)], [.inl (-1), .inl q1.1], q1.2) rfl ?_
    by_cases hc : q1.1 = (-1)
    · rw [if_pos hc] at h
      refine es (40, [some (.inr (.inr 92)), some (.inl c1), some (.inl c2), some (.inl c3), some (.inl v4)], [], q1.2) (congrArg some (if_pos hc)) ?_
      exact ev_le (L := [some (.inr (.inr 92)), some (.inl c1), some (.inl c2), some (.inl c3), some (.inl v4)]) (by simp [Lle]) (hK3_40 v4 q1.2 r g' h)
    · rw [if_neg hc] at h
      refine es (15, [some (.inr (.inr 92)), some (.inl c1), some (.inl c2), some (.inl c3), some (.inl v4)], [], q1.2) (congrArg some (if_neg hc)) ?_
      refine ev_runs 4 (15, [some (.inr (.inr 92)), some (.inl c1), some (.inl c2), some (.inl c3), some (.inl v4)], [], q1.2) (20, [some (.inr (.inr 92)), some (.inl c1), some (.inl c2), some (.inl c3), some (.inl v4)], [.inl v4, .inl c2, .inl c1, .inr (.inr 92)], q1.2) rfl ?_
      obtain ⟨q2, hq, h⟩ := Option.bind_eq_some_iff.mp h
      refine ec 102 23 [.inr (.inr 92), .inl c1, .inl c2, .inl v4] [] rfl (ev_Md_lookAt c1 c2 v4 q1.2 q2.1 q2.2 hq) ?_
      show Ev 111 23 [some (.inr (.inr 92)), some (.inl c1), some (.inl c2), some (.inl c3), some (.inl v4)] [.inl q2.1] q2.2 _ _
      refine ev_runs 4 (23, [some (.inr (.inr 92)), some (.inl c1), some (.inl c2), some (.inl c3), some (.inl v4)], [.inl q2.1], q2.2) (28, [some (.inr (.inr 92)), some (.inl c1), some (.inl c2), some (.inl c3), some (.inl v4)], [.inl v4, .inl c3, .inl c1, .inr (.inr 92), .inl q2.1], q2.2) rfl ?_
      obtain ⟨q3, hq, h⟩ := Option.bind_eq_some_iff.mp h
      refine ec 102 31 [.inr (.inr 92), .inl c1, .inl c3, .inl v4] [.inl q2.1] rfl (ev_Md_lookAt c1 c3 v4 q2.2 q3.1 q3.2 hq) ?_
      show Ev 111 31 [some (.inr (.inr 92)), some (.inl c1), some (.inl c2), some (.inl c3), some (.inl v4)] [.inl q3.1, .inl q2.1] q3.2 _ _
      by_cases hc : ¬ q2.1 = q3.1
      · rw [if_pos hc] at h
        refine es (40, [some (.inr (.inr 92)), some (.inl c1), some (.inl c2), some (.inl c3), some (.inl v4)], [], q3.2) (congrArg some (if_pos hc)) ?_
        exact ev_le (L := [some (.inr (.inr 92)), some (.inl c1), some (.inl c2), some (.inl c3), some (.inl v4)]) (by simp [Lle]) (hK3_40 v4 q3.2 r g' h)
      · rw [if_neg hc] at h
        refine es (34, [some (.inr (.inr 92)), some (.inl c1), some (.inl c2), some (.inl c3), some (.inl v4)], [], q3.2) (congrArg some (if_neg hc)) ?_
        refine ev_runs 2 (34, [some (.inr (.inr 92)), some (.inl c1), some (.inl c2), some (.inl c3), some (.inl v4)], [], q3.2) (3, [some (.inr (.inr 92)), some (.inl c1), some (.inl c2), some (.inl c3), some (.inl (wr (v4 + 1)))], [], q3.2) rfl ?_
        exact ev_le (L := [some (.inr (.inr 92)), some (.inl c1), some (.inl c2), some (.inl c3), some (.inl (wr (v4 + 1)))]) (by simp [Lle]) (ih3 (wr (v4 + 1)) q3.2 r g' h)
set_option maxRecDepth 100000 in
set_option maxHeartbeats 4000000 in
theorem ev_Md_unlike (a1 a2 a3 : Int) (g : Gx) (r : Int) (g' : Gx) (h : Md_unlike a1 a2 a3 g = some (r, g')) : Ev 111 0 [some (.inr (.inr 92)), some (.inl a1), some (.inl a2), some (.inl a3), none] [] g (some (.inl r)) g' := by
  rw [Md_unlike] at h
  refine ev_runs 2 (0, [some (.inr (.inr 92)), some (.inl a1), some (.inl a2), some (.inl a3), none], [], g) (3, [some (.inr (.inr 92)), some (.inl a1), some (.inl a2), some (.inl a3), some (.inl 0)], [], g) rfl ?_
  refine ev_le (L := [some (.inr (.inr 92)), some (.inl a1), some (.inl a2), some (.inl a3), some (.inl 0)]) (by simp [Lle]) ?_
  refine ev_Md_unlike_l3 a1 a2 a3 _ ?_ fu 0 g r g' h
  · intro x4 g5 r g' h
    refine ev_runs 4 (40, [some (.inr (.inr 92)), some (.inl a1), some (.inl a2), some (.inl a3), some (.inl x4)], [], g5) (45, [some (.inr (.inr 92)), some (.inl a1), some (.inl a2), some (.inl a3), some (.inl x4)], [.inl x4, .inl a2, .inl a1, .inr (.inr 92)], g5) rfl ?_
    obtain ⟨q6, hq, h⟩ := Option.bind_eq_some_iff.mp h
    refine ec 102 48 [.inr (.inr 92), .inl a1, .inl a2, .inl x4] [] rfl (ev_Md_lookAt a1 a2 x4 g5 q6.1 q6.2 hq) ?_
    show Ev 111 48 [some (.inr (.inr 92)), some (.inl a1), some (.inl a2), some (.inl a3), some (.inl x4)] [.inl q6.1] q6.2 _ _
    refine ev_runs 4 (48, [some (.inr (.inr 92)), some (.inl a1), some (.inl a2), some (.inl a3), some (.inl x4)], [.inl q6.1], q6.2) (53, [some (.inr (.inr 92)), some (.inl a1), some (.inl a2), some (.inl a3), some (.inl x4)], [.inl x4, .inl a3, .inl a1, .inr (.inr 92), .inl q6.1], q6.2) rfl ?_
    obtain ⟨q7, hq, h⟩ := Option.bind_eq_some_iff.mp h
    refine ec 102 56 [.inr (.inr 92), .inl a1, .inl a3, .inl x4] [.inl q6.1] rfl (ev_Md_lookAt a1 a3 x4 q6.2 q7.1 q7.2 hq) ?_
    show Ev 111 56 [some (.inr (.inr 92)), some (.inl a1), some (.inl a2), some (.inl a3), some (.inl x4)] [.inl q7.1, .inl q6.1] q7.2 _ _
    by_cases hc : ¬ q6.1 = q7.1
    · rw [if_pos hc] at h
      refine es (63, [some (.inr (.inr 92)), some (.inl a1), some (.inl a2), some (.inl a3), some (.inl x4)], [], q7.2) (congrArg some (if_pos hc)) ?_
      refine ev_runs 1 (63, [some (.inr (.inr 92)), some (.inl a1), some (.inl a2), some (.inl a3), some (.inl x4)], [], q7.2) (65, [some (.inr (.inr 92)), some (.inl a1), some (.inl a2), some (.inl a3), some (.inl x4)], [.inl x4], q7.2) rfl ?_
      cases h
      exact er rfl
    · rw [if_neg hc] at h
      refine es (59, [some (.inr (.inr 92)), some (.inl a1), some (.inl a2), some (.inl a3), some (.inl x4)], [], q7.2) (congrArg some (if_neg hc)) ?_
      refine ev_runs 2 (59, [some (.inr (.inr 92)), some (.inl a1), some (.inl a2), some (.inl a3), some (.inl x4)], [], q7.2) (65, [some (.inr (.inr 92)), some (.inl a1), some (.inl a2), some (.inl a3), some (.inl x4)], [.inl (-1)], q7.2) rfl ?_
      cases h
      exact er rfl
