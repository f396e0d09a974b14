/-! Methods as functions, and that the small machine does them. Printed by wip/gen/gen_parts.py. -/
def Md_readsProgram_l17 (K17_251 : Gx → Option (Int × Gx)) : Nat → Gx → Option (Int × Gx)
  | 0, _ => none
  | n17 + 1, g =>
    if (g 98 1) ≤ (g 92 8) then
      K17_251 g
    else
      Option.bind (Md_here 1 g) (fun q1 =>
      if ¬ q1.1 = 124 then
        Option.bind (Md_here 1 q1.2) (fun q2 =>
        if q2.1 = 33 then
          Option.bind (Md_isTalker 1 (gset q2.2 92 8 (wr ((q2.2 92 8) + 1)))) (fun q3 =>
          if ¬ q3.1 = 0 then
            if 0 ≤ (wr ((q3.2 92 21) - 1)) ∧ (wr ((q3.2 92 21) - 1)) < 8 then
            if 0 ≤ (wr ((wr (30 * (wr ((q3.2 92 21) - 1)))) + (q3.2 106 (wr ((q3.2 92 21) - 1)).toNat))) ∧ (wr ((wr (30 * (wr ((q3.2 92 21) - 1)))) + (q3.2 106 (wr ((q3.2 92 21) - 1)).toNat))) < 240 then
            Option.bind (Md_here 1 (gset q3.2 107 ((wr ((wr (30 * (wr ((q3.2 92 21) - 1)))) + (q3.2 106 (wr ((q3.2 92 21) - 1)).toNat))).toNat) q2.1)) (fun q4 =>
            if 0 ≤ (wr ((wr (30 * (wr ((q3.2 92 21) - 1)))) + (q3.2 106 (wr ((q3.2 92 21) - 1)).toNat))) ∧ (wr ((wr (30 * (wr ((q3.2 92 21) - 1)))) + (q3.2 106 (wr ((q3.2 92 21) - 1)).toNat))) < 240 then
            Option.bind (Md_here 1 (gset (gset q4.2 108 ((wr ((wr (30 * (wr ((q3.2 92 21) - 1)))) + (q3.2 106 (wr ((q3.2 92 21) - 1)).toNat))).toNat) (wr (q4.1 - 65))) 92 8 (wr ((q4.2 92 8) + 1)))) (fun q5 =>
            if ¬ (Md_in q5.1 97 122) = 0 then
              Option.bind (Md_here 1 q5.2) (fun q6 =>
              if 0 ≤ (wr ((wr (30 * (wr ((q3.2 92 21) - 1)))) + (q3.2 106 (wr ((q3.2 92 21) - 1)).toNat))) ∧ (wr ((wr (30 * (wr ((q3.2 92 21) - 1)))) + (q3.2 106 (wr ((q3.2 92 21) - 1)).toNat))) < 240 then
              if 0 ≤ (wr ((q6.2 92 21) - 1)) ∧ (wr ((q6.2 92 21) - 1)) < 8 then
              if 0 ≤ (wr ((q6.2 92 21) - 1)) ∧ (wr ((q6.2 92 21) - 1)) < 8 then
              Md_readsProgram_l17 K17_251 n17 (gset (gset (gset q6.2 109 ((wr ((wr (30 * (wr ((q3.2 92 21) - 1)))) + (q3.2 106 (wr ((q3.2 92 21) - 1)).toNat))).toNat) (wr (q6.1 - 97))) 106 ((wr ((q6.2 92 21) - 1)).toNat) (wr ((q6.2 106 (wr ((q6.2 92 21) - 1)).toNat) + 1))) 92 8 (wr ((q6.2 92 8) + 1)))
              else none
              else none
              else none)
            else
              some ((q5.2 92 8), q5.2))
            else none)
            else none
            else none
          else
            some ((q3.2 92 8), q3.2))
        else
          if q2.1 = 63 then
            Option.bind (Md_isTalker 1 (gset q2.2 92 8 (wr ((q2.2 92 8) + 1)))) (fun q7 =>
            if ¬ q7.1 = 0 then
              if 0 ≤ (wr ((q7.2 92 21) - 1)) ∧ (wr ((q7.2 92 21) - 1)) < 8 then
              if 0 ≤ (wr ((wr (30 * (wr ((q7.2 92 21) - 1)))) + (q7.2 106 (wr ((q7.2 92 21) - 1)).toNat))) ∧ (wr ((wr (30 * (wr ((q7.2 92 21) - 1)))) + (q7.2 106 (wr ((q7.2 92 21) - 1)).toNat))) < 240 then
              Option.bind (Md_here 1 (gset q7.2 107 ((wr ((wr (30 * (wr ((q7.2 92 21) - 1)))) + (q7.2 106 (wr ((q7.2 92 21) - 1)).toNat))).toNat) q2.1)) (fun q8 =>
              if 0 ≤ (wr ((wr (30 * (wr ((q7.2 92 21) - 1)))) + (q7.2 106 (wr ((q7.2 92 21) - 1)).toNat))) ∧ (wr ((wr (30 * (wr ((q7.2 92 21) - 1)))) + (q7.2 106 (wr ((q7.2 92 21) - 1)).toNat))) < 240 then
              Option.bind (Md_here 1 (gset (gset q8.2 108 ((wr ((wr (30 * (wr ((q7.2 92 21) - 1)))) + (q7.2 106 (wr ((q7.2 92 21) - 1)).toNat))).toNat) (wr (q8.1 - 65))) 92 8 (wr ((q8.2 92 8) + 1)))) (fun q9 =>
              if ¬ (Md_in q9.1 97 122) = 0 then
                Option.bind (Md_here 1 q9.2) (fun q10 =>
                if 0 ≤ (wr ((wr (30 * (wr ((q7.2 92 21) - 1)))) + (q7.2 106 (wr ((q7.2 92 21) - 1)).toNat))) ∧ (wr ((wr (30 * (wr ((q7.2 92 21) - 1)))) + (q7.2 106 (wr ((q7.2 92 21) - 1)).toNat))) < 240 then
                if 0 ≤ (wr ((q10.2 92 21) - 1)) ∧ (wr ((q10.2 92 21) - 1)) < 8 then
                if 0 ≤ (wr ((q10.2 92 21) - 1)) ∧ (wr ((q10.2 92 21) - 1)) < 8 then
                Md_readsProgram_l17 K17_251 n17 (gset (gset (gset q10.2 109 ((wr ((wr (30 * (wr ((q7.2 92 21) - 1)))) + (q7.2 106 (wr ((q7.2 92 21) - 1)).toNat))).toNat) (wr (q10.1 - 97))) 106 ((wr ((q10.2 92 21) - 1)).toNat) (wr ((q10.2 106 (wr ((q10.2 92 21) - 1)).toNat) + 1))) 92 8 (wr ((q10.2 92 8) + 1)))
                else none
                else none
                else none)
              else
                some ((q9.2 92 8), q9.2))
              else none)
              else none
              else none
            else
              some ((q7.2 92 8), q7.2))
          else
            some ((q2.2 92 8), q2.2))
      else
        if ¬ (q1.2 92 21) = 8 then
          if 0 ≤ (q1.2 92 21) ∧ (q1.2 92 21) < 8 then
          Md_readsProgram_l17 K17_251 n17 (gset (gset (gset q1.2 106 ((q1.2 92 21).toNat) 0) 92 21 (wr ((q1.2 92 21) + 1))) 92 8 (wr ((q1.2 92 8) + 1)))
          else none
        else
          some ((q1.2 92 8), q1.2))
def Md_readsProgram (g : Gx) : Option (Int × Gx) :=
  Md_readsProgram_l17
    (fun g11 =>
      some ((-1), g11))
    fu (gset (gset (gset g 92 8 0) 92 21 1) 106 0 0)
set_option maxRecDepth 100000 in
set_option maxHeartbeats 4000000 in
theorem ev_Md_readsProgram_l17 (K17_251 : Gx → Option (Int × Gx)) (hK17_251 : ∀ (g : Gx) (r : Int) (g' : Gx), K17_251 g = some (r, g') → Ev 44 251 [none, none, none] [] g (some (.inl r)) g') : ∀ (n17 : Nat) (g : Gx) (r : Int) (g' : Gx), Md_readsProgram_l17 K17_251 n17 g = some (r, g') → Ev 44 17 [some (.inr (.inr 92)), none, none] [] g (some (.inl r)) g' := by
  intro n17
  induction n17 with
  | zero => intro g r g' h; cases h
  | succ n17 ih17 =>
    intro g r g' h
    rw [Md_readsProgram_l17] at h
    refine ev_runs 6 (17, [some (.inr (.inr 92)), none, none], [], g) (27, [some (.inr (.inr 92)), none, none], [.inl (g 98 1), .inl (g 92 8)], g) rfl ?_
    by_cases hc : (g 98 1) ≤ (g 92 8)
    · rw [if_pos hc] at h
      refine es (251, [some (.inr (.inr 92)), none, none], [], g) (congrArg some (if_pos hc)) ?_
      exact ev_le (L := [none, none, none]) (by simp [Lle]) (hK17_251 g r g' h)
    · rw [if_neg hc] at h
      refine es (30, [some (.inr (.inr 92)), none, none], [], g) (congrArg some (if_neg hc)) ?_
      refine ev_runs 2 (30, [some (.inr (.inr 92)), none, none], [], g) (32, [some (.inr (.inr 92)), none, none], [.inl 1, .inr (.inr 92)], g) rfl ?_
      obtain ⟨q1, hq, h⟩ := Option.bind_eq_some_iff.mp h
      refine ec 36 35 [.inr (.inr 92), .inl 1] [] rfl (ev_Md_here 1 g q1.1 q1.2 hq) ?_
      show Ev 44 35 [some (.inr (.inr 92)), none, none] [.inl q1.1] q1.2 _ _
      refine ev_runs 1 (35, [some (.inr (.inr 92)), none, none], [.inl q1.1], q1.2) (37, [some (.inr (.inr 92)), none, none], [.inl 124, .inl q1.1], q1.2) rfl ?_
      by_cases hc : ¬ q1.1 = 124
      · rw [if_pos hc] at h
        refine es (87, [some (.inr (.inr 92)), none, none], [], q1.2) (congrArg some (if_pos hc)) ?_
        refine ev_runs 2 (87, [some (.inr (.inr 92)), none, none], [], q1.2) (89, [some (.inr (.inr 92)), none, none], [.inl 1, .inr (.inr 92)], q1.2) rfl ?_
        obtain ⟨q2, hq, h⟩ := Option.bind_eq_some_iff.mp h
        refine ec 36 92 [.inr (.inr 92), .inl 1] [] rfl (ev_Md_here 1 q1.2 q2.1 q2.2 hq) ?_
        show Ev 44 92 [some (.inr (.inr 92)), none, none] [.inl q2.1] q2.2 _ _
        refine ev_runs 3 (92, [some (.inr (.inr 92)), none, none], [.inl q2.1], q2.2) (96, [some (.inr (.inr 92)), some (.inl q2.1), none], [.inl 33, .inl q2.1], q2.2) rfl ?_
        by_cases hc : q2.1 = 33
        · rw [if_pos hc] at h
          refine es (110, [some (.inr (.inr 92)), some (.inl q2.1), none], [], q2.2) (congrArg some (if_pos hc)) ?_
          refine ev_runs 8 (110, [some (.inr (.inr 92)), some (.inl q2.1), none], [], q2.2) (122, [some (.inr (.inr 92)), some (.inl q2.1), none], [.inl 1, .inr (.inr 92)], (gset q2.2 92 8 (wr ((q2.2 92 8) + 1)))) rfl ?_
          obtain ⟨q3, hq, h⟩ := Option.bind_eq_some_iff.mp h
          refine ec 39 125 [.inr (.inr 92), .inl 1] [] rfl (ev_Md_isTalker 1 (gset q2.2 92 8 (wr ((q2.2 92 8) + 1))) q3.1 q3.2 hq) ?_
          show Ev 44 125 [some (.inr (.inr 92)), some (.inl q2.1), none] [.inl q3.1] q3.2 _ _
          by_cases hc : ¬ q3.1 = 0
          · rw [if_pos hc] at h
            refine es (133, [some (.inr (.inr 92)), some (.inl q2.1), none], [], q3.2) (congrArg some (if_pos hc)) ?_
            refine ev_runs 12 (133, [some (.inr (.inr 92)), some (.inl q2.1), none], [], q3.2) (152, [some (.inr (.inr 92)), some (.inl q2.1), none], [.inl (wr ((q3.2 92 21) - 1)), .inr (.inr 106), .inl (wr (30 * (wr ((q3.2 92 21) - 1))))], q3.2) rfl ?_
            by_cases hc : 0 ≤ (wr ((q3.2 92 21) - 1)) ∧ (wr ((q3.2 92 21) - 1)) < 8
            · rw [if_pos hc] at h
              refine es (153, [some (.inr (.inr 92)), some (.inl q2.1), none], [.inl (q3.2 106 (wr ((q3.2 92 21) - 1)).toNat), .inl (wr (30 * (wr ((q3.2 92 21) - 1))))], q3.2) (if_pos hc) ?_
              refine ev_runs 6 (153, [some (.inr (.inr 92)), some (.inl q2.1), none], [.inl (q3.2 106 (wr ((q3.2 92 21) - 1)).toNat), .inl (wr (30 * (wr ((q3.2 92 21) - 1))))], q3.2) (161, [some (.inr (.inr 92)), some (.inl q2.1), some (.inl (wr ((wr (30 * (wr ((q3.2 92 21) - 1)))) + (q3.2 106 (wr ((q3.2 92 21) - 1)).toNat))))], [.inl q2.1, .inl (wr ((wr (30 * (wr ((q3.2 92 21) - 1)))) + (q3.2 106 (wr ((q3.2 92 21) - 1)).toNat))), .inr (.inr 107)], q3.2) rfl ?_
              by_cases hc : 0 ≤ (wr ((wr (30 * (wr ((q3.2 92 21) - 1)))) + (q3.2 106 (wr ((q3.2 92 21) - 1)).toNat))) ∧ (wr ((wr (30 * (wr ((q3.2 92 21) - 1)))) + (q3.2 106 (wr ((q3.2 92 21) - 1)).toNat))) < 240
              · rw [if_pos hc] at h
                refine es (162, [some (.inr (.inr 92)), some (.inl q2.1), some (.inl (wr ((wr (30 * (wr ((q3.2 92 21) - 1)))) + (q3.2 106 (wr ((q3.2 92 21) - 1)).toNat))))], [], (gset q3.2 107 ((wr ((wr (30 * (wr ((q3.2 92 21) - 1)))) + (q3.2 106 (wr ((q3.2 92 21) - 1)).toNat))).toNat) q2.1)) (if_pos hc) ?_
                refine ev_runs 5 (162, [some (.inr (.inr 92)), some (.inl q2.1), some (.inl (wr ((wr (30 * (wr ((q3.2 92 21) - 1)))) + (q3.2 106 (wr ((q3.2 92 21) - 1)).toNat))))], [], (gset q3.2 107 ((wr ((wr (30 * (wr ((q3.2 92 21) - 1)))) + (q3.2 106 (wr ((q3.2 92 21) - 1)).toNat))).toNat) q2.1)) (169, [some (.inr (.inr 92)), some (.inl q2.1), some (.inl (wr ((wr (30 * (wr ((q3.2 92 21) - 1)))) + (q3.2 106 (wr ((q3.2 92 21) - 1)).toNat))))], [.inl 1, .inr (.inr 92), .inl (wr ((wr (30 * (wr ((q3.2 92 21) - 1)))) + (q3.2 106 (wr ((q3.2 92 21) - 1)).toNat))), .inr (.inr 108)], (gset q3.2 107 ((wr ((wr (30 * (wr ((q3.2 92 21) - 1)))) + (q3.2 106 (wr ((q3.2 92 21) - 1)).toNat))).toNat) q2.1)) rfl ?_
                obtain ⟨q4, hq, h⟩ := Option.bind_eq_some_iff.mp h
                refine ec 36 172 [.inr (.inr 92), .inl 1] [.inl (wr ((wr (30 * (wr ((q3.2 92 21) - 1)))) + (q3.2 106 (wr ((q3.2 92 21) - 1)).toNat))), .inr (.inr 108)] rfl (ev_Md_here 1 (gset q3.2 107 ((wr ((wr (30 * (wr ((q3.2 92 21) - 1)))) + (q3.2 106 (wr ((q3.2 92 21) - 1)).toNat))).toNat) q2.1) q4.1 q4.2 hq) ?_
                show Ev 44 172 [some (.inr (.inr 92)), some (.inl q2.1), some (.inl (wr ((wr (30 * (wr ((q3.2 92 21) - 1)))) + (q3.2 106 (wr ((q3.2 92 21) - 1)).toNat))))] [.inl q4.1, .inl (wr ((wr (30 * (wr ((q3.2 92 21) - 1)))) + (q3.2 106 (wr ((q3.2 92 21) - 1)).toNat))), .inr (.inr 108)] q4.2 _ _
                refine ev_runs 2 (172, [some (.inr (.inr 92)), some (.inl q2.1), some (.inl (wr ((wr (30 * (wr ((q3.2 92 21) - 1)))) + (q3.2 106 (wr ((q3.2 92 21) - 1)).toNat))))], [.inl q4.1, .inl (wr ((wr (30 * (wr ((q3.2 92 21) - 1)))) + (q3.2 106 (wr ((q3.2 92 21) - 1)).toNat))), .inr (.inr 108)], q4.2) (175, [some (.inr (.inr 92)), some (.inl q2.1), some (.inl (wr ((wr (30 * (wr ((q3.2 92 21) - 1)))) + (q3.2 106 (wr ((q3.2 92 21) - 1)).toNat))))], [.inl (wr (q4.1 - 65)), .inl (wr ((wr (30 * (wr ((q3.2 92 21) - 1)))) + (q3.2 106 (wr ((q3.2 92 21) - 1)).toNat))), .inr (.inr 108)], q4.2) rfl ?_
                by_cases hc : 0 ≤ (wr ((wr (30 * (wr ((q3.2 92 21) - 1)))) + (q3.2 106 (wr ((q3.2 92 21) - 1)).toNat))) ∧ (wr ((wr (30 * (wr ((q3.2 92 21) - 1)))) + (q3.2 106 (wr ((q3.2 92 21) - 1)).toNat))) < 240
                · rw [if_pos hc] at h
                  refine es (176, [some (.inr (.inr 92)), some (.inl q2.1), some (.inl (wr ((wr (30 * (wr ((q3.2 92 21) - 1)))) + (q3.2 106 (wr ((q3.2 92 21) - 1)).toNat))))], [], (gset q4.2 108 ((wr ((wr (30 * (wr ((q3.2 92 21) - 1)))) + (q3.2 106 (wr ((q3.2 92 21) - 1)).toNat))).toNat) (wr (q4.1 - 65)))) (if_pos hc) ?_
                  refine ev_runs 8 (176, [some (.inr (.inr 92)), some (.inl q2.1), some (.inl (wr ((wr (30 * (wr ((q3.2 92 21) - 1)))) + (q3.2 106 (wr ((q3.2 92 21) - 1)).toNat))))], [], (gset q4.2 108 ((wr ((wr (30 * (wr ((q3.2 92 21) - 1)))) + (q3.2 106 (wr ((q3.2 92 21) - 1)).toNat))).toNat) (wr (q4.1 - 65)))) (188, [some (.inr (.inr 92)), some (.inl q2.1), some (.inl (wr ((wr (30 * (wr ((q3.2 92 21) - 1)))) + (q3.2 106 (wr ((q3.2 92 21) - 1)).toNat))))], [.inl 1, .inr (.inr 92)], (gset (gset q4.2 108 ((wr ((wr (30 * (wr ((q3.2 92 21) - 1)))) + (q3.2 106 (wr ((q3.2 92 21) - 1)).toNat))).toNat) (wr (q4.1 - 65))) 92 8 (wr ((q4.2 92 8) + 1)))) rfl ?_
                  obtain ⟨q5, hq, h⟩ := Option.bind_eq_some_iff.mp h
                  refine ec 36 191 [.inr (.inr 92), .inl 1] [] rfl (ev_Md_here 1 (gset (gset q4.2 108 ((wr ((wr (30 * (wr ((q3.2 92 21) - 1)))) + (q3.2 106 (wr ((q3.2 92 21) - 1)).toNat))).toNat) (wr (q4.1 - 65))) 92 8 (wr ((q4.2 92 8) + 1))) q5.1 q5.2 hq) ?_
                  show Ev 44 191 [some (.inr (.inr 92)), some (.inl q2.1), some (.inl (wr ((wr (30 * (wr ((q3.2 92 21) - 1)))) + (q3.2 106 (wr ((q3.2 92 21) - 1)).toNat))))] [.inl q5.1] q5.2 _ _
                  refine ev_runs 3 (191, [some (.inr (.inr 92)), some (.inl q2.1), some (.inl (wr ((wr (30 * (wr ((q3.2 92 21) - 1)))) + (q3.2 106 (wr ((q3.2 92 21) - 1)).toNat))))], [.inl q5.1], q5.2) (198, [some (.inr (.inr 92)), some (.inl q2.1), some (.inl (wr ((wr (30 * (wr ((q3.2 92 21) - 1)))) + (q3.2 106 (wr ((q3.2 92 21) - 1)).toNat))))], [.inr (.inl 122), .inr (.inl 97), .inr (.inl q5.1)], q5.2) rfl ?_
                  refine ec 4 201 [.inr (.inl q5.1), .inr (.inl 97), .inr (.inl 122)] [] rfl (ev_Md_in q5.1 97 122 q5.2 _ rfl) ?_
                  show Ev 44 201 [some (.inr (.inr 92)), some (.inl q2.1), some (.inl (wr ((wr (30 * (wr ((q3.2 92 21) - 1)))) + (q3.2 106 (wr ((q3.2 92 21) - 1)).toNat))))] [.inl (Md_in q5.1 97 122)] q5.2 _ _
                  by_cases hc : ¬ (Md_in q5.1 97 122) = 0
                  · rw [if_pos hc] at h
                    refine es (209, [some (.inr (.inr 92)), some (.inl q2.1), some (.inl (wr ((wr (30 * (wr ((q3.2 92 21) - 1)))) + (q3.2 106 (wr ((q3.2 92 21) - 1)).toNat))))], [], q5.2) (congrArg some (if_pos hc)) ?_
                    refine ev_runs 5 (209, [some (.inr (.inr 92)), some (.inl q2.1), some (.inl (wr ((wr (30 * (wr ((q3.2 92 21) - 1)))) + (q3.2 106 (wr ((q3.2 92 21) - 1)).toNat))))], [], q5.2) (216, [some (.inr (.inr 92)), some (.inl q2.1), some (.inl (wr ((wr (30 * (wr ((q3.2 92 21) - 1)))) + (q3.2 106 (wr ((q3.2 92 21) - 1)).toNat))))], [.inl 1, .inr (.inr 92), .inl (wr ((wr (30 * (wr ((q3.2 92 21) - 1)))) + (q3.2 106 (wr ((q3.2 92 21) - 1)).toNat))), .inr (.inr 109)], q5.2) rfl ?_
                    obtain ⟨q6, hq, h⟩ := Option.bind_eq_some_iff.mp h
                    refine ec 36 219 [.inr (.inr 92), .inl 1] [.inl (wr ((wr (30 * (wr ((q3.2 92 21) - 1)))) + (q3.2 106 (wr ((q3.2 92 21) - 1)).toNat))), .inr (.inr 109)] rfl (ev_Md_here 1 q5.2 q6.1 q6.2 hq) ?_
                    show Ev 44 219 [some (.inr (.inr 92)), some (.inl q2.1), some (.inl (wr ((wr (30 * (wr ((q3.2 92 21) - 1)))) + (q3.2 106 (wr ((q3.2 92 21) - 1)).toNat))))] [.inl q6.1, .inl (wr ((wr (30 * (wr ((q3.2 92 21) - 1)))) + (q3.2 106 (wr ((q3.2 92 21) - 1)).toNat))), .inr (.inr 109)] q6.2 _ _
                    refine ev_runs 2 (219, [some (.inr (.inr 92)), some (.inl q2.1), some (.inl (wr ((wr (30 * (wr ((q3.2 92 21) - 1)))) + (q3.2 106 (wr ((q3.2 92 21) - 1)).toNat))))], [.inl q6.1, .inl (wr ((wr (30 * (wr ((q3.2 92 21) - 1)))) + (q3.2 106 (wr ((q3.2 92 21) - 1)).toNat))), .inr (.inr 109)], q6.2) (222, [some (.inr (.inr 92)), some (.inl q2.1), some (.inl (wr ((wr (30 * (wr ((q3.2 92 21) - 1)))) + (q3.2 106 (wr ((q3.2 92 21) - 1)).toNat))))], [.inl (wr (q6.1 - 97)), .inl (wr ((wr (30 * (wr ((q3.2 92 21) - 1)))) + (q3.2 106 (wr ((q3.2 92 21) - 1)).toNat))), .inr (.inr 109)], q6.2) rfl ?_
                    by_cases hc : 0 ≤ (wr ((wr (30 * (wr ((q3.2 92 21) - 1)))) + (q3.2 106 (wr ((q3.2 92 21) - 1)).toNat))) ∧ (wr ((wr (30 * (wr ((q3.2 92 21) - 1)))) + (q3.2 106 (wr ((q3.2 92 21) - 1)).toNat))) < 240
                    · rw [if_pos hc] at h
                      refine es (223, [some (.inr (.inr 92)), some (.inl q2.1), some (.inl (wr ((wr (30 * (wr ((q3.2 92 21) - 1)))) + (q3.2 106 (wr ((q3.2 92 21) - 1)).toNat))))], [], (gset q6.2 109 ((wr ((wr (30 * (wr ((q3.2 92 21) - 1)))) + (q3.2 106 (wr ((q3.2 92 21) - 1)).toNat))).toNat) (wr (q6.1 - 97)))) (if_pos hc) ?_
                      refine ev_runs 7 (223, [some (.inr (.inr 92)), some (.inl q2.1), some (.inl (wr ((wr (30 * (wr ((q3.2 92 21) - 1)))) + (q3.2 106 (wr ((q3.2 92 21) - 1)).toNat))))], [], (gset q6.2 109 ((wr ((wr (30 * (wr ((q3.2 92 21) - 1)))) + (q3.2 106 (wr ((q3.2 92 21) - 1)).toNat))).toNat) (wr (q6.1 - 97)))) (234, [some (.inr (.inr 92)), some (.inl q2.1), some (.inl (wr ((wr (30 * (wr ((q3.2 92 21) - 1)))) + (q3.2 106 (wr ((q3.2 92 21) - 1)).toNat))))], [.inl (wr ((q6.2 92 21) - 1)), .inr (.inr 106), .inl (wr ((q6.2 92 21) - 1)), .inr (.inr 106)], (gset q6.2 109 ((wr ((wr (30 * (wr ((q3.2 92 21) - 1)))) + (q3.2 106 (wr ((q3.2 92 21) - 1)).toNat))).toNat) (wr (q6.1 - 97)))) rfl ?_
                      by_cases hc : 0 ≤ (wr ((q6.2 92 21) - 1)) ∧ (wr ((q6.2 92 21) - 1)) < 8
                      · rw [if_pos hc] at h
                        refine es (235, [some (.inr (.inr 92)), some (.inl q2.1), some (.inl (wr ((wr (30 * (wr ((q3.2 92 21) - 1)))) + (q3.2 106 (wr ((q3.2 92 21) - 1)).toNat))))], [.inl (q6.2 106 (wr ((q6.2 92 21) - 1)).toNat), .inl (wr ((q6.2 92 21) - 1)), .inr (.inr 106)], (gset q6.2 109 ((wr ((wr (30 * (wr ((q3.2 92 21) - 1)))) + (q3.2 106 (wr ((q3.2 92 21) - 1)).toNat))).toNat) (wr (q6.1 - 97)))) (if_pos hc) ?_
                        refine ev_runs 2 (235, [some (.inr (.inr 92)), some (.inl q2.1), some (.inl (wr ((wr (30 * (wr ((q3.2 92 21) - 1)))) + (q3.2 106 (wr ((q3.2 92 21) - 1)).toNat))))], [.inl (q6.2 106 (wr ((q6.2 92 21) - 1)).toNat), .inl (wr ((q6.2 92 21) - 1)), .inr (.inr 106)], (gset q6.2 109 ((wr ((wr (30 * (wr ((q3.2 92 21) - 1)))) + (q3.2 106 (wr ((q3.2 92 21) - 1)).toNat))).toNat) (wr (q6.1 - 97)))) (237, [some (.inr (.inr 92)), some (.inl q2.1), some (.inl (wr ((wr (30 * (wr ((q3.2 92 21) - 1)))) + (q3.2 106 (wr ((q3.2 92 21) - 1)).toNat))))], [.inl (wr ((q6.2 106 (wr ((q6.2 92 21) - 1)).toNat) + 1)), .inl (wr ((q6.2 92 21) - 1)), .inr (.inr 106)], (gset q6.2 109 ((wr ((wr (30 * (wr ((q3.2 92 21) - 1)))) + (q3.2 106 (wr ((q3.2 92 21) - 1)).toNat))).toNat) (wr (q6.1 - 97)))) rfl ?_
                        by_cases hc : 0 ≤ (wr ((q6.2 92 21) - 1)) ∧ (wr ((q6.2 92 21) - 1)) < 8
                        · rw [if_pos hc] at h
                          refine es (238, [some (.inr (.inr 92)), some (.inl q2.1), some (.inl (wr ((wr (30 * (wr ((q3.2 92 21) - 1)))) + (q3.2 106 (wr ((q3.2 92 21) - 1)).toNat))))], [], (gset (gset q6.2 109 ((wr ((wr (30 * (wr ((q3.2 92 21) - 1)))) + (q3.2 106 (wr ((q3.2 92 21) - 1)).toNat))).toNat) (wr (q6.1 - 97))) 106 ((wr ((q6.2 92 21) - 1)).toNat) (wr ((q6.2 106 (wr ((q6.2 92 21) - 1)).toNat) + 1)))) (if_pos hc) ?_
                          refine ev_runs 7 (238, [some (.inr (.inr 92)), some (.inl q2.1), some (.inl (wr ((wr (30 * (wr ((q3.2 92 21) - 1)))) + (q3.2 106 (wr ((q3.2 92 21) - 1)).toNat))))], [], (gset (gset q6.2 109 ((wr ((wr (30 * (wr ((q3.2 92 21) - 1)))) + (q3.2 106 (wr ((q3.2 92 21) - 1)).toNat))).toNat) (wr (q6.1 - 97))) 106 ((wr ((q6.2 92 21) - 1)).toNat) (wr ((q6.2 106 (wr ((q6.2 92 21) - 1)).toNat) + 1)))) (17, [some (.inr (.inr 92)), some (.inl q2.1), some (.inl (wr ((wr (30 * (wr ((q3.2 92 21) - 1)))) + (q3.2 106 (wr ((q3.2 92 21) - 1)).toNat))))], [], (gset (gset (gset q6.2 109 ((wr ((wr (30 * (wr ((q3.2 92 21) - 1)))) + (q3.2 106 (wr ((q3.2 92 21) - 1)).toNat))).toNat) (wr (q6.1 - 97))) 106 ((wr ((q6.2 92 21) - 1)).toNat) (wr ((q6.2 106 (wr ((q6.2 92 21) - 1)).toNat) + 1))) 92 8 (wr ((q6.2 92 8) + 1)))) rfl ?_
                          exact ev_le (L := [some (.inr (.inr 92)), none, none]) (by simp [Lle]) (ih17 (gset (gset (gset q6.2 109 ((wr ((wr (30 * (wr ((q3.2 92 21) - 1)))) + (q3.2 106 (wr ((q3.2 92 21) - 1)).toNat))).toNat) (wr (q6.1 - 97))) 106 ((wr ((q6.2 92 21) - 1)).toNat) (wr ((q6.2 106 (wr ((q6.2 92 21) - 1)).toNat) + 1))) 92 8 (wr ((q6.2 92 8) + 1))) r g' h)
                        · rw [if_neg hc] at h; cases h
                      · rw [if_neg hc] at h; cases h
                    · rw [if_neg hc] at h; cases h
                  · rw [if_neg hc] at h
                    refine es (204, [some (.inr (.inr 92)), some (.inl q2.1), some (.inl (wr ((wr (30 * (wr ((q3.2 92 21) - 1)))) + (q3.2 106 (wr ((q3.2 92 21) - 1)).toNat))))], [], q5.2) (congrArg some (if_neg hc)) ?_
                    refine ev_runs 2 (204, [some (.inr (.inr 92)), some (.inl q2.1), some (.inl (wr ((wr (30 * (wr ((q3.2 92 21) - 1)))) + (q3.2 106 (wr ((q3.2 92 21) - 1)).toNat))))], [], q5.2) (208, [some (.inr (.inr 92)), some (.inl q2.1), some (.inl (wr ((wr (30 * (wr ((q3.2 92 21) - 1)))) + (q3.2 106 (wr ((q3.2 92 21) - 1)).toNat))))], [.inl (q5.2 92 8)], q5.2) rfl ?_
                    cases h
                    exact er rfl
                · rw [if_neg hc] at h; cases h
              · rw [if_neg hc] at h; cases h
            · rw [if_neg hc] at h; cases h
          · rw [if_neg hc] at h
            refine es (128, [some (.inr (.inr 92)), some (.inl q2.1), none], [], q3.2) (congrArg some (if_neg hc)) ?_
            refine ev_runs 2 (128, [some (.inr (.inr 92)), some (.inl q2.1), none], [], q3.2) (132, [some (.inr (.inr 92)), some (.inl q2.1), none], [.inl (q3.2 92 8)], q3.2) rfl ?_
            cases h
            exact er rfl
        · rw [if_neg hc] at h
          refine es (99, [some (.inr (.inr 92)), some (.inl q2.1), none], [], q2.2) (congrArg some (if_neg hc)) ?_
          refine ev_runs 2 (99, [some (.inr (.inr 92)), some (.inl q2.1), none], [], q2.2) (102, [some (.inr (.inr 92)), some (.inl q2.1), none], [.inl 63, .inl q2.1], q2.2) rfl ?_
          by_cases hc : q2.1 = 63
          · rw [if_pos hc] at h
            refine es (110, [some (.inr (.inr 92)), some (.inl q2.1), none], [], q2.2) (congrArg some (if_pos hc)) ?_
            refine ev_runs 8 (110, [some (.inr (.inr 92)), some (.inl q2.1), none], [], q2.2) (122, [some (.inr (.inr 92)), some (.inl q2.1), none], [.inl 1, .inr (.inr 92)], (gset q2.2 92 8 (wr ((q2.2 92 8) + 1)))) rfl ?_
            obtain ⟨q7, hq, h⟩ := Option.bind_eq_some_iff.mp h
            refine ec 39 125 [.inr (.inr 92), .inl 1] [] rfl (ev_Md_isTalker 1 (gset q2.2 92 8 (wr ((q2.2 92 8) + 1))) q7.1 q7.2 hq) ?_
            show Ev 44 125 [some (.inr (.inr 92)), some (.inl q2.1), none] [.inl q7.1] q7.2 _ _
            by_cases hc : ¬ q7.1 = 0
            · rw [if_pos hc] at h
              refine es (133, [some (.inr (.inr 92)), some (.inl q2.1), none], [], q7.2) (congrArg some (if_pos hc)) ?_
              refine ev_runs 12 (133, [some (.inr (.inr 92)), some (.inl q2.1), none], [], q7.2) (152, [some (.inr (.inr 92)), some (.inl q2.1), none], [.inl (wr ((q7.2 92 21) - 1)), .inr (.inr 106), .inl (wr (30 * (wr ((q7.2 92 21) - 1))))], q7.2) rfl ?_
              by_cases hc : 0 ≤ (wr ((q7.2 92 21) - 1)) ∧ (wr ((q7.2 92 21) - 1)) < 8
              · rw [if_pos hc] at h
                refine es (153, [some (.inr (.inr 92)), some (.inl q2.1), none], [.inl (q7.2 106 (wr ((q7.2 92 21) - 1)).toNat), .inl (wr (30 * (wr ((q7.2 92 21) - 1))))], q7.2) (if_pos hc) ?_
                refine ev_runs 6 (153, [some (.inr (.inr 92)), some (.inl q2.1), none], [.inl (q7.2 106 (wr ((q7.2 92 21) - 1)).toNat), .inl (wr (30 * (wr ((q7.2 92 21) - 1))))], q7.2) (161, [some (.inr (.inr 92)), some (.inl q2.1), some (.inl (wr ((wr (30 * (wr ((q7.2 92 21) - 1)))) + (q7.2 106 (wr ((q7.2 92 21) - 1)).toNat))))], [.inl q2.1, .inl (wr ((wr (30 * (wr ((q7.2 92 21) - 1)))) + (q7.2 106 (wr ((q7.2 92 21) - 1)).toNat))), .inr (.inr 107)], q7.2) rfl ?_
                by_cases hc : 0 ≤ (wr ((wr (30 * (wr ((q7.2 92 21) - 1)))) + (q7.2 106 (wr ((q7.2 92 21) - 1)).toNat))) ∧ (wr ((wr (30 * (wr ((q7.2 92 21) - 1)))) + (q7.2 106 (wr ((q7.2 92 21) - 1)).toNat))) < 240
                · rw [if_pos hc] at h
                  refine es (162, [some (.inr (.inr 92)), some (.inl q2.1), some (.inl (wr ((wr (30 * (wr ((q7.2 92 21) - 1)))) + (q7.2 106 (wr ((q7.2 92 21) - 1)).toNat))))], [], (gset q7.2 107 ((wr ((wr (30 * (wr ((q7.2 92 21) - 1)))) + (q7.2 106 (wr ((q7.2 92 21) - 1)).toNat))).toNat) q2.1)) (if_pos hc) ?_
                  refine ev_runs 5 (162, [some (.inr (.inr 92)), some (.inl q2.1), some (.inl (wr ((wr (30 * (wr ((q7.2 92 21) - 1)))) + (q7.2 106 (wr ((q7.2 92 21) - 1)).toNat))))], [], (gset q7.2 107 ((wr ((wr (30 * (wr ((q7.2 92 21) - 1)))) + (q7.2 106 (wr ((q7.2 92 21) - 1)).toNat))).toNat) q2.1)) (169, [some (.inr (.inr 92)), some (.inl q2.1), some (.inl (wr ((wr (30 * (wr ((q7.2 92 21) - 1)))) + (q7.2 106 (wr ((q7.2 92 21) - 1)).toNat))))], [.inl 1, .inr (.inr 92), .inl (wr ((wr (30 * (wr ((q7.2 92 21) - 1)))) + (q7.2 106 (wr ((q7.2 92 21) - 1)).toNat))), .inr (.inr 108)], (gset q7.2 107 ((wr ((wr (30 * (wr ((q7.2 92 21) - 1)))) + (q7.2 106 (wr ((q7.2 92 21) - 1)).toNat))).toNat) q2.1)) rfl ?_
                  obtain ⟨q8, hq, h⟩ := Option.bind_eq_some_iff.mp h
                  refine ec 36 172 [.inr (.inr 92), .inl 1] [.inl (wr ((wr (30 * (wr ((q7.2 92 21) - 1)))) + (q7.2 106 (wr ((q7.2 92 21) - 1)).toNat))), .inr (.inr 108)] rfl (ev_Md_here 1 (gset q7.2 107 ((wr ((wr (30 * (wr ((q7.2 92 21) - 1)))) + (q7.2 106 (wr ((q7.2 92 21) - 1)).toNat))).toNat) q2.1) q8.1 q8.2 hq) ?_
                  show Ev 44 172 [some (.inr (.inr 92)), some (.inl q2.1), some (.inl (wr ((wr (30 * (wr ((q7.2 92 21) - 1)))) + (q7.2 106 (wr ((q7.2 92 21) - 1)).toNat))))] [.inl q8.1, .inl (wr ((wr (30 * (wr ((q7.2 92 21) - 1)))) + (q7.2 106 (wr ((q7.2 92 21) - 1)).toNat))), .inr (.inr 108)] q8.2 _ _
                  refine ev_runs 2 (172, [some (.inr (.inr 92)), some (.inl q2.1), some (.inl (wr ((wr (30 * (wr ((q7.2 92 21) - 1)))) + (q7.2 106 (wr ((q7.2 92 21) - 1)).toNat))))], [.inl q8.1, .inl (wr ((wr (30 * (wr ((q7.2 92 21) - 1)))) + (q7.2 106 (wr ((q7.2 92 21) - 1)).toNat))), .inr (.inr 108)], q8.2) (175, [some (.inr (.inr 92)), some (.inl q2.1), some (.inl (wr ((wr (30 * (wr ((q7.2 92 21) - 1)))) + (q7.2 106 (wr ((q7.2 92 21) - 1)).toNat))))], [.inl (wr (q8.1 - 65)), .inl (wr ((wr (30 * (wr ((q7.2 92 21) - 1)))) + (q7.2 106 (wr ((q7.2 92 21) - 1)).toNat))), .inr (.inr 108)], q8.2) rfl ?_
                  by_cases hc : 0 ≤ (wr ((wr (30 * (wr ((q7.2 92 21) - 1)))) + (q7.2 106 (wr ((q7.2 92 21) - 1)).toNat))) ∧ (wr ((wr (30 * (wr ((q7.2 92 21) - 1)))) + (q7.2 106 (wr ((q7.2 92 21) - 1)).toNat))) < 240
                  · rw [if_pos hc] at h
                    refine es (176, [some (.inr (.inr 92)), some (.inl q2.1), some (.inl (wr ((wr (30 * (wr ((q7.2 92 21) - 1)))) + (q7.2 106 (wr ((q7.2 92 21) - 1)).toNat))))], [], (gset q8.2 108 ((wr ((wr (30 * (wr ((q7.2 92 21) - 1)))) + (q7.2 106 (wr ((q7.2 92 21) - 1)).toNat))).toNat) (wr (q8.1 - 65)))) (if_pos hc) ?_
                    refine ev_runs 8 (176, [some (.inr (.inr 92)), some (.inl q2.1), some (.inl (wr ((wr (30 * (wr ((q7.2 92 21) - 1)))) + (q7.2 106 (wr ((q7.2 92 21) - 1)).toNat))))], [], (gset q8.2 108 ((wr ((wr (30 * (wr ((q7.2 92 21) - 1)))) + (q7.2 106 (wr ((q7.2 92 21) - 1)).toNat))).toNat) (wr (q8.1 - 65)))) (188, [some (.inr (.inr 92)), some (.inl q2.1), some (.inl (wr ((wr (30 * (wr ((q7.2 92 21) - 1)))) + (q7.2 106 (wr ((q7.2 92 21) - 1)).toNat))))], [.inl 1, .inr (.inr 92)], (gset (gset q8.2 108 ((wr ((wr (30 * (wr ((q7.2 92 21) - 1)))) + (q7.2 106 (wr ((q7.2 92 21) - 1)).toNat))).toNat) (wr (q8.1 - 65))) 92 8 (wr ((q8.2 92 8) + 1)))) rfl ?_
                    obtain ⟨q9, hq, h⟩ := Option.bind_eq_some_iff.mp h
                    refine ec 36 191 [.inr (.inr 92), .inl 1] [] rfl (ev_Md_here 1 (gset (gset q8.2 108 ((wr ((wr (30 * (wr ((q7.2 92 21) - 1)))) + (q7.2 106 (wr ((q7.2 92 21) - 1)).toNat))).toNat) (wr (q8.1 - 65))) 92 8 (wr ((q8.2 92 8) + 1))) q9.1 q9.2 hq) ?_
                    show Ev 44 191 [some (.inr (.inr 92)), some (.inl q2.1), some (.inl (wr ((wr (30 * (wr ((q7.2 92 21) - 1)))) + (q7.2 106 (wr ((q7.2 92 21) - 1)).toNat))))] [.inl q9.1] q9.2 _ _
                    refine ev_runs 3 (191, [some (.inr (.inr 92)), some (.inl q2.1), some (.inl (wr ((wr (30 * (wr ((q7.2 92 21) - 1)))) + (q7.2 106 (wr ((q7.2 92 21) - 1)).toNat))))], [.inl q9.1], q9.2) (198, [some (.inr (.inr 92)), some (.inl q2.1), some (.inl (wr ((wr (30 * (wr ((q7.2 92 21) - 1)))) + (q7.2 106 (wr ((q7.2 92 21) - 1)).toNat))))], [.inr (.inl 122), .inr (.inl 97), .inr (.inl q9.1)], q9.2) rfl ?_
                    refine ec 4 201 [.inr (.inl q9.1), .inr (.inl 97), .inr (.inl 122)] [] rfl (ev_Md_in q9.1 97 122 q9.2 _ rfl) ?_
                    show Ev 44 201 [some (.inr (.inr 92)), some (.inl q2.1), some (.inl (wr ((wr (30 * (wr ((q7.2 92 21) - 1)))) + (q7.2 106 (wr ((q7.2 92 21) - 1)).toNat))))] [.inl (Md_in q9.1 97 122)] q9.2 _ _
                    by_cases hc : ¬ (Md_in q9.1 97 122) = 0
                    · rw [if_pos hc] at h
                      refine es (209, [some (.inr (.inr 92)), some (.inl q2.1), some (.inl (wr ((wr (30 * (wr ((q7.2 92 21) - 1)))) + (q7.2 106 (wr ((q7.2 92 21) - 1)).toNat))))], [], q9.2) (congrArg some (if_pos hc)) ?_
                      refine ev_runs 5 (209, [some (.inr (.inr 92)), some (.inl q2.1), some (.inl (wr ((wr (30 * (wr ((q7.2 92 21) - 1)))) + (q7.2 106 (wr ((q7.2 92 21) - 1)).toNat))))], [], q9.2) (216, [some (.inr (.inr 92)), some (.inl q2.1), some (.inl (wr ((wr (30 * (wr ((q7.2 92 21) - 1)))) + (q7.2 106 (wr ((q7.2 92 21) - 1)).toNat))))], [.inl 1, .inr (.inr 92), .inl (wr ((wr (30 * (wr ((q7.2 92 21) - 1)))) + (q7.2 106 (wr ((q7.2 92 21) - 1)).toNat))), .inr (.inr 109)], q9.2) rfl ?_
                      obtain ⟨q10, hq, h⟩ := Option.bind_eq_some_iff.mp h
                      refine ec 36 219 [.inr (.inr 92), .inl 1] [.inl (wr ((wr (30 * (wr ((q7.2 92 21) - 1)))) + (q7.2 106 (wr ((q7.2 92 21) - 1)).toNat))), .inr (.inr 109)] rfl (ev_Md_here 1 q9.2 q10.1 q10.2 hq) ?_
                      show Ev 44 219 [some (.inr (.inr 92)), some (.inl q2.1), some (.inl (wr ((wr (30 * (wr ((q7.2 92 21) - 1)))) + (q7.2 106 (wr ((q7.2 92 21) - 1)).toNat))))] [.inl q10.1, .inl (wr ((wr (30 * (wr ((q7.2 92 21) - 1)))) + (q7.2 106 (wr ((q7.2 92 21) - 1)).toNat))), .inr (.inr 109)] q10.2 _ _
                      refine ev_runs 2 (219, [some (.inr (.inr 92)), some (.inl q2.1), some (.inl (wr ((wr (30 * (wr ((q7.2 92 21) - 1)))) + (q7.2 106 (wr ((q7.2 92 21) - 1)).toNat))))], [.inl q10.1, .inl (wr ((wr (30 * (wr ((q7.2 92 21) - 1)))) + (q7.2 106 (wr ((q7.2 92 21) - 1)).toNat))), .inr (.inr 109)], q10.2) (222, [some (.inr (.inr 92)), some (.inl q2.1), some (.inl (wr ((wr (30 * (wr ((q7.2 92 21) - 1)))) + (q7.2 106 (wr ((q7.2 92 21) - 1)).toNat))))], [.inl (wr (q10.1 - 97)), .inl (wr ((wr (30 * (wr ((q7.2 92 21) - 1)))) + (q7.2 106 (wr ((q7.2 92 21) - 1)).toNat))), .inr (.inr 109)], q10.2) rfl ?_
                      by_cases hc : 0 ≤ (wr ((wr (30 * (wr ((q7.2 92 21) - 1)))) + (q7.2 106 (wr ((q7.2 92 21) - 1)).toNat))) ∧ (wr ((wr (30 * (wr ((q7.2 92 21) - 1)))) + (q7.2 106 (wr ((q7.2 92 21) - 1)).toNat))) < 240
                      · rw [if_pos hc] at h
                        refine es (223, [some (.inr (.inr 92)), some (.inl q2.1), some (.inl (wr ((wr (30 * (wr ((q7.2 92 21) - 1)))) + (q7.2 106 (wr ((q7.2 92 21) - 1)).toNat))))], [], (gset q10.2 109 ((wr ((wr (30 * (wr ((q7.2 92 21) - 1)))) + (q7.2 106 (wr ((q7.2 92 21) - 1)).toNat))).toNat) (wr (q10.1 - 97)))) (if_pos hc) ?_
                        refine ev_runs 7 (223, [some (.inr (.inr 92)), some (.inl q2.1), some (.inl (wr ((wr (30 * (wr ((q7.2 92 21) - 1)))) + (q7.2 106 (wr ((q7.2 92 21) - 1)).toNat))))], [], (gset q10.2 109 ((wr ((wr (30 * (wr ((q7.2 92 21) - 1)))) + (q7.2 106 (wr ((q7.2 92 21) - 1)).toNat))).toNat) (wr (q10.1 - 97)))) (234, [some (.inr (.inr 92)), some (.inl q2.1), some (.inl (wr ((wr (30 * (wr ((q7.2 92 21) - 1)))) + (q7.2 106 (wr ((q7.2 92 21) - 1)).toNat))))], [.inl (wr ((q10.2 92 21) - 1)), .inr (.inr 106), .inl (wr ((q10.2 92 21) - 1)), .inr (.inr 106)], (gset q10.2 109 ((wr ((wr (30 * (wr ((q7.2 92 21) - 1)))) + (q7.2 106 (wr ((q7.2 92 21) - 1)).toNat))).toNat) (wr (q10.1 - 97)))) rfl ?_
                        by_cases hc : 0 ≤ (wr ((q10.2 92 21) - 1)) ∧ (wr ((q10.2 92 21) - 1)) < 8
                        · rw [if_pos hc] at h
                          refine es (235, [some (.inr (.inr 92)), some (.inl q2.1), some (.inl (wr ((wr (30 * (wr ((q7.2 92 21) - 1)))) + (q7.2 106 (wr ((q7.2 92 21) - 1)).toNat))))], [.inl (q10.2 106 (wr ((q10.2 92 21) - 1)).toNat), .inl (wr ((q10.2 92 21) - 1)), .inr (.inr 106)], (gset q10.2 109 ((wr ((wr (30 * (wr ((q7.2 92 21) - 1)))) + (q7.2 106 (wr ((q7.2 92 21) - 1)).toNat))).toNat) (wr (q10.1 - 97)))) (if_pos hc) ?_
                          refine ev_runs 2 (235, [some (.inr (.inr 92)), some (.inl q2.1), some (.inl (wr ((wr (30 * (wr ((q7.2 92 21) - 1)))) + (q7.2 106 (wr ((q7.2 92 21) - 1)).toNat))))], [.inl (q10.2 106 (wr ((q10.2 92 21) - 1)).toNat), .inl (wr ((q10.2 92 21) - 1)), .inr (.inr 106)], (gset q10.2 109 ((wr ((wr (30 * (wr ((q7.2 92 21) - 1)))) + (q7.2 106 (wr ((q7.2 92 21) - 1)).toNat))).toNat) (wr (q10.1 - 97)))) (237, [some (.inr (.inr 92)), some (.inl q2.1), some (.inl (wr ((wr (30 * (wr ((q7.2 92 21) - 1)))) + (q7.2 106 (wr ((q7.2 92 21) - 1)).toNat))))], [.inl (wr ((q10.2 106 (wr ((q10.2 92 21) - 1)).toNat) + 1)), .inl (wr ((q10.2 92 21) - 1)), .inr (.inr 106)], (gset q10.2 109 ((wr ((wr (30 * (wr ((q7.2 92 21) - 1)))) + (q7.2 106 (wr ((q7.2 92 21) - 1)).toNat))).toNat) (wr (q10.1 - 97)))) rfl ?_
                          by_cases hc : 0 ≤ (wr ((q10.2 92 21) - 1)) ∧ (wr ((q10.2 92 21) - 1)) < 8
                          · rw [if_pos hc] at h
                            refine es (238, [some (.inr (.inr 92)), some (.inl q2.1), some (.inl (wr ((wr (30 * (wr ((q7.2 92 21) - 1)))) + (q7.2 106 (wr ((q7.2 92 21) - 1)).toNat))))], [], (gset (gset q10.2 109 ((wr ((wr (30 * (wr ((q7.2 92 21) - 1)))) + (q7.2 106 (wr ((q7.2 92 21) - 1)).toNat))).toNat) (wr (q10.1 - 97))) 106 ((wr ((q10.2 92 21) - 1)).toNat) (wr ((q10.2 106 (wr ((q10.2 92 21) - 1)).toNat) + 1)))) (if_pos hc) ?_
                            refine ev_runs 7 (238, [some (.inr (.inr 92)), some (.inl q2.1), some (.inl (wr ((wr (30 * (wr ((q7.2 92 21) - 1)))) + (q7.2 106 (wr ((q7.2 92 21) - 1)).toNat))))], [], (gset (gset q10.2 109 ((wr ((wr (30 * (wr ((q7.2 92 21) - 1)))) + (q7.2 106 (wr ((q7.2 92 21) - 1)).toNat))).toNat) (wr (q10.1 - 97))) 106 ((wr ((q10.2 92 21) - 1)).toNat) (wr ((q10.2 106 (wr ((q10.2 92 21) - 1)).toNat) + 1)))) (17, [some (.inr (.inr 92)), some (.inl q2.1), some (.inl (wr ((wr (30 * (wr ((q7.2 92 21) - 1)))) + (q7.2 106 (wr ((q7.2 92 21) - 1)).toNat))))], [], (gset (gset (gset q10.2 109 ((wr ((wr (30 * (wr ((q7.2 92 21) - 1)))) + (q7.2 106 (wr ((q7.2 92 21) - 1)).toNat))).toNat) (wr (q10.1 - 97))) 106 ((wr ((q10.2 92 21) - 1)).toNat) (wr ((q10.2 106 (wr ((q10.2 92 21) - 1)).toNat) + 1))) 92 8 (wr ((q10.2 92 8) + 1)))) rfl ?_
                            exact ev_le (L := [some (.inr (.inr 92)), none, none]) (by simp [Lle]) (ih17 (gset (gset (gset q10.2 109 ((wr ((wr (30 * (wr ((q7.2 92 21) - 1)))) + (q7.2 106 (wr ((q7.2 92 21) - 1)).toNat))).toNat) (wr (q10.1 - 97))) 106 ((wr ((q10.2 92 21) - 1)).toNat) (wr ((q10.2 106 (wr ((q10.2 92 21) - 1)).toNat) + 1))) 92 8 (wr ((q10.2 92 8) + 1))) r g' h)
                          · rw [if_neg hc] at h; cases h
                        · rw [if_neg hc] at h; cases h
                      · rw [if_neg hc] at h; cases h
                    · rw [if_neg hc] at h
                      refine es (204, [some (.inr (.inr 92)), some (.inl q2.1), some (.inl (wr ((wr (30 * (wr ((q7.2 92 21) - 1)))) + (q7.2 106 (wr ((q7.2 92 21) - 1)).toNat))))], [], q9.2) (congrArg some (if_neg hc)) ?_
                      refine ev_runs 2 (204, [some (.inr (.inr 92)), some (.inl q2.1), some (.inl (wr ((wr (30 * (wr ((q7.2 92 21) - 1)))) + (q7.2 106 (wr ((q7.2 92 21) - 1)).toNat))))], [], q9.2) (208, [some (.inr (.inr 92)), some (.inl q2.1), some (.inl (wr ((wr (30 * (wr ((q7.2 92 21) - 1)))) + (q7.2 106 (wr ((q7.2 92 21) - 1)).toNat))))], [.inl (q9.2 92 8)], q9.2) rfl ?_
                      cases h
                      exact er rfl
                  · rw [if_neg hc] at h; cases h
                · rw [if_neg hc] at h; cases h
              · rw [if_neg hc] at h; cases h
            · rw [if_neg hc] at h
              refine es (128, [some (.inr (.inr 92)), some (.inl q2.1), none], [], q7.2) (congrArg some (if_neg hc)) ?_
              refine ev_runs 2 (128, [some (.inr (.inr 92)), some (.inl q2.1), none], [], q7.2) (132, [some (.inr (.inr 92)), some (.inl q2.1), none], [.inl (q7.2 92 8)], q7.2) rfl ?_
              cases h
              exact er rfl
          · rw [if_neg hc] at h
            refine es (105, [some (.inr (.inr 92)), some (.inl q2.1), none], [], q2.2) (congrArg some (if_neg hc)) ?_
            refine ev_runs 2 (105, [some (.inr (.inr 92)), some (.inl q2.1), none], [], q2.2) (109, [some (.inr (.inr 92)), some (.inl q2.1), none], [.inl (q2.2 92 8)], q2.2) rfl ?_
            cases h
            exact er rfl
      · rw [if_neg hc] at h
        refine es (40, [some (.inr (.inr 92)), none, none], [], q1.2) (congrArg some (if_neg hc)) ?_
        refine ev_runs 3 (40, [some (.inr (.inr 92)), none, none], [], q1.2) (46, [some (.inr (.inr 92)), none, none], [.inl 8, .inl (q1.2 92 21)], q1.2) rfl ?_
        by_cases hc : ¬ (q1.2 92 21) = 8
        · rw [if_pos hc] at h
          refine es (54, [some (.inr (.inr 92)), none, none], [], q1.2) (congrArg some (if_pos hc)) ?_
          refine ev_runs 5 (54, [some (.inr (.inr 92)), none, none], [], q1.2) (63, [some (.inr (.inr 92)), none, none], [.inl 0, .inl (q1.2 92 21), .inr (.inr 106)], q1.2) rfl ?_
          by_cases hc : 0 ≤ (q1.2 92 21) ∧ (q1.2 92 21) < 8
          · rw [if_pos hc] at h
            refine es (64, [some (.inr (.inr 92)), none, none], [], (gset q1.2 106 ((q1.2 92 21).toNat) 0)) (if_pos hc) ?_
            refine ev_runs 13 (64, [some (.inr (.inr 92)), none, none], [], (gset q1.2 106 ((q1.2 92 21).toNat) 0)) (17, [some (.inr (.inr 92)), none, none], [], (gset (gset (gset q1.2 106 ((q1.2 92 21).toNat) 0) 92 21 (wr ((q1.2 92 21) + 1))) 92 8 (wr ((q1.2 92 8) + 1)))) rfl ?_
            exact ev_le (L := [some (.inr (.inr 92)), none, none]) (by simp [Lle]) (ih17 (gset (gset (gset q1.2 106 ((q1.2 92 21).toNat) 0) 92 21 (wr ((q1.2 92 21) + 1))) 92 8 (wr ((q1.2 92 8) + 1))) r g' h)
          · rw [if_neg hc] at h; cases h
        · rw [if_neg hc] at h
          refine es (49, [some (.inr (.inr 92)), none, none], [], q1.2) (congrArg some (if_neg hc)) ?_
          refine ev_runs 2 (49, [some (.inr (.inr 92)), none, none], [], q1.2) (53, [some (.inr (.inr 92)), none, none], [.inl (q1.2 92 8)], q1.2) rfl ?_
          cases h
          exact er rfl
set_option maxRecDepth 100000 in
set_option maxHeartbeats 4000000 in
theorem ev_Md_readsProgram (g : Gx) (r : Int) (g' : Gx) (h : Md_readsProgram g = some (r, g')) : Ev 44 0 [some (.inr (.inr 92)), none, none] [] g (some (.inl r)) g' := by
  rw [Md_readsProgram] at h
  refine ev_runs 11 (0, [some (.inr (.inr 92)), none, none], [], g) (17, [some (.inr (.inr 92)), none, none], [], (gset (gset (gset g 92 8 0) 92 21 1) 106 0 0)) rfl ?_
  refine ev_le (L := [some (.inr (.inr 92)), none, none]) (by simp [Lle]) ?_
  refine ev_Md_readsProgram_l17 _ ?_ fu (gset (gset (gset g 92 8 0) 92 21 1) 106 0 0) r g' h
  · intro g11 r g' h
    refine ev_runs 1 (251, [none, none, none], [], g11) (252, [none, none, none], [.inl (-1)], g11) rfl ?_
    cases h
    exact er rfl
def Md_fault (a1 : Int) (g : Gx) : Option (Int × Gx) :=
  if (Md_in a1 0 1) = 0 then
    some ((-2), g)
  else
    if ¬ a1 = 0 then
      Option.bind (Md_readsProgram g) (fun q1 =>
      some (q1.1, q1.2))
    else
      Option.bind (Md_reads g) (fun q2 =>
      some (q2.1, q2.2))
set_option maxRecDepth 100000 in
set_option maxHeartbeats 4000000 in
theorem ev_Md_fault (a1 : Int) (g : Gx) (r : Int) (g' : Gx) (h : Md_fault a1 g = some (r, g')) : Ev 45 0 [some (.inr (.inr 92)), some (.inl a1)] [] g (some (.inl r)) g' := by
  rw [Md_fault] at h
  refine ev_runs 4 (0, [some (.inr (.inr 92)), some (.inl a1)], [], g) (4, [some (.inr (.inr 92)), some (.inl a1)], [.inr (.inl 1), .inr (.inl 0), .inr (.inl a1)], g) rfl ?_
  refine ec 4 7 [.inr (.inl a1), .inr (.inl 0), .inr (.inl 1)] [] rfl (ev_Md_in a1 0 1 g _ rfl) ?_
  show Ev 45 7 [some (.inr (.inr 92)), some (.inl a1)] [.inl (Md_in a1 0 1)] g _ _
  by_cases hc : (Md_in a1 0 1) = 0
  · rw [if_pos hc] at h
    refine es (28, [some (.inr (.inr 92)), some (.inl a1)], [], g) (congrArg some (if_pos hc)) ?_
    refine ev_runs 1 (28, [some (.inr (.inr 92)), some (.inl a1)], [], g) (30, [some (.inr (.inr 92)), some (.inl a1)], [.inl (-2)], g) rfl ?_
    cases h
    exact er rfl
  · rw [if_neg hc] at h
    refine es (10, [some (.inr (.inr 92)), some (.inl a1)], [], g) (congrArg some (if_neg hc)) ?_
    refine ev_runs 1 (10, [some (.inr (.inr 92)), some (.inl a1)], [], g) (11, [some (.inr (.inr 92)), some (.inl a1)], [.inl a1], g) rfl ?_
    by_cases hc : ¬ a1 = 0
    · rw [if_pos hc] at h
      refine es (21, [some (.inr (.inr 92)), some (.inl a1)], [], g) (congrArg some (if_pos hc)) ?_
      refine ev_runs 1 (21, [some (.inr (.inr 92)), some (.inl a1)], [], g) (22, [some (.inr (.inr 92)), some (.inl a1)], [.inr (.inr 92)], g) rfl ?_
      obtain ⟨q1, hq, h⟩ := Option.bind_eq_some_iff.mp h
      refine ec 44 25 [.inr (.inr 92)] [] rfl (ev_Md_readsProgram g q1.1 q1.2 hq) ?_
      show Ev 45 25 [some (.inr (.inr 92)), some (.inl a1)] [.inl q1.1] q1.2 _ _
      refine ev_runs 1 (25, [some (.inr (.inr 92)), some (.inl a1)], [.inl q1.1], q1.2) (30, [some (.inr (.inr 92)), some (.inl a1)], [.inl q1.1], q1.2) rfl ?_
      cases h
      exact er rfl
    · rw [if_neg hc] at h
      refine es (14, [some (.inr (.inr 92)), some (.inl a1)], [], g) (congrArg some (if_neg hc)) ?_
      refine ev_runs 1 (14, [some (.inr (.inr 92)), some (.inl a1)], [], g) (15, [some (.inr (.inr 92)), some (.inl a1)], [.inr (.inr 92)], g) rfl ?_
      obtain ⟨q2, hq, h⟩ := Option.bind_eq_some_iff.mp h
      refine ec 43 18 [.inr (.inr 92)] [] rfl (ev_Md_reads g q2.1 q2.2 hq) ?_
      show Ev 45 18 [some (.inr (.inr 92)), some (.inl a1)] [.inl q2.1] q2.2 _ _
      refine ev_runs 1 (18, [some (.inr (.inr 92)), some (.inl a1)], [.inl q2.1], q2.2) (30, [some (.inr (.inr 92)), some (.inl a1)], [.inl q2.1], q2.2) rfl ?_
      cases h
      exact er rfl
def St_choices (g : Gx) : Int :=
  (g 7 11)
set_option maxRecDepth 100000 in
set_option maxHeartbeats 4000000 in
theorem ev_St_choices (g : Gx) (r : Int) (h : St_choices g = r) : Ev 46 0 [some (.inr (.inr 7))] [] g (some (.inl r)) g := by
  rw [St_choices] at h
  refine ev_runs 2 (0, [some (.inr (.inr 7))], [], g) (4, [some (.inr (.inr 7))], [.inl (g 7 11)], g) rfl ?_
  subst h
  exact er rfl
def Pr_used (g : Gx) : Int :=
  (g 28 7)
set_option maxRecDepth 100000 in
set_option maxHeartbeats 4000000 in
theorem ev_Pr_used (g : Gx) (r : Int) (h : Pr_used g = r) : Ev 47 0 [some (.inr (.inr 28))] [] g (some (.inl r)) g := by
  rw [Pr_used] at h
  refine ev_runs 2 (0, [some (.inr (.inr 28))], [], g) (4, [some (.inr (.inr 28))], [.inl (g 28 7)], g) rfl ?_
  subst h
  exact er rfl
def Pr_sayings (g : Gx) : Int :=
  (g 28 8)
set_option maxRecDepth 100000 in
set_option maxHeartbeats 4000000 in
theorem ev_Pr_sayings (g : Gx) (r : Int) (h : Pr_sayings g = r) : Ev 48 0 [some (.inr (.inr 28))] [] g (some (.inl r)) g := by
  rw [Pr_sayings] at h
  refine ev_runs 2 (0, [some (.inr (.inr 28))], [], g) (4, [some (.inr (.inr 28))], [.inl (g 28 8)], g) rfl ?_
  subst h
  exact er rfl
def Op_plan (a1 : Int) (g : Gx) : Option (Int × Gx) :=
  if a1 < 0 then
    some ((-2), g)
  else
    if a1 ≤ 2 then
      Option.bind (Pr_firstFault g) (fun q1 =>
      if q1.1 = (-1) then
        if ¬ a1 = 0 then
          if ¬ a1 = 1 then
            some ((Pr_sayings q1.2), q1.2)
          else
            some ((Pr_used q1.2), q1.2)
        else
          some ((St_choices q1.2), q1.2)
      else
        some ((-3), q1.2))
    else
      some ((-2), g)
set_option maxRecDepth 100000 in
set_option maxHeartbeats 4000000 in
theorem ev_Op_plan (a1 : Int) (g : Gx) (r : Int) (g' : Gx) (h : Op_plan a1 g = some (r, g')) : Ev 49 0 [some (.inr (.inr 0)), some (.inl a1)] [] g (some (.inl r)) g' := by
  rw [Op_plan] at h
  refine ev_runs 1 (0, [some (.inr (.inr 0)), some (.inl a1)], [], g) (1, [some (.inr (.inr 0)), some (.inl a1)], [.inl a1], g) rfl ?_
  by_cases hc : a1 < 0
  · rw [if_pos hc] at h
    refine es (9, [some (.inr (.inr 0)), some (.inl a1)], [], g) (congrArg some (if_pos hc)) ?_
    refine ev_runs 1 (9, [some (.inr (.inr 0)), some (.inl a1)], [], g) (11, [some (.inr (.inr 0)), some (.inl a1)], [.inl (-2)], g) rfl ?_
    cases h
    exact er rfl
  · rw [if_neg hc] at h
    refine es (4, [some (.inr (.inr 0)), some (.inl a1)], [], g) (congrArg some (if_neg hc)) ?_
    refine ev_runs 2 (4, [some (.inr (.inr 0)), some (.inl a1)], [], g) (6, [some (.inr (.inr 0)), some (.inl a1)], [.inl 2, .inl a1], g) rfl ?_
    by_cases hc : a1 ≤ 2
    · rw [if_pos hc] at h
      refine es (12, [some (.inr (.inr 0)), some (.inl a1)], [], g) (congrArg some (if_pos hc)) ?_
      refine ev_runs 2 (12, [some (.inr (.inr 0)), some (.inl a1)], [], g) (16, [some (.inr (.inr 0)), some (.inl a1)], [.inr (.inr 28)], g) rfl ?_
      obtain ⟨q1, hq, h⟩ := Option.bind_eq_some_iff.mp h
      refine ec 32 19 [.inr (.inr 28)] [] rfl (ev_Pr_firstFault g q1.1 q1.2 hq) ?_
      show Ev 49 19 [some (.inr (.inr 0)), some (.inl a1)] [.inl q1.1] q1.2 _ _
      refine ev_runs 1 (19, [some (.inr (.inr 0)), some (.inl a1)], [.inl q1.1], q1.2) (20, [some (.inr (.inr 0)), some (.inl a1)], [.inl (-1), .inl q1.1], q1.2) rfl ?_
      by_cases hc : q1.1 = (-1)
      · rw [if_pos hc] at h
        refine es (26, [some (.inr (.inr 0)), some (.inl a1)], [], q1.2) (congrArg some (if_pos hc)) ?_
        refine ev_runs 1 (26, [some (.inr (.inr 0)), some (.inl a1)], [], q1.2) (27, [some (.inr (.inr 0)), some (.inl a1)], [.inl a1], q1.2) rfl ?_
        by_cases hc : ¬ a1 = 0
        · rw [if_pos hc] at h
          refine es (38, [some (.inr (.inr 0)), some (.inl a1)], [], q1.2) (congrArg some (if_pos hc)) ?_
          refine ev_runs 2 (38, [some (.inr (.inr 0)), some (.inl a1)], [], q1.2) (40, [some (.inr (.inr 0)), some (.inl a1)], [.inl 1, .inl a1], q1.2) rfl ?_
          by_cases hc : ¬ a1 = 1
          · rw [if_pos hc] at h
            refine es (53, [some (.inr (.inr 0)), some (.inl a1)], [], q1.2) (congrArg some (if_pos hc)) ?_
            refine ev_runs 2 (53, [some (.inr (.inr 0)), some (.inl a1)], [], q1.2) (57, [some (.inr (.inr 0)), some (.inl a1)], [.inr (.inr 28)], q1.2) rfl ?_
            refine ec 48 60 [.inr (.inr 28)] [] rfl (ev_Pr_sayings q1.2 _ rfl) ?_
            show Ev 49 60 [some (.inr (.inr 0)), some (.inl a1)] [.inl (Pr_sayings q1.2)] q1.2 _ _
            cases h
            exact er rfl
          · rw [if_neg hc] at h
            refine es (43, [some (.inr (.inr 0)), some (.inl a1)], [], q1.2) (congrArg some (if_neg hc)) ?_
            refine ev_runs 2 (43, [some (.inr (.inr 0)), some (.inl a1)], [], q1.2) (47, [some (.inr (.inr 0)), some (.inl a1)], [.inr (.inr 28)], q1.2) rfl ?_
            refine ec 47 50 [.inr (.inr 28)] [] rfl (ev_Pr_used q1.2 _ rfl) ?_
            show Ev 49 50 [some (.inr (.inr 0)), some (.inl a1)] [.inl (Pr_used q1.2)] q1.2 _ _
            refine ev_runs 1 (50, [some (.inr (.inr 0)), some (.inl a1)], [.inl (Pr_used q1.2)], q1.2) (60, [some (.inr (.inr 0)), some (.inl a1)], [.inl (Pr_used q1.2)], q1.2) rfl ?_
            cases h
            exact er rfl
        · rw [if_neg hc] at h
          refine es (30, [some (.inr (.inr 0)), some (.inl a1)], [], q1.2) (congrArg some (if_neg hc)) ?_
          refine ev_runs 2 (30, [some (.inr (.inr 0)), some (.inl a1)], [], q1.2) (34, [some (.inr (.inr 0)), some (.inl a1)], [.inr (.inr 7)], q1.2) rfl ?_
          refine ec 46 37 [.inr (.inr 7)] [] rfl (ev_St_choices q1.2 _ rfl) ?_
          show Ev 49 37 [some (.inr (.inr 0)), some (.inl a1)] [.inl (St_choices q1.2)] q1.2 _ _
          cases h
          exact er rfl
      · rw [if_neg hc] at h
        refine es (23, [some (.inr (.inr 0)), some (.inl a1)], [], q1.2) (congrArg some (if_neg hc)) ?_
        refine ev_runs 1 (23, [some (.inr (.inr 0)), some (.inl a1)], [], q1.2) (25, [some (.inr (.inr 0)), some (.inl a1)], [.inl (-3)], q1.2) rfl ?_
        cases h
        exact er rfl
    · rw [if_neg hc] at h
      refine es (9, [some (.inr (.inr 0)), some (.inl a1)], [], g) (congrArg some (if_neg hc)) ?_
      refine ev_runs 1 (9, [some (.inr (.inr 0)), some (.inl a1)], [], g) (11, [some (.inr (.inr 0)), some (.inl a1)], [.inl (-2)], g) rfl ?_
      cases h
      exact er rfl
def Md_plan (a1 : Int) (g : Gx) : Option (Int × Gx) :=
  if ¬ (Md_in a1 0 2) = 0 then
    Option.bind (Md_reads g) (fun q1 =>
    if q1.1 = (-1) then
      if ¬ a1 = 0 then
        if ¬ a1 = 1 then
          some ((q1.2 92 17), q1.2)
        else
          some ((q1.2 92 18), q1.2)
      else
        some ((q1.2 92 16), q1.2)
    else
      some ((-3), q1.2))
  else
    some ((-2), g)
set_option maxRecDepth 100000 in
set_option maxHeartbeats 4000000 in
theorem ev_Md_plan (a1 : Int) (g : Gx) (r : Int) (g' : Gx) (h : Md_plan a1 g = some (r, g')) : Ev 50 0 [some (.inr (.inr 92)), some (.inl a1)] [] g (some (.inl r)) g' := by
  rw [Md_plan] at h
  refine ev_runs 4 (0, [some (.inr (.inr 92)), some (.inl a1)], [], g) (6, [some (.inr (.inr 92)), some (.inl a1)], [.inr (.inl 2), .inr (.inl 0), .inr (.inl a1)], g) rfl ?_
  refine ec 4 9 [.inr (.inl a1), .inr (.inl 0), .inr (.inl 2)] [] rfl (ev_Md_in a1 0 2 g _ rfl) ?_
  show Ev 50 9 [some (.inr (.inr 92)), some (.inl a1)] [.inl (Md_in a1 0 2)] g _ _
  by_cases hc : ¬ (Md_in a1 0 2) = 0
  · rw [if_pos hc] at h
    refine es (15, [some (.inr (.inr 92)), some (.inl a1)], [], g) (congrArg some (if_pos hc)) ?_
    refine ev_runs 1 (15, [some (.inr (.inr 92)), some (.inl a1)], [], g) (16, [some (.inr (.inr 92)), some (.inl a1)], [.inr (.inr 92)], g) rfl ?_
    obtain ⟨q1, hq, h⟩ := Option.bind_eq_some_iff.mp h
    refine ec 43 19 [.inr (.inr 92)] [] rfl (ev_Md_reads g q1.1 q1.2 hq) ?_
    show Ev 50 19 [some (.inr (.inr 92)), some (.inl a1)] [.inl q1.1] q1.2 _ _
    refine ev_runs 1 (19, [some (.inr (.inr 92)), some (.inl a1)], [.inl q1.1], q1.2) (20, [some (.inr (.inr 92)), some (.inl a1)], [.inl (-1), .inl q1.1], q1.2) rfl ?_
    by_cases hc : q1.1 = (-1)
    · rw [if_pos hc] at h
      refine es (26, [some (.inr (.inr 92)), some (.inl a1)], [], q1.2) (congrArg some (if_pos hc)) ?_
      refine ev_runs 1 (26, [some (.inr (.inr 92)), some (.inl a1)], [], q1.2) (27, [some (.inr (.inr 92)), some (.inl a1)], [.inl a1], q1.2) rfl ?_
      by_cases hc : ¬ a1 = 0
      · rw [if_pos hc] at h
        refine es (37, [some (.inr (.inr 92)), some (.inl a1)], [], q1.2) (congrArg some (if_pos hc)) ?_
        refine ev_runs 2 (37, [some (.inr (.inr 92)), some (.inl a1)], [], q1.2) (39, [some (.inr (.inr 92)), some (.inl a1)], [.inl 1, .inl a1], q1.2) rfl ?_
        by_cases hc : ¬ a1 = 1
        · rw [if_pos hc] at h
          refine es (49, [some (.inr (.inr 92)), some (.inl a1)], [], q1.2) (congrArg some (if_pos hc)) ?_
          refine ev_runs 2 (49, [some (.inr (.inr 92)), some (.inl a1)], [], q1.2) (53, [some (.inr (.inr 92)), some (.inl a1)], [.inl (q1.2 92 17)], q1.2) rfl ?_
          cases h
          exact er rfl
        · rw [if_neg hc] at h
          refine es (42, [some (.inr (.inr 92)), some (.inl a1)], [], q1.2) (congrArg some (if_neg hc)) ?_
          refine ev_runs 3 (42, [some (.inr (.inr 92)), some (.inl a1)], [], q1.2) (53, [some (.inr (.inr 92)), some (.inl a1)], [.inl (q1.2 92 18)], q1.2) rfl ?_
          cases h
          exact er rfl
      · rw [if_neg hc] at h
        refine es (30, [some (.inr (.inr 92)), some (.inl a1)], [], q1.2) (congrArg some (if_neg hc)) ?_
        refine ev_runs 3 (30, [some (.inr (.inr 92)), some (.inl a1)], [], q1.2) (53, [some (.inr (.inr 92)), some (.inl a1)], [.inl (q1.2 92 16)], q1.2) rfl ?_
        cases h
        exact er rfl
    · rw [if_neg hc] at h
      refine es (23, [some (.inr (.inr 92)), some (.inl a1)], [], q1.2) (congrArg some (if_neg hc)) ?_
      refine ev_runs 1 (23, [some (.inr (.inr 92)), some (.inl a1)], [], q1.2) (25, [some (.inr (.inr 92)), some (.inl a1)], [.inl (-3)], q1.2) rfl ?_
      cases h
      exact er rfl
  · rw [if_neg hc] at h
    refine es (12, [some (.inr (.inr 92)), some (.inl a1)], [], g) (congrArg some (if_neg hc)) ?_
    refine ev_runs 1 (12, [some (.inr (.inr 92)), some (.inl a1)], [], g) (14, [some (.inr (.inr 92)), some (.inl a1)], [.inl (-2)], g) rfl ?_
    cases h
    exact er rfl
def Op_tell (a1 : Int) (g : Gx) : Int × Gx :=
  if a1 < 0 then
    ((-2), g)
  else
    if a1 ≤ 1073741823 then
      ((g 0 11), (gset g 0 11 a1))
    else
      ((-2), g)
set_option maxRecDepth 100000 in
set_option maxHeartbeats 4000000 in
theorem ev_Op_tell (a1 : Int) (g : Gx) (r : Int) (g' : Gx) (h : Op_tell a1 g = (r, g')) : Ev 51 0 [some (.inr (.inr 0)), some (.inl a1), none] [] g (some (.inl r)) g' := by
  rw [Op_tell] at h
  refine ev_runs 1 (0, [some (.inr (.inr 0)), some (.inl a1), none], [], g) (1, [some (.inr (.inr 0)), some (.inl a1), none], [.inl a1], g) rfl ?_
  by_cases hc : a1 < 0
  · rw [if_pos hc] at h
    refine es (10, [some (.inr (.inr 0)), some (.inl a1), none], [], g) (congrArg some (if_pos hc)) ?_
    refine ev_runs 1 (10, [some (.inr (.inr 0)), some (.inl a1), none], [], g) (12, [some (.inr (.inr 0)), some (.inl a1), none], [.inl (-2)], g) rfl ?_
    cases h
    exact er rfl
  · rw [if_neg hc] at h
    refine es (4, [some (.inr (.inr 0)), some (.inl a1), none], [], g) (congrArg some (if_neg hc)) ?_
    refine ev_runs 2 (4, [some (.inr (.inr 0)), some (.inl a1), none], [], g) (7, [some (.inr (.inr 0)), some (.inl a1), none], [.inl 1073741823, .inl a1], g) rfl ?_
    by_cases hc : a1 ≤ 1073741823
    · rw [if_pos hc] at h
      refine es (13, [some (.inr (.inr 0)), some (.inl a1), none], [], g) (congrArg some (if_pos hc)) ?_
      refine ev_runs 7 (13, [some (.inr (.inr 0)), some (.inl a1), none], [], g) (24, [some (.inr (.inr 0)), some (.inl a1), some (.inl (g 0 11))], [.inl (g 0 11)], (gset g 0 11 a1)) rfl ?_
      cases h
      exact er rfl
    · rw [if_neg hc] at h
      refine es (10, [some (.inr (.inr 0)), some (.inl a1), none], [], g) (congrArg some (if_neg hc)) ?_
      refine ev_runs 1 (10, [some (.inr (.inr 0)), some (.inl a1), none], [], g) (12, [some (.inr (.inr 0)), some (.inl a1), none], [.inl (-2)], g) rfl ?_
      cases h
      exact er rfl
def Md_tell (a1 : Int) (g : Gx) : Int × Gx :=
  if ¬ (Md_in a1 0 1073741823) = 0 then
    ((g 92 7), (gset g 92 7 a1))
  else
    ((-2), g)
set_option maxRecDepth 100000 in
set_option maxHeartbeats 4000000 in
theorem ev_Md_tell (a1 : Int) (g : Gx) (r : Int) (g' : Gx) (h : Md_tell a1 g = (r, g')) : Ev 52 0 [some (.inr (.inr 92)), some (.inl a1), none] [] g (some (.inl r)) g' := by
  rw [Md_tell] at h
  refine ev_runs 4 (0, [some (.inr (.inr 92)), some (.inl a1), none], [], g) (6, [some (.inr (.inr 92)), some (.inl a1), none], [.inr (.inl 1073741823), .inr (.inl 0), .inr (.inl a1)], g) rfl ?_
  refine ec 4 9 [.inr (.inl a1), .inr (.inl 0), .inr (.inl 1073741823)] [] rfl (ev_Md_in a1 0 1073741823 g _ rfl) ?_
  show Ev 52 9 [some (.inr (.inr 92)), some (.inl a1), none] [.inl (Md_in a1 0 1073741823)] g _ _
  by_cases hc : ¬ (Md_in a1 0 1073741823) = 0
  · rw [if_pos hc] at h
    refine es (15, [some (.inr (.inr 92)), some (.inl a1), none], [], g) (congrArg some (if_pos hc)) ?_
    refine ev_runs 7 (15, [some (.inr (.inr 92)), some (.inl a1), none], [], g) (26, [some (.inr (.inr 92)), some (.inl a1), some (.inl (g 92 7))], [.inl (g 92 7)], (gset g 92 7 a1)) rfl ?_
    cases h
    exact er rfl
  · rw [if_neg hc] at h
    refine es (12, [some (.inr (.inr 92)), some (.inl a1), none], [], g) (congrArg some (if_neg hc)) ?_
    refine ev_runs 1 (12, [some (.inr (.inr 92)), some (.inl a1), none], [], g) (14, [some (.inr (.inr 92)), some (.inl a1), none], [.inl (-2)], g) rfl ?_
    cases h
    exact er rfl
def St_version (g : Gx) : Int :=
  (g 7 12)
set_option maxRecDepth 100000 in
set_option maxHeartbeats 4000000 in
theorem ev_St_version (g : Gx) (r : Int) (h : St_version g = r) : Ev 53 0 [some (.inr (.inr 7))] [] g (some (.inl r)) g := by
  rw [St_version] at h
  refine ev_runs 2 (0, [some (.inr (.inr 7))], [], g) (4, [some (.inr (.inr 7))], [.inl (g 7 12)], g) rfl ?_
  subst h
  exact er rfl
def St_beginItems (a1 : Int) (g : Gx) : Gx :=
  (rset (rset g 21 5 a1 1) 23 5 a1 0)
set_option maxRecDepth 100000 in
set_option maxHeartbeats 4000000 in
theorem ev_St_beginItems (a1 : Int) (g : Gx) (g' : Gx) (h : St_beginItems a1 g = g') : Ev 54 0 [some (.inr (.inr 7)), some (.inl a1)] [] g none g' := by
  rw [St_beginItems] at h
  refine ev_runs 4 (0, [some (.inr (.inr 7)), some (.inl a1)], [], g) (6, [some (.inr (.inr 7)), some (.inl a1)], [.inl 1, .inl a1, .inr (.inr 20)], g) rfl ?_
  refine ec 0 9 [.inr (.inr 20), .inl a1, .inl 1] [] rfl (ev_Row_set rfl rfl _ _ _) ?_
  show Ev 54 9 [some (.inr (.inr 7)), some (.inl a1)] [] (rset g 21 5 a1 1) _ _
  refine ev_runs 4 (9, [some (.inr (.inr 7)), some (.inl a1)], [], (rset g 21 5 a1 1)) (15, [some (.inr (.inr 7)), some (.inl a1)], [.inl 0, .inl a1, .inr (.inr 22)], (rset g 21 5 a1 1)) rfl ?_
  refine ec 0 18 [.inr (.inr 22), .inl a1, .inl 0] [] rfl (ev_Row_set rfl rfl _ _ _) ?_
  show Ev 54 18 [some (.inr (.inr 7)), some (.inl a1)] [] (rset (rset g 21 5 a1 1) 23 5 a1 0) _ _
  subst h
  exact er rfl
def St_upTo (a0 a1 : Int) : Int :=
  if a0 ≤ a1 then
    a0
  else
    a1
set_option maxRecDepth 100000 in
set_option maxHeartbeats 4000000 in
theorem ev_St_upTo (a0 a1 : Int) (g : Gx) (r : Int) (h : St_upTo a0 a1 = r) : Ev 55 0 [some (.inl a0), some (.inl a1)] [] g (some (.inl r)) g := by
  rw [St_upTo] at h
  refine ev_runs 2 (0, [some (.inl a0), some (.inl a1)], [], g) (2, [some (.inl a0), some (.inl a1)], [.inl a0, .inl a1], g) rfl ?_
  by_cases hc : a0 ≤ a1
  · rw [if_pos hc] at h
    refine es (9, [some (.inl a0), some (.inl a1)], [], g) (congrArg some (if_pos hc)) ?_
    refine ev_runs 1 (9, [some (.inl a0), some (.inl a1)], [], g) (10, [some (.inl a0), some (.inl a1)], [.inl a0], g) rfl ?_
    subst h
    exact er rfl
  · rw [if_neg hc] at h
    refine es (5, [some (.inl a0), some (.inl a1)], [], g) (congrArg some (if_neg hc)) ?_
    refine ev_runs 2 (5, [some (.inl a0), some (.inl a1)], [], g) (10, [some (.inl a0), some (.inl a1)], [.inl a1], g) rfl ?_
    subst h
    exact er rfl
def St_endWay (a1 : Int) (g : Gx) : Gx :=
  if (rat g 23 5 a1) ≤ (rat g 27 5 a1) then
    lett (St_beginItems a1 (rset g 25 5 a1 (St_upTo 31 (wr ((rat g 25 5 a1) + (rat g 21 5 a1)))))) (fun g1 =>
    g1)
  else
    lett (St_beginItems a1 (rset (rset g 25 5 a1 (St_upTo 31 (wr ((rat g 25 5 a1) + (rat g 21 5 a1))))) 27 5 a1 (rat g 23 5 a1))) (fun g2 =>
    g2)
set_option maxRecDepth 100000 in
set_option maxHeartbeats 4000000 in
theorem ev_St_endWay (a1 : Int) (g : Gx) (g' : Gx) (h : St_endWay a1 g = g') : Ev 56 0 [some (.inr (.inr 7)), some (.inl a1)] [] g none g' := by
  rw [St_endWay] at h
  refine ev_runs 7 (0, [some (.inr (.inr 7)), some (.inl a1)], [], g) (12, [some (.inr (.inr 7)), some (.inl a1)], [.inl a1, .inr (.inr 24), .inl 31, .inl a1, .inr (.inr 24)], g) rfl ?_
  refine ec 13 15 [.inr (.inr 24), .inl a1] [.inl 31, .inl a1, .inr (.inr 24)] rfl (ev_Row_at rfl rfl _ _) ?_
  show Ev 56 15 [some (.inr (.inr 7)), some (.inl a1)] [.inl (rat g 25 5 a1), .inl 31, .inl a1, .inr (.inr 24)] g _ _
  refine ev_runs 3 (15, [some (.inr (.inr 7)), some (.inl a1)], [.inl (rat g 25 5 a1), .inl 31, .inl a1, .inr (.inr 24)], g) (20, [some (.inr (.inr 7)), some (.inl a1)], [.inl a1, .inr (.inr 20), .inl (rat g 25 5 a1), .inl 31, .inl a1, .inr (.inr 24)], g) rfl ?_
  refine ec 13 23 [.inr (.inr 20), .inl a1] [.inl (rat g 25 5 a1), .inl 31, .inl a1, .inr (.inr 24)] rfl (ev_Row_at rfl rfl _ _) ?_
  show Ev 56 23 [some (.inr (.inr 7)), some (.inl a1)] [.inl (rat g 21 5 a1), .inl (rat g 25 5 a1), .inl 31, .inl a1, .inr (.inr 24)] g _ _
  refine ev_runs 1 (23, [some (.inr (.inr 7)), some (.inl a1)], [.inl (rat g 21 5 a1), .inl (rat g 25 5 a1), .inl 31, .inl a1, .inr (.inr 24)], g) (24, [some (.inr (.inr 7)), some (.inl a1)], [.inl (wr ((rat g 25 5 a1) + (rat g 21 5 a1))), .inl 31, .inl a1, .inr (.inr 24)], g) rfl ?_
  refine ec 55 27 [.inl 31, .inl (wr ((rat g 25 5 a1) + (rat g 21 5 a1)))] [.inl a1, .inr (.inr 24)] rfl (ev_St_upTo 31 (wr ((rat g 25 5 a1) + (rat g 21 5 a1))) g _ rfl) ?_
  show Ev 56 27 [some (.inr (.inr 7)), some (.inl a1)] [.inl (St_upTo 31 (wr ((rat g 25 5 a1) + (rat g 21 5 a1)))), .inl a1, .inr (.inr 24)] g _ _
  refine ec 0 30 [.inr (.inr 24), .inl a1, .inl (St_upTo 31 (wr ((rat g 25 5 a1) + (rat g 21 5 a1))))] [] rfl (ev_Row_set rfl rfl _ _ _) ?_
  show Ev 56 30 [some (.inr (.inr 7)), some (.inl a1)] [] (rset g 25 5 a1 (St_upTo 31 (wr ((rat g 25 5 a1) + (rat g 21 5 a1))))) _ _
  refine ev_runs 3 (30, [some (.inr (.inr 7)), some (.inl a1)], [], (rset g 25 5 a1 (St_upTo 31 (wr ((rat g 25 5 a1) + (rat g 21 5 a1)))))) (35, [some (.inr (.inr 7)), some (.inl a1)], [.inl a1, .inr (.inr 22)], (rset g 25 5 a1 (St_upTo 31 (wr ((rat g 25 5 a1) + (rat g 21 5 a1)))))) rfl ?_
  refine ec 13 38 [.inr (.inr 22), .inl a1] [] rfl (ev_Row_at rfl rfl _ _) ?_
  show Ev 56 38 [some (.inr (.inr 7)), some (.inl a1)] [.inl (rat g 23 5 a1)] (rset g 25 5 a1 (St_upTo 31 (wr ((rat g 25 5 a1) + (rat g 21 5 a1))))) _ _
  refine ev_runs 3 (38, [some (.inr (.inr 7)), some (.inl a1)], [.inl (rat g 23 5 a1)], (rset g 25 5 a1 (St_upTo 31 (wr ((rat g 25 5 a1) + (rat g 21 5 a1)))))) (43, [some (.inr (.inr 7)), some (.inl a1)], [.inl a1, .inr (.inr 26), .inl (rat g 23 5 a1)], (rset g 25 5 a1 (St_upTo 31 (wr ((rat g 25 5 a1) + (rat g 21 5 a1)))))) rfl ?_
  refine ec 13 46 [.inr (.inr 26), .inl a1] [.inl (rat g 23 5 a1)] rfl (ev_Row_at rfl rfl _ _) ?_
  show Ev 56 46 [some (.inr (.inr 7)), some (.inl a1)] [.inl (rat g 27 5 a1), .inl (rat g 23 5 a1)] (rset g 25 5 a1 (St_upTo 31 (wr ((rat g 25 5 a1) + (rat g 21 5 a1))))) _ _
  by_cases hc : (rat g 23 5 a1) ≤ (rat g 27 5 a1)
  · rw [if_pos hc] at h
    refine es (65, [some (.inr (.inr 7)), some (.inl a1)], [], (rset g 25 5 a1 (St_upTo 31 (wr ((rat g 25 5 a1) + (rat g 21 5 a1)))))) (congrArg some (if_pos hc)) ?_
    refine ev_runs 2 (65, [some (.inr (.inr 7)), some (.inl a1)], [], (rset g 25 5 a1 (St_upTo 31 (wr ((rat g 25 5 a1) + (rat g 21 5 a1)))))) (67, [some (.inr (.inr 7)), some (.inl a1)], [.inl a1, .inr (.inr 7)], (rset g 25 5 a1 (St_upTo 31 (wr ((rat g 25 5 a1) + (rat g 21 5 a1)))))) rfl ?_
    obtain ⟨g1, hq, h⟩ := lett_inv h
    refine ec 54 70 [.inr (.inr 7), .inl a1] [] rfl (ev_St_beginItems a1 (rset g 25 5 a1 (St_upTo 31 (wr ((rat g 25 5 a1) + (rat g 21 5 a1))))) g1 hq.symm) ?_
    show Ev 56 70 [some (.inr (.inr 7)), some (.inl a1)] [] g1 _ _
    subst h
    exact er rfl
  · rw [if_neg hc] at h
    refine es (49, [some (.inr (.inr 7)), some (.inl a1)], [], (rset g 25 5 a1 (St_upTo 31 (wr ((rat g 25 5 a1) + (rat g 21 5 a1)))))) (congrArg some (if_neg hc)) ?_
    refine ev_runs 6 (49, [some (.inr (.inr 7)), some (.inl a1)], [], (rset g 25 5 a1 (St_upTo 31 (wr ((rat g 25 5 a1) + (rat g 21 5 a1)))))) (59, [some (.inr (.inr 7)), some (.inl a1)], [.inl a1, .inr (.inr 22), .inl a1, .inr (.inr 26)], (rset g 25 5 a1 (St_upTo 31 (wr ((rat g 25 5 a1) + (rat g 21 5 a1)))))) rfl ?_
    refine ec 13 62 [.inr (.inr 22), .inl a1] [.inl a1, .inr (.inr 26)] rfl (ev_Row_at rfl rfl _ _) ?_
    show Ev 56 62 [some (.inr (.inr 7)), some (.inl a1)] [.inl (rat g 23 5 a1), .inl a1, .inr (.inr 26)] (rset g 25 5 a1 (St_upTo 31 (wr ((rat g 25 5 a1) + (rat g 21 5 a1))))) _ _
    refine ec 0 65 [.inr (.inr 26), .inl a1, .inl (rat g 23 5 a1)] [] rfl (ev_Row_set rfl rfl _ _ _) ?_
    show Ev 56 65 [some (.inr (.inr 7)), some (.inl a1)] [] (rset (rset g 25 5 a1 (St_upTo 31 (wr ((rat g 25 5 a1) + (rat g 21 5 a1))))) 27 5 a1 (rat g 23 5 a1)) _ _
    refine ev_runs 2 (65, [some (.inr (.inr 7)), some (.inl a1)], [], (rset (rset g 25 5 a1 (St_upTo 31 (wr ((rat g 25 5 a1) + (rat g 21 5 a1))))) 27 5 a1 (rat g 23 5 a1))) (67, [some (.inr (.inr 7)), some (.inl a1)], [.inl a1, .inr (.inr 7)], (rset (rset g 25 5 a1 (St_upTo 31 (wr ((rat g 25 5 a1) + (rat g 21 5 a1))))) 27 5 a1 (rat g 23 5 a1))) rfl ?_
    obtain ⟨g2, hq, h⟩ := lett_inv h
    refine ec 54 70 [.inr (.inr 7), .inl a1] [] rfl (ev_St_beginItems a1 (rset (rset g 25 5 a1 (St_upTo 31 (wr ((rat g 25 5 a1) + (rat g 21 5 a1))))) 27 5 a1 (rat g 23 5 a1)) g2 hq.symm) ?_
    show Ev 56 70 [some (.inr (.inr 7)), some (.inl a1)] [] g2 _ _
    subst h
    exact er rfl
def St_toldOf (a1 a2 : Int) (g : Gx) : Int :=
  if a1 < 0 then
    0
  else
    if a1 < 5 then
      (jand (jshr a2 (wr (a1 * 6))) (jand 63 (jxor (jshl 1 (rat g 13 40 a1)) (-1))))
    else
      0
set_option maxRecDepth 100000 in
set_option maxHeartbeats 4000000 in
theorem ev_St_toldOf (a1 a2 : Int) (g : Gx) (r : Int) (h : St_toldOf a1 a2 g = r) : Ev 57 0 [some (.inr (.inr 7)), some (.inl a1), some (.inl a2), none] [] g (some (.inl r)) g := by
  rw [St_toldOf] at h
  refine ev_runs 1 (0, [some (.inr (.inr 7)), some (.inl a1), some (.inl a2), none], [], g) (1, [some (.inr (.inr 7)), some (.inl a1), some (.inl a2), none], [.inl a1], g) rfl ?_
  by_cases hc : a1 < 0
  · rw [if_pos hc] at h
    refine es (9, [some (.inr (.inr 7)), some (.inl a1), some (.inl a2), none], [], g) (congrArg some (if_pos hc)) ?_
    refine ev_runs 1 (9, [some (.inr (.inr 7)), some (.inl a1), some (.inl a2), none], [], g) (10, [some (.inr (.inr 7)), some (.inl a1), some (.inl a2), none], [.inl 0], g) rfl ?_
    subst h
    exact er rfl
  · rw [if_neg hc] at h
    refine es (4, [some (.inr (.inr 7)), some (.inl a1), some (.inl a2), none], [], g) (congrArg some (if_neg hc)) ?_
    refine ev_runs 2 (4, [some (.inr (.inr 7)), some (.inl a1), some (.inl a2), none], [], g) (6, [some (.inr (.inr 7)), some (.inl a1), some (.inl a2), none], [.inl 5, .inl a1], g) rfl ?_
    by_cases hc : a1 < 5
    · rw [if_pos hc] at h
      refine es (11, [some (.inr (.inr 7)), some (.inl a1), some (.inl a2), none], [], g) (congrArg some (if_pos hc)) ?_
      refine ev_runs 5 (11, [some (.inr (.inr 7)), some (.inl a1), some (.inl a2), none], [], g) (19, [some (.inr (.inr 7)), some (.inl a1), some (.inl a2), none], [.inl a1, .inr (.inr 12), .inl 1, .inl 63], g) rfl ?_
      refine ec 13 22 [.inr (.inr 12), .inl a1] [.inl 1, .inl 63] rfl (ev_Row_at rfl rfl _ _) ?_
      show Ev 57 22 [some (.inr (.inr 7)), some (.inl a1), some (.inl a2), none] [.inl (rat g 13 40 a1), .inl 1, .inl 63] g _ _
      refine ev_runs 12 (22, [some (.inr (.inr 7)), some (.inl a1), some (.inl a2), none], [.inl (rat g 13 40 a1), .inl 1, .inl 63], g) (35, [some (.inr (.inr 7)), some (.inl a1), some (.inl a2), some (.inl (jand 63 (jxor (jshl 1 (rat g 13 40 a1)) (-1))))], [.inl (jand (jshr a2 (wr (a1 * 6))) (jand 63 (jxor (jshl 1 (rat g 13 40 a1)) (-1))))], g) rfl ?_
      subst h
      exact er rfl
    · rw [if_neg hc] at h
      refine es (9, [some (.inr (.inr 7)), some (.inl a1), some (.inl a2), none], [], g) (congrArg some (if_neg hc)) ?_
      refine ev_runs 1 (9, [some (.inr (.inr 7)), some (.inl a1), some (.inl a2), none], [], g) (10, [some (.inr (.inr 7)), some (.inl a1), some (.inl a2), none], [.inl 0], g) rfl ?_
      subst h
      exact er rfl
def Ji_bitCount (a0 : Int) : Int :=
  (jand (wr ((wr ((jand (wr ((wr ((jand (wr (a0 - (jand (jushr a0 1) 1431655765))) 858993459) + (jand (jushr (wr (a0 - (jand (jushr a0 1) 1431655765))) 2) 858993459))) + (jushr (wr ((jand (wr (a0 - (jand (jushr a0 1) 1431655765))) 858993459) + (jand (jushr (wr (a0 - (jand (jushr a0 1) 1431655765))) 2) 858993459))) 4))) 252645135) + (jushr (jand (wr ((wr ((jand (wr (a0 - (jand (jushr a0 1) 1431655765))) 858993459) + (jand (jushr (wr (a0 - (jand (jushr a0 1) 1431655765))) 2) 858993459))) + (jushr (wr ((jand (wr (a0 - (jand (jushr a0 1) 1431655765))) 858993459) + (jand (jushr (wr (a0 - (jand (jushr a0 1) 1431655765))) 2) 858993459))) 4))) 252645135) 8))) + (jushr (wr ((jand (wr ((wr ((jand (wr (a0 - (jand (jushr a0 1) 1431655765))) 858993459) + (jand (jushr (wr (a0 - (jand (jushr a0 1) 1431655765))) 2) 858993459))) + (jushr (wr ((jand (wr (a0 - (jand (jushr a0 1) 1431655765))) 858993459) + (jand (jushr (wr (a0 - (jand (jushr a0 1) 1431655765))) 2) 858993459))) 4))) 252645135) + (jushr (jand (wr ((wr ((jand (wr (a0 - (jand (jushr a0 1) 1431655765))) 858993459) + (jand (jushr (wr (a0 - (jand (jushr a0 1) 1431655765))) 2) 858993459))) + (jushr (wr ((jand (wr (a0 - (jand (jushr a0 1) 1431655765))) 858993459) + (jand (jushr (wr (a0 - (jand (jushr a0 1) 1431655765))) 2) 858993459))) 4))) 252645135) 8))) 16))) 63)
set_option maxRecDepth 100000 in
set_option maxHeartbeats 4000000 in
theorem ev_Ji_bitCount (a0 : Int) (g : Gx) (r : Int) (h : Ji_bitCount a0 = r) : Ev 58 0 [some (.inl a0)] [] g (some (.inl r)) g := by
  rw [Ji_bitCount] at h
  refine ev_runs 41 (0, [some (.inl a0)], [], g) (52, [some (.inl (wr ((wr ((jand (wr ((wr ((jand (wr (a0 - (jand (jushr a0 1) 1431655765))) 858993459) + (jand (jushr (wr (a0 - (jand (jushr a0 1) 1431655765))) 2) 858993459))) + (jushr (wr ((jand (wr (a0 - (jand (jushr a0 1) 1431655765))) 858993459) + (jand (jushr (wr (a0 - (jand (jushr a0 1) 1431655765))) 2) 858993459))) 4))) 252645135) + (jushr (jand (wr ((wr ((jand (wr (a0 - (jand (jushr a0 1) 1431655765))) 858993459) + (jand (jushr (wr (a0 - (jand (jushr a0 1) 1431655765))) 2) 858993459))) + (jushr (wr ((jand (wr (a0 - (jand (jushr a0 1) 1431655765))) 858993459) + (jand (jushr (wr (a0 - (jand (jushr a0 1) 1431655765))) 2) 858993459))) 4))) 252645135) 8))) + (jushr (wr ((jand (wr ((wr ((jand (wr (a0 - (jand (jushr a0 1) 1431655765))) 858993459) + (jand (jushr (wr (a0 - (jand (jushr a0 1) 1431655765))) 2) 858993459))) + (jushr (wr ((jand (wr (a0 - (jand (jushr a0 1) 1431655765))) 858993459) + (jand (jushr (wr (a0 - (jand (jushr a0 1) 1431655765))) 2) 858993459))) 4))) 252645135) + (jushr (jand (wr ((wr ((jand (wr (a0 - (jand (jushr a0 1) 1431655765))) 858993459) + (jand (jushr (wr (a0 - (jand (jushr a0 1) 1431655765))) 2) 858993459))) + (jushr (wr ((jand (wr (a0 - (jand (jushr a0 1) 1431655765))) 858993459) + (jand (jushr (wr (a0 - (jand (jushr a0 1) 1431655765))) 2) 858993459))) 4))) 252645135) 8))) 16))))], [.inl (jand (wr ((wr ((jand (wr ((wr ((jand (wr (a0 - (jand (jushr a0 1) 1431655765))) 858993459) + (jand (jushr (wr (a0 - (jand (jushr a0 1) 1431655765))) 2) 858993459))) + (jushr (wr ((jand (wr (a0 - (jand (jushr a0 1) 1431655765))) 858993459) + (jand (jushr (wr (a0 - (jand (jushr a0 1) 1431655765))) 2) 858993459))) 4))) 252645135) + (jushr (jand (wr ((wr ((jand (wr (a0 - (jand (jushr a0 1) 1431655765))) 858993459) + (jand (jushr (wr (a0 - (jand (jushr a0 1) 1431655765))) 2) 858993459))) + (jushr (wr ((jand (wr (a0 - (jand (jushr a0 1) 1431655765))) 858993459) + (jand (jushr (wr (a0 - (jand (jushr a0 1) 1431655765))) 2) 858993459))) 4))) 252645135) 8))) + (jushr (wr ((jand (wr ((wr ((jand (wr (a0 - (jand (jushr a0 1) 1431655765))) 858993459) + (jand (jushr (wr (a0 - (jand (jushr a0 1) 1431655765))) 2) 858993459))) + (jushr (wr ((jand (wr (a0 - (jand (jushr a0 1) 1431655765))) 858993459) + (jand (jushr (wr (a0 - (jand (jushr a0 1) 1431655765))) 2) 858993459))) 4))) 252645135) + (jushr (jand (wr ((wr ((jand (wr (a0 - (jand (jushr a0 1) 1431655765))) 858993459) + (jand (jushr (wr (a0 - (jand (jushr a0 1) 1431655765))) 2) 858993459))) + (jushr (wr ((jand (wr (a0 - (jand (jushr a0 1) 1431655765))) 858993459) + (jand (jushr (wr (a0 - (jand (jushr a0 1) 1431655765))) 2) 858993459))) 4))) 252645135) 8))) 16))) 63)], g) rfl ?_
  subst h
  exact er rfl
def St_addItem (a1 a2 a3 : Int) (g : Gx) : Gx :=
  (rset (rset g 21 5 a1 (St_upTo 31 (wr ((rat g 21 5 a1) * a2)))) 23 5 a1 (St_upTo 25 (wr ((rat g 23 5 a1) + a3))))
set_option maxRecDepth 100000 in
set_option maxHeartbeats 4000000 in
theorem ev_St_addItem (a1 a2 a3 : Int) (g : Gx) (g' : Gx) (h : St_addItem a1 a2 a3 g = g') : Ev 59 0 [some (.inr (.inr 7)), some (.inl a1), some (.inl a2), some (.inl a3)] [] g none g' := by
  rw [St_addItem] at h
  refine ev_runs 7 (0, [some (.inr (.inr 7)), some (.inl a1), some (.inl a2), some (.inl a3)], [], g) (12, [some (.inr (.inr 7)), some (.inl a1), some (.inl a2), some (.inl a3)], [.inl a1, .inr (.inr 20), .inl 31, .inl a1, .inr (.inr 20)], g) rfl ?_
  refine ec 13 15 [.inr (.inr 20), .inl a1] [.inl 31, .inl a1, .inr (.inr 20)] rfl (ev_Row_at rfl rfl _ _) ?_
  show Ev 59 15 [some (.inr (.inr 7)), some (.inl a1), some (.inl a2), some (.inl a3)] [.inl (rat g 21 5 a1), .inl 31, .inl a1, .inr (.inr 20)] g _ _
  refine ev_runs 2 (15, [some (.inr (.inr 7)), some (.inl a1), some (.inl a2), some (.inl a3)], [.inl (rat g 21 5 a1), .inl 31, .inl a1, .inr (.inr 20)], g) (17, [some (.inr (.inr 7)), some (.inl a1), some (.inl a2), some (.inl a3)], [.inl (wr ((rat g 21 5 a1) * a2)), .inl 31, .inl a1, .inr (.inr 20)], g) rfl ?_
  refine ec 55 20 [.inl 31, .inl (wr ((rat g 21 5 a1) * a2))] [.inl a1, .inr (.inr 20)] rfl (ev_St_upTo 31 (wr ((rat g 21 5 a1) * a2)) g _ rfl) ?_
  show Ev 59 20 [some (.inr (.inr 7)), some (.inl a1), some (.inl a2), some (.inl a3)] [.inl (St_upTo 31 (wr ((rat g 21 5 a1) * a2))), .inl a1, .inr (.inr 20)] g _ _
  refine ec 0 23 [.inr (.inr 20), .inl a1, .inl (St_upTo 31 (wr ((rat g 21 5 a1) * a2)))] [] rfl (ev_Row_set rfl rfl _ _ _) ?_
  show Ev 59 23 [some (.inr (.inr 7)), some (.inl a1), some (.inl a2), some (.inl a3)] [] (rset g 21 5 a1 (St_upTo 31 (wr ((rat g 21 5 a1) * a2)))) _ _
  refine ev_runs 7 (23, [some (.inr (.inr 7)), some (.inl a1), some (.inl a2), some (.inl a3)], [], (rset g 21 5 a1 (St_upTo 31 (wr ((rat g 21 5 a1) * a2))))) (35, [some (.inr (.inr 7)), some (.inl a1), some (.inl a2), some (.inl a3)], [.inl a1, .inr (.inr 22), .inl 25, .inl a1, .inr (.inr 22)], (rset g 21 5 a1 (St_upTo 31 (wr ((rat g 21 5 a1) * a2))))) rfl ?_
  refine ec 13 38 [.inr (.inr 22), .inl a1] [.inl 25, .inl a1, .inr (.inr 22)] rfl (ev_Row_at rfl rfl _ _) ?_
  show Ev 59 38 [some (.inr (.inr 7)), some (.inl a1), some (.inl a2), some (.inl a3)] [.inl (rat g 23 5 a1), .inl 25, .inl a1, .inr (.inr 22)] (rset g 21 5 a1 (St_upTo 31 (wr ((rat g 21 5 a1) * a2)))) _ _
  refine ev_runs 2 (38, [some (.inr (.inr 7)), some (.inl a1), some (.inl a2), some (.inl a3)], [.inl (rat g 23 5 a1), .inl 25, .inl a1, .inr (.inr 22)], (rset g 21 5 a1 (St_upTo 31 (wr ((rat g 21 5 a1) * a2))))) (40, [some (.inr (.inr 7)), some (.inl a1), some (.inl a2), some (.inl a3)], [.inl (wr ((rat g 23 5 a1) + a3)), .inl 25, .inl a1, .inr (.inr 22)], (rset g 21 5 a1 (St_upTo 31 (wr ((rat g 21 5 a1) * a2))))) rfl ?_
  refine ec 55 43 [.inl 25, .inl (wr ((rat g 23 5 a1) + a3))] [.inl a1, .inr (.inr 22)] rfl (ev_St_upTo 25 (wr ((rat g 23 5 a1) + a3)) (rset g 21 5 a1 (St_upTo 31 (wr ((rat g 21 5 a1) * a2)))) _ rfl) ?_
  show Ev 59 43 [some (.inr (.inr 7)), some (.inl a1), some (.inl a2), some (.inl a3)] [.inl (St_upTo 25 (wr ((rat g 23 5 a1) + a3))), .inl a1, .inr (.inr 22)] (rset g 21 5 a1 (St_upTo 31 (wr ((rat g 21 5 a1) * a2)))) _ _
  refine ec 0 46 [.inr (.inr 22), .inl a1, .inl (St_upTo 25 (wr ((rat g 23 5 a1) + a3)))] [] rfl (ev_Row_set rfl rfl _ _ _) ?_
  show Ev 59 46 [some (.inr (.inr 7)), some (.inl a1), some (.inl a2), some (.inl a3)] [] (rset (rset g 21 5 a1 (St_upTo 31 (wr ((rat g 21 5 a1) * a2)))) 23 5 a1 (St_upTo 25 (wr ((rat g 23 5 a1) + a3)))) _ _
  subst h
  exact er rfl
def St_isTooMuch_l182 (c1 : Int) (c2 : Int) (c3 : Int) (K182_226 : Gx → Option (Int × Gx)) : Nat → Int → Gx → Option (Int × Gx)
  | 0, _, _ => none
  | n182 + 1, v5, g =>
    if (rat g 11 160 c3) ≤ v5 then
      K182_226 g
    else
      lett (St_addItem c2 (rat g 21 5 (wr (c2 + 1))) (rat g 23 5 (wr (c2 + 1))) g) (fun g3 =>
      St_isTooMuch_l182 c1 c2 c3 K182_226 n182 (wr (v5 + 1)) g3)
def St_isTooMuch_l9 (c1 : Int) (K9_232 : Gx → Option (Int × Gx)) : Nat → Int → Int → Gx → Option (Int × Gx)
  | 0, _, _, _ => none
  | n9 + 1, v2, v3, g =>
    if (g 7 10) ≤ v3 then
      K9_232 g
    else
      if ¬ (rat g 9 160 v3) = 0 then
        if (rat g 9 160 v3) = 1 then
          lett (St_beginItems (wr (v2 + 1)) g) (fun g2 =>
          St_isTooMuch_l9 c1 K9_232 n9 (wr (v2 + 1)) (wr (v3 + 1)) (rset (rset g2 25 5 (wr (v2 + 1)) 0) 27 5 (wr (v2 + 1)) 0))
        else
          if ¬ (rat g 9 160 v3) = 4 then
            if ¬ (rat g 9 160 v3) = 2 then
              if ¬ (rat g 9 160 v3) = 3 then
                St_isTooMuch_l182 c1 (wr (v2 + (-1))) v3
                  (fun g4 =>
                    St_isTooMuch_l9 c1 K9_232 n9 (wr (v2 + (-1))) (wr (v3 + 1)) g4)
                  fu 0 g
              else
                lett (St_endWay v2 g) (fun g5 =>
                lett (St_addItem (wr (v2 + (-1))) (rat g5 25 5 (wr ((wr (v2 + (-1))) + 1))) (wr ((rat g5 27 5 (wr ((wr (v2 + (-1))) + 1))) + (Ji_bitCount (St_toldOf (rat g5 11 160 v3) c1 g5)))) g5) (fun g6 =>
                St_isTooMuch_l9 c1 K9_232 n9 (wr (v2 + (-1))) (wr (v3 + 1)) g6))
            else
              lett (St_endWay v2 g) (fun g7 =>
              St_isTooMuch_l9 c1 K9_232 n9 v2 (wr (v3 + 1)) g7)
          else
            lett (St_beginItems (wr (v2 + 1)) g) (fun g8 =>
            St_isTooMuch_l9 c1 K9_232 n9 (wr (v2 + 1)) (wr (v3 + 1)) (rset (rset g8 25 5 (wr (v2 + 1)) 0) 27 5 (wr (v2 + 1)) 0))
      else
        St_isTooMuch_l9 c1 K9_232 n9 v2 (wr (v3 + 1)) (rset g 23 5 v2 (St_upTo 25 (wr ((rat g 23 5 v2) + 1))))
def St_isTooMuch (a1 : Int) (g : Gx) : Option (Int × Gx) :=
  lett (St_beginItems 0 g) (fun g1 =>
  St_isTooMuch_l9 a1
    (fun g9 =>
      if 30 < (rat g9 21 5 0) then
        some (1, g9)
      else
        if (rat g9 23 5 0) ≤ 24 then
          some (0, g9)
        else
          some (1, g9))
    fu 0 0 g1)
set_option maxRecDepth 100000 in
set_option maxHeartbeats 4000000 in
theorem ev_St_isTooMuch_l182 (c1 : Int) (c2 : Int) (c3 : Int) (K182_226 : Gx → Option (Int × Gx)) (hK182_226 : ∀ (g : Gx) (r : Int) (g' : Gx), K182_226 g = some (r, g') → Ev 60 226 [some (.inr (.inr 7)), some (.inl c1), some (.inl c2), some (.inl c3), none, none] [] g (some (.inl r)) g') : ∀ (n182 : Nat) (v5 : Int) (g : Gx) (r : Int) (g' : Gx), St_isTooMuch_l182 c1 c2 c3 K182_226 n182 v5 g = some (r, g') → Ev 60 182 [some (.inr (.inr 7)), some (.inl c1), some (.inl c2), some (.inl c3), none, some (.inl v5)] [] g (some (.inl r)) g' := by
  intro n182
  induction n182 with
  | zero => intro v5 g r g' h; cases h
  | succ n182 ih182 =>
    intro v5 g r g' h
    rw [St_isTooMuch_l182] at h
    refine ev_runs 4 (182, [some (.inr (.inr 7)), some (.inl c1), some (.inl c2), some (.inl c3), none, some (.inl v5)], [], g) (189, [some (.inr (.inr 7)), some (.inl c1), some (.inl c2), some (.inl c3), none, some (.inl v5)], [.inl c3, .inr (.inr 10), .inl v5], g) rfl ?_
    refine ec 13 192 [.inr (.inr 10), .inl c3] [.inl v5] rfl (ev_Row_at rfl rfl _ _) ?_
    show Ev 60 192 [some (.inr (.inr 7)), some (.inl c1), some (.inl c2), some (.inl c3), none, some (.inl v5)] [.inl (rat g 11 160 c3), .inl v5] g _ _
    by_cases hc : (rat g 11 160 c3) ≤ v5
    · rw [if_pos hc] at h
      refine es (226, [some (.inr (.inr 7)), some (.inl c1), some (.inl c2), some (.inl c3), none, some (.inl v5)], [], g) (congrArg some (if_pos hc)) ?_
      exact ev_le (L := [some (.inr (.inr 7)), some (.inl c1), some (.inl c2), some (.inl c3), none, none]) (by simp [Lle]) (hK182_226 g r g' h)
    · rw [if_neg hc] at h
      refine es (195, [some (.inr (.inr 7)), some (.inl c1), some (.inl c2), some (.inl c3), none, some (.inl v5)], [], g) (congrArg some (if_neg hc)) ?_
      refine ev_runs 7 (195, [some (.inr (.inr 7)), some (.inl c1), some (.inl c2), some (.inl c3), none, some (.inl v5)], [], g) (204, [some (.inr (.inr 7)), some (.inl c1), some (.inl c2), some (.inl c3), none, some (.inl v5)], [.inl (wr (c2 + 1)), .inr (.inr 20), .inl c2, .inr (.inr 7)], g) rfl ?_
      refine ec 13 207 [.inr (.inr 20), .inl (wr (c2 + 1))] [.inl c2, .inr (.inr 7)] rfl (ev_Row_at rfl rfl _ _) ?_
      show Ev 60 207 [some (.inr (.inr 7)), some (.inl c1), some (.inl c2), some (.inl c3), none, some (.inl v5)] [.inl (rat g 21 5 (wr (c2 + 1))), .inl c2, .inr (.inr 7)] g _ _
      refine ev_runs 5 (207, [some (.inr (.inr 7)), some (.inl c1), some (.inl c2), some (.inl c3), none, some (.inl v5)], [.inl (rat g 21 5 (wr (c2 + 1))), .inl c2, .inr (.inr 7)], g) (214, [some (.inr (.inr 7)), some (.inl c1), some (.inl c2), some (.inl c3), none, some (.inl v5)], [.inl (wr (c2 + 1)), .inr (.inr 22), .inl (rat g 21 5 (wr (c2 + 1))), .inl c2, .inr (.inr 7)], g) rfl ?_
      refine ec 13 217 [.inr (.inr 22), .inl (wr (c2 + 1))] [.inl (rat g 21 5 (wr (c2 + 1))), .inl c2, .inr (.inr 7)] rfl (ev_Row_at rfl rfl _ _) ?_
      show Ev 60 217 [some (.inr (.inr 7)), some (.inl c1), some (.inl c2), some (.inl c3), none, some (.inl v5)] [.inl (rat g 23 5 (wr (c2 + 1))), .inl (rat g 21 5 (wr (c2 + 1))), .inl c2, .inr (.inr 7)] g _ _
      obtain ⟨g3, hq, h⟩ := lett_inv h
      refine ec 59 220 [.inr (.inr 7), .inl c2, .inl (rat g 21 5 (wr (c2 + 1))), .inl (rat g 23 5 (wr (c2 + 1)))] [] rfl (ev_St_addItem c2 (rat g 21 5 (wr (c2 + 1))) (rat g 23 5 (wr (c2 + 1))) g g3 hq.symm) ?_
      show Ev 60 220 [some (.inr (.inr 7)), some (.inl c1), some (.inl c2), some (.inl c3), none, some (.inl v5)] [] g3 _ _
      refine ev_runs 2 (220, [some (.inr (.inr 7)), some (.inl c1), some (.inl c2), some (.inl c3), none, some (.inl v5)], [], g3) (182, [some (.inr (.inr 7)), some (.inl c1), some (.inl c2), some (.inl c3), none, some (.inl (wr (v5 + 1)))], [], g3) rfl ?_
      exact ev_le (L := [some (.inr (.inr 7)), some (.inl c1), some (.inl c2), some (.inl c3), none, some (.inl (wr (v5 + 1)))]) (by simp [Lle]) (ih182 (wr (v5 + 1)) g3 r g' h)
set_option maxRecDepth 100000 in
set_option maxHeartbeats 4000000 in
theorem ev_St_isTooMuch_l9 (c1 : Int) (K9_232 : Gx → Option (Int × Gx)) (hK9_232 : ∀ (g : Gx) (r : Int) (g' : Gx), K9_232 g = some (r, g') → Ev 60 232 [some (.inr (.inr 7)), none, none, none, none, none] [] g (some (.inl r)) g') : ∀ (n9 : Nat) (v2 v3 : Int) (g : Gx) (r : Int) (g' : Gx), St_isTooMuch_l9 c1 K9_232 n9 v2 v3 g = some (r, g') → Ev 60 9 [some (.inr (.inr 7)), some (.inl c1), some (.inl v2), some (.inl v3), none, none] [] g (some (.inl r)) g' := by
  intro n9
  induction n9 with
  | zero => intro v2 v3 g r g' h; cases h
  | succ n9 ih9 =>
    intro v2 v3 g r g' h
    rw [St_isTooMuch_l9] at h
    refine ev_runs 3 (9, [some (.inr (.inr 7)), some (.inl c1), some (.inl v2), some (.inl v3), none, none], [], g) (14, [some (.inr (.inr 7)), some (.inl c1), some (.inl v2), some (.inl v3), none, none], [.inl (g 7 10), .inl v3], g) rfl ?_
    by_cases hc : (g 7 10) ≤ v3
    · rw [if_pos hc] at h
      refine es (232, [some (.inr (.inr 7)), some (.inl c1), some (.inl v2), some (.inl v3), none, none], [], g) (congrArg some (if_pos hc)) ?_
      exact ev_le (L := [some (.inr (.inr 7)), none, none, none, none, none]) (by simp [Lle]) (hK9_232 g r g' h)
    · rw [if_neg hc] at h
      refine es (17, [some (.inr (.inr 7)), some (.inl c1), some (.inl v2), some (.inl v3), none, none], [], g) (congrArg some (if_neg hc)) ?_
      refine ev_runs 3 (17, [some (.inr (.inr 7)), some (.inl c1), some (.inl v2), some (.inl v3), none, none], [], g) (22, [some (.inr (.inr 7)), some (.inl c1), some (.inl v2), some (.inl v3), none, none], [.inl v3, .inr (.inr 8)], g) rfl ?_
      refine ec 13 25 [.inr (.inr 8), .inl v3] [] rfl (ev_Row_at rfl rfl _ _) ?_
      show Ev 60 25 [some (.inr (.inr 7)), some (.inl c1), some (.inl v2), some (.inl v3), none, none] [.inl (rat g 9 160 v3)] g _ _
      refine ev_runs 2 (25, [some (.inr (.inr 7)), some (.inl c1), some (.inl v2), some (.inl v3), none, none], [.inl (rat g 9 160 v3)], g) (29, [some (.inr (.inr 7)), some (.inl c1), some (.inl v2), some (.inl v3), some (.inl (rat g 9 160 v3)), none], [.inl (rat g 9 160 v3)], g) rfl ?_
      by_cases hc : ¬ (rat g 9 160 v3) = 0
      · rw [if_pos hc] at h
        refine es (58, [some (.inr (.inr 7)), some (.inl c1), some (.inl v2), some (.inl v3), some (.inl (rat g 9 160 v3)), none], [], g) (congrArg some (if_pos hc)) ?_
        refine ev_runs 2 (58, [some (.inr (.inr 7)), some (.inl c1), some (.inl v2), some (.inl v3), some (.inl (rat g 9 160 v3)), none], [], g) (61, [some (.inr (.inr 7)), some (.inl c1), some (.inl v2), some (.inl v3), some (.inl (rat g 9 160 v3)), none], [.inl 1, .inl (rat g 9 160 v3)], g) rfl ?_
        by_cases hc : (rat g 9 160 v3) = 1
        · rw [if_pos hc] at h
          refine es (70, [some (.inr (.inr 7)), some (.inl c1), some (.inl v2), some (.inl v3), some (.inl (rat g 9 160 v3)), none], [], g) (congrArg some (if_pos hc)) ?_
          refine ev_runs 3 (70, [some (.inr (.inr 7)), some (.inl c1), some (.inl v2), some (.inl v3), some (.inl (rat g 9 160 v3)), none], [], g) (75, [some (.inr (.inr 7)), some (.inl c1), some (.inl (wr (v2 + 1))), some (.inl v3), some (.inl (rat g 9 160 v3)), none], [.inl (wr (v2 + 1)), .inr (.inr 7)], g) rfl ?_
          obtain ⟨g2, hq, h⟩ := lett_inv h
          refine ec 54 78 [.inr (.inr 7), .inl (wr (v2 + 1))] [] rfl (ev_St_beginItems (wr (v2 + 1)) g g2 hq.symm) ?_
          show Ev 60 78 [some (.inr (.inr 7)), some (.inl c1), some (.inl (wr (v2 + 1))), some (.inl v3), some (.inl (rat g 9 160 v3)), none] [] g2 _ _
          refine ev_runs 4 (78, [some (.inr (.inr 7)), some (.inl c1), some (.inl (wr (v2 + 1))), some (.inl v3), some (.inl (rat g 9 160 v3)), none], [], g2) (84, [some (.inr (.inr 7)), some (.inl c1), some (.inl (wr (v2 + 1))), some (.inl v3), some (.inl (rat g 9 160 v3)), none], [.inl 0, .inl (wr (v2 + 1)), .inr (.inr 24)], g2) rfl ?_
          refine ec 0 87 [.inr (.inr 24), .inl (wr (v2 + 1)), .inl 0] [] rfl (ev_Row_set rfl rfl _ _ _) ?_
          show Ev 60 87 [some (.inr (.inr 7)), some (.inl c1), some (.inl (wr (v2 + 1))), some (.inl v3), some (.inl (rat g 9 160 v3)), none] [] (rset g2 25 5 (wr (v2 + 1)) 0) _ _
          refine ev_runs 4 (87, [some (.inr (.inr 7)), some (.inl c1), some (.inl (wr (v2 + 1))), some (.inl v3), some (.inl (rat g 9 160 v3)), none], [], (rset g2 25 5 (wr (v2 + 1)) 0)) (93, [some (.inr (.inr 7)), some (.inl c1), some (.inl (wr (v2 + 1))), some (.inl v3), some (.inl (rat g 9 160 v3)), none], [.inl 0, .inl (wr (v2 + 1)), .inr (.inr 26)], (rset g2 25 5 (wr (v2 + 1)) 0)) rfl ?_
          refine ec 0 96 [.inr (.inr 26), .inl (wr (v2 + 1)), .inl 0] [] rfl (ev_Row_set rfl rfl _ _ _) ?_
          show Ev 60 96 [some (.inr (.inr 7)), some (.inl c1), some (.inl (wr (v2 + 1))), some (.inl v3), some (.inl (rat g 9 160 v3)), none] [] (rset (rset g2 25 5 (wr (v2 + 1)) 0) 27 5 (wr (v2 + 1)) 0) _ _
          refine ev_runs 3 (96, [some (.inr (.inr 7)), some (.inl c1), some (.inl (wr (v2 + 1))), some (.inl v3), some (.inl (rat g 9 160 v3)), none], [], (rset (rset g2 25 5 (wr (v2 + 1)) 0) 27 5 (wr (v2 + 1)) 0)) (9, [some (.inr (.inr 7)), some (.inl c1), some (.inl (wr (v2 + 1))), some (.inl (wr (v3 + 1))), some (.inl (rat g 9 160 v3)), none], [], (rset (rset g2 25 5 (wr (v2 + 1)) 0) 27 5 (wr (v2 + 1)) 0)) rfl ?_
          exact ev_le (L := [some (.inr (.inr 7)), some (.inl c1), some (.inl (wr (v2 + 1))), some (.inl (wr (v3 + 1))), none, none]) (by simp [Lle]) (ih9 (wr (v2 + 1)) (wr (v3 + 1)) (rset (rset g2 25 5 (wr (v2 + 1)) 0) 27 5 (wr (v2 + 1)) 0) r g' h)
        · rw [if_neg hc] at h
          refine es (64, [some (.inr (.inr 7)), some (.inl c1), some (.inl v2), some (.inl v3), some (.inl (rat g 9 160 v3)), none], [], g) (congrArg some (if_neg hc)) ?_
          refine ev_runs 2 (64, [some (.inr (.inr 7)), some (.inl c1), some (.inl v2), some (.inl v3), some (.inl (rat g 9 160 v3)), none], [], g) (67, [some (.inr (.inr 7)), some (.inl c1), some (.inl v2), some (.inl v3), some (.inl (rat g 9 160 v3)), none], [.inl 4, .inl (rat g 9 160 v3)], g) rfl ?_
          by_cases hc : ¬ (rat g 9 160 v3) = 4
          · rw [if_pos hc] at h
            refine es (99, [some (.inr (.inr 7)), some (.inl c1), some (.inl v2), some (.inl v3), some (.inl (rat g 9 160 v3)), none], [], g) (congrArg some (if_pos hc)) ?_
            refine ev_runs 2 (99, [some (.inr (.inr 7)), some (.inl c1), some (.inl v2), some (.inl v3), some (.inl (rat g 9 160 v3)), none], [], g) (102, [some (.inr (.inr 7)), some (.inl c1), some (.inl v2), some (.inl v3), some (.inl (rat g 9 160 v3)), none], [.inl 2, .inl (rat g 9 160 v3)], g) rfl ?_
            by_cases hc : ¬ (rat g 9 160 v3) = 2
            · rw [if_pos hc] at h
              refine es (113, [some (.inr (.inr 7)), some (.inl c1), some (.inl v2), some (.inl v3), some (.inl (rat g 9 160 v3)), none], [], g) (congrArg some (if_pos hc)) ?_
              refine ev_runs 2 (113, [some (.inr (.inr 7)), some (.inl c1), some (.inl v2), some (.inl v3), some (.inl (rat g 9 160 v3)), none], [], g) (116, [some (.inr (.inr 7)), some (.inl c1), some (.inl v2), some (.inl v3), some (.inl (rat g 9 160 v3)), none], [.inl 3, .inl (rat g 9 160 v3)], g) rfl ?_
              by_cases hc : ¬ (rat g 9 160 v3) = 3
              · rw [if_pos hc] at h
                refine es (176, [some (.inr (.inr 7)), some (.inl c1), some (.inl v2), some (.inl v3), some (.inl (rat g 9 160 v3)), none], [], g) (congrArg some (if_pos hc)) ?_
                refine ev_runs 3 (176, [some (.inr (.inr 7)), some (.inl c1), some (.inl v2), some (.inl v3), some (.inl (rat g 9 160 v3)), none], [], g) (182, [some (.inr (.inr 7)), some (.inl c1), some (.inl (wr (v2 + (-1)))), some (.inl v3), some (.inl (rat g 9 160 v3)), some (.inl 0)], [], g) rfl ?_
                refine ev_le (L := [some (.inr (.inr 7)), some (.inl c1), some (.inl (wr (v2 + (-1)))), some (.inl v3), none, some (.inl 0)]) (by simp [Lle]) ?_
                refine ev_St_isTooMuch_l182 c1 (wr (v2 + (-1))) v3 _ ?_ fu 0 g r g' h
                · intro g4 r g' h
                  refine ev_runs 2 (226, [some (.inr (.inr 7)), some (.inl c1), some (.inl (wr (v2 + (-1)))), some (.inl v3), none, none], [], g4) (9, [some (.inr (.inr 7)), some (.inl c1), some (.inl (wr (v2 + (-1)))), some (.inl (wr (v3 + 1))), none, none], [], g4) rfl ?_
                  exact ev_le (L := [some (.inr (.inr 7)), some (.inl c1), some (.inl (wr (v2 + (-1)))), some (.inl (wr (v3 + 1))), none, none]) (by simp [Lle]) (ih9 (wr (v2 + (-1))) (wr (v3 + 1)) g4 r g' h)
              · rw [if_neg hc] at h
                refine es (119, [some (.inr (.inr 7)), some (.inl c1), some (.inl v2), some (.inl v3), some (.inl (rat g 9 160 v3)), none], [], g) (congrArg some (if_neg hc)) ?_
                refine ev_runs 2 (119, [some (.inr (.inr 7)), some (.inl c1), some (.inl v2), some (.inl v3), some (.inl (rat g 9 160 v3)), none], [], g) (121, [some (.inr (.inr 7)), some (.inl c1), some (.inl v2), some (.inl v3), some (.inl (rat g 9 160 v3)), none], [.inl v2, .inr (.inr 7)], g) rfl ?_
                obtain ⟨g5, hq, h⟩ := lett_inv h
                refine ec 56 124 [.inr (.inr 7), .inl v2] [] rfl (ev_St_endWay v2 g g5 hq.symm) ?_
                show Ev 60 124 [some (.inr (.inr 7)), some (.inl c1), some (.inl v2), some (.inl v3), some (.inl (rat g 9 160 v3)), none] [] g5 _ _
                refine ev_runs 5 (124, [some (.inr (.inr 7)), some (.inl c1), some (.inl v2), some (.inl v3), some (.inl (rat g 9 160 v3)), none], [], g5) (133, [some (.inr (.inr 7)), some (.inl c1), some (.inl (wr (v2 + (-1)))), some (.inl v3), some (.inl (rat g 9 160 v3)), none], [.inl v3, .inr (.inr 10), .inr (.inr 7)], g5) rfl ?_
                refine ec 13 136 [.inr (.inr 10), .inl v3] [.inr (.inr 7)] rfl (ev_Row_at rfl rfl _ _) ?_
                show Ev 60 136 [some (.inr (.inr 7)), some (.inl c1), some (.inl (wr (v2 + (-1)))), some (.inl v3), some (.inl (rat g 9 160 v3)), none] [.inl (rat g5 11 160 v3), .inr (.inr 7)] g5 _ _
                refine ev_runs 1 (136, [some (.inr (.inr 7)), some (.inl c1), some (.inl (wr (v2 + (-1)))), some (.inl v3), some (.inl (rat g 9 160 v3)), none], [.inl (rat g5 11 160 v3), .inr (.inr 7)], g5) (137, [some (.inr (.inr 7)), some (.inl c1), some (.inl (wr (v2 + (-1)))), some (.inl v3), some (.inl (rat g 9 160 v3)), none], [.inl c1, .inl (rat g5 11 160 v3), .inr (.inr 7)], g5) rfl ?_
                refine ec 57 140 [.inr (.inr 7), .inl (rat g5 11 160 v3), .inl c1] [] rfl (ev_St_toldOf (rat g5 11 160 v3) c1 g5 _ rfl) ?_
                show Ev 60 140 [some (.inr (.inr 7)), some (.inl c1), some (.inl (wr (v2 + (-1)))), some (.inl v3), some (.inl (rat g 9 160 v3)), none] [.inl (St_toldOf (rat g5 11 160 v3) c1 g5)] g5 _ _
                refine ec 58 143 [.inl (St_toldOf (rat g5 11 160 v3) c1 g5)] [] rfl (ev_Ji_bitCount (St_toldOf (rat g5 11 160 v3) c1 g5) g5 _ rfl) ?_
                show Ev 60 143 [some (.inr (.inr 7)), some (.inl c1), some (.inl (wr (v2 + (-1)))), some (.inl v3), some (.inl (rat g 9 160 v3)), none] [.inl (Ji_bitCount (St_toldOf (rat g5 11 160 v3) c1 g5))] g5 _ _
                refine ev_runs 8 (143, [some (.inr (.inr 7)), some (.inl c1), some (.inl (wr (v2 + (-1)))), some (.inl v3), some (.inl (rat g 9 160 v3)), none], [.inl (Ji_bitCount (St_toldOf (rat g5 11 160 v3) c1 g5))], g5) (154, [some (.inr (.inr 7)), some (.inl c1), some (.inl (wr (v2 + (-1)))), some (.inl v3), some (.inl (rat g 9 160 v3)), some (.inl (Ji_bitCount (St_toldOf (rat g5 11 160 v3) c1 g5)))], [.inl (wr ((wr (v2 + (-1))) + 1)), .inr (.inr 24), .inl (wr (v2 + (-1))), .inr (.inr 7)], g5) rfl ?_
                refine ec 13 157 [.inr (.inr 24), .inl (wr ((wr (v2 + (-1))) + 1))] [.inl (wr (v2 + (-1))), .inr (.inr 7)] rfl (ev_Row_at rfl rfl _ _) ?_
                show Ev 60 157 [some (.inr (.inr 7)), some (.inl c1), some (.inl (wr (v2 + (-1)))), some (.inl v3), some (.inl (rat g 9 160 v3)), some (.inl (Ji_bitCount (St_toldOf (rat g5 11 160 v3) c1 g5)))] [.inl (rat g5 25 5 (wr ((wr (v2 + (-1))) + 1))), .inl (wr (v2 + (-1))), .inr (.inr 7)] g5 _ _
                refine ev_runs 5 (157, [some (.inr (.inr 7)), some (.inl c1), some (.inl (wr (v2 + (-1)))), some (.inl v3), some (.inl (rat g 9 160 v3)), some (.inl (Ji_bitCount (St_toldOf (rat g5 11 160 v3) c1 g5)))], [.inl (rat g5 25 5 (wr ((wr (v2 + (-1))) + 1))), .inl (wr (v2 + (-1))), .inr (.inr 7)], g5) (164, [some (.inr (.inr 7)), some (.inl c1), some (.inl (wr (v2 + (-1)))), some (.inl v3), some (.inl (rat g 9 160 v3)), some (.inl (Ji_bitCount (St_toldOf (rat g5 11 160 v3) c1 g5)))], [.inl (wr ((wr (v2 + (-1))) + 1)), .inr (.inr 26), .inl (rat g5 25 5 (wr ((wr (v2 + (-1))) + 1))), .inl (wr (v2 + (-1))), .inr (.inr 7)], g5) rfl ?_
                refine ec 13 167 [.inr (.inr 26), .inl (wr ((wr (v2 + (-1))) + 1))] [.inl (rat g5 25 5 (wr ((wr (v2 + (-1))) + 1))), .inl (wr (v2 + (-1))), .inr (.inr 7)] rfl (ev_Row_at rfl rfl _ _) ?_
                show Ev 60 167 [some (.inr (.inr 7)), some (.inl c1), some (.inl (wr (v2 + (-1)))), some (.inl v3), some (.inl (rat g 9 160 v3)), some (.inl (Ji_bitCount (St_toldOf (rat g5 11 160 v3) c1 g5)))] [.inl (rat g5 27 5 (wr ((wr (v2 + (-1))) + 1))), .inl (rat g5 25 5 (wr ((wr (v2 + (-1))) + 1))), .inl (wr (v2 + (-1))), .inr (.inr 7)] g5 _ _
                refine ev_runs 2 (167, [some (.inr (.inr 7)), some (.inl c1), some (.inl (wr (v2 + (-1)))), some (.inl v3), some (.inl (rat g 9 160 v3)), some (.inl (Ji_bitCount (St_toldOf (rat g5 11 160 v3) c1 g5)))], [.inl (rat g5 27 5 (wr ((wr (v2 + (-1))) + 1))), .inl (rat g5 25 5 (wr ((wr (v2 + (-1))) + 1))), .inl (wr (v2 + (-1))), .inr (.inr 7)], g5) (170, [some (.inr (.inr 7)), some (.inl c1), some (.inl (wr (v2 + (-1)))), some (.inl v3), some (.inl (rat g 9 160 v3)), some (.inl (Ji_bitCount (St_toldOf (rat g5 11 160 v3) c1 g5)))], [.inl (wr ((rat g5 27 5 (wr ((wr (v2 + (-1))) + 1))) + (Ji_bitCount (St_toldOf (rat g5 11 160 v3) c1 g5)))), .inl (rat g5 25 5 (wr ((wr (v2 + (-1))) + 1))), .inl (wr (v2 + (-1))), .inr (.inr 7)], g5) rfl ?_
                obtain ⟨g6, hq, h⟩ := lett_inv h
                refine ec 59 173 [.inr (.inr 7), .inl (wr (v2 + (-1))), .inl (rat g5 25 5 (wr ((wr (v2 + (-1))) + 1))), .inl (wr ((rat g5 27 5 (wr ((wr (v2 + (-1))) + 1))) + (Ji_bitCount (St_toldOf (rat g5 11 160 v3) c1 g5))))] [] rfl (ev_St_addItem (wr (v2 + (-1))) (rat g5 25 5 (wr ((wr (v2 + (-1))) + 1))) (wr ((rat g5 27 5 (wr ((wr (v2 + (-1))) + 1))) + (Ji_bitCount (St_toldOf (rat g5 11 160 v3) c1 g5)))) g5 g6 hq.symm) ?_
                show Ev 60 173 [some (.inr (.inr 7)), some (.inl c1), some (.inl (wr (v2 + (-1)))), some (.inl v3), some (.inl (rat g 9 160 v3)), some (.inl (Ji_bitCount (St_toldOf (rat g5 11 160 v3) c1 g5)))] [] g6 _ _
                refine ev_runs 3 (173, [some (.inr (.inr 7)), some (.inl c1), some (.inl (wr (v2 + (-1)))), some (.inl v3), some (.inl (rat g 9 160 v3)), some (.inl (Ji_bitCount (St_toldOf (rat g5 11 160 v3) c1 g5)))], [], g6) (9, [some (.inr (.inr 7)), some (.inl c1), some (.inl (wr (v2 + (-1)))), some (.inl (wr (v3 + 1))), some (.inl (rat g 9 160 v3)), some (.inl (Ji_bitCount (St_toldOf (rat g5 11 160 v3) c1 g5)))], [], g6) rfl ?_
                exact ev_le (L := [some (.inr (.inr 7)), some (.inl c1), some (.inl (wr (v2 + (-1)))), some (.inl (wr (v3 + 1))), none, none]) (by simp [Lle]) (ih9 (wr (v2 + (-1))) (wr (v3 + 1)) g6 r g' h)
            · rw [if_neg hc] at h
              refine es (105, [some (.inr (.inr 7)), some (.inl c1), some (.inl v2), some (.inl v3), some (.inl (rat g 9 160 v3)), none], [], g) (congrArg some (if_neg hc)) ?_
              refine ev_runs 2 (105, [some (.inr (.inr 7)), some (.inl c1), some (.inl v2), some (.inl v3), some (.inl (rat g 9 160 v3)), none], [], g) (107, [some (.inr (.inr 7)), some (.inl c1), some (.inl v2), some (.inl v3), some (.inl (rat g 9 160 v3)), none], [.inl v2, .inr (.inr 7)], g) rfl ?_
              obtain ⟨g7, hq, h⟩ := lett_inv h
              refine ec 56 110 [.inr (.inr 7), .inl v2] [] rfl (ev_St_endWay v2 g g7 hq.symm) ?_
              show Ev 60 110 [some (.inr (.inr 7)), some (.inl c1), some (.inl v2), some (.inl v3), some (.inl (rat g 9 160 v3)), none] [] g7 _ _
              refine ev_runs 3 (110, [some (.inr (.inr 7)), some (.inl c1), some (.inl v2), some (.inl v3), some (.inl (rat g 9 160 v3)), none], [], g7) (9, [some (.inr (.inr 7)), some (.inl c1), some (.inl v2), some (.inl (wr (v3 + 1))), some (.inl (rat g 9 160 v3)), none], [], g7) rfl ?_
              exact ev_le (L := [some (.inr (.inr 7)), some (.inl c1), some (.inl v2), some (.inl (wr (v3 + 1))), none, none]) (by simp [Lle]) (ih9 v2 (wr (v3 + 1)) g7 r g' h)
          · rw [if_neg hc] at h
            refine es (70, [some (.inr (.inr 7)), some (.inl c1), some (.inl v2), some (.inl v3), some (.inl (rat g 9 160 v3)), none], [], g) (congrArg some (if_neg hc)) ?_
            refine ev_runs 3 (70, [some (.inr (.inr 7)), some (.inl c1), some (.inl v2), some (.inl v3), some (.inl (rat g 9 160 v3)), none], [], g) (75, [some (.inr (.inr 7)), some (.inl c1), some (.inl (wr (v2 + 1))), some (.inl v3), some (.inl (rat g 9 160 v3)), none], [.inl (wr (v2 + 1)), .inr (.inr 7)], g) rfl ?_
            obtain ⟨g8, hq, h⟩ := lett_inv h
            refine ec 54 78 [.inr (.inr 7), .inl (wr (v2 + 1))] [] rfl (ev_St_beginItems (wr (v2 + 1)) g g8 hq.symm) ?_
            show Ev 60 78 [some (.inr (.inr 7)), some (.inl c1), some (.inl (wr (v2 + 1))), some (.inl v3), some (.inl (rat g 9 160 v3)), none] [] g8 _ _
            refine ev_runs 4 (78, [some (.inr (.inr 7)), some (.inl c1), some (.inl (wr (v2 + 1))), some (.inl v3), some (.inl (rat g 9 160 v3)), none], [], g8) (84, [some (.inr (.inr 7)), some (.inl c1), some (.inl (wr (v2 + 1))), some (.inl v3), some (.inl (rat g 9 160 v3)), none], [.inl 0, .inl (wr (v2 + 1)), .inr (.inr 24)], g8) rfl ?_
            refine ec 0 87 [.inr (.inr 24), .inl (wr (v2 + 1)), .inl 0] [] rfl (ev_Row_set rfl rfl _ _ _) ?_
            show Ev 60 87 [some (.inr (.inr 7)), some (.inl c1), some (.inl (wr (v2 + 1))), some (.inl v3), some (.inl (rat g 9 160 v3)), none] [] (rset g8 25 5 (wr (v2 + 1)) 0) _ _
            refine ev_runs 4 (87, [some (.inr (.inr 7)), some (.inl c1), some (.inl (wr (v2 + 1))), some (.inl v3), some (.inl (rat g 9 160 v3)), none], [], (rset g8 25 5 (wr (v2 + 1)) 0)) (93, [some (.inr (.inr 7)), some (.inl c1), some (.inl (wr (v2 + 1))), some (.inl v3), some (.inl (rat g 9 160 v3)), none], [.inl 0, .inl (wr (v2 + 1)), .inr (.inr 26)], (rset g8 25 5 (wr (v2 + 1)) 0)) rfl ?_
            refine ec 0 96 [.inr (.inr 26), .inl (wr (v2 + 1)), .inl 0] [] rfl (ev_Row_set rfl rfl _ _ _) ?_
            show Ev 60 96 [some (.inr (.inr 7)), some (.inl c1), some (.inl (wr (v2 + 1))), some (.inl v3), some (.inl (rat g 9 160 v3)), none] [] (rset (rset g8 25 5 (wr (v2 + 1)) 0) 27 5 (wr (v2 + 1)) 0) _ _
            refine ev_runs 3 (96, [some (.inr (.inr 7)), some (.inl c1), some (.inl (wr (v2 + 1))), some (.inl v3), some (.inl (rat g 9 160 v3)), none], [], (rset (rset g8 25 5 (wr (v2 + 1)) 0) 27 5 (wr (v2 + 1)) 0)) (9, [some (.inr (.inr 7)), some (.inl c1), some (.inl (wr (v2 + 1))), some (.inl (wr (v3 + 1))), some (.inl (rat g 9 160 v3)), none], [], (rset (rset g8 25 5 (wr (v2 + 1)) 0) 27 5 (wr (v2 + 1)) 0)) rfl ?_
            exact ev_le (L := [some (.inr (.inr 7)), some (.inl c1), some (.inl (wr (v2 + 1))), some (.inl (wr (v3 + 1))), none, none]) (by simp [Lle]) (ih9 (wr (v2 + 1)) (wr (v3 + 1)) (rset (rset g8 25 5 (wr (v2 + 1)) 0) 27 5 (wr (v2 + 1)) 0) r g' h)
      · rw [if_neg hc] at h
        refine es (32, [some (.inr (.inr 7)), some (.inl c1), some (.inl v2), some (.inl v3), some (.inl (rat g 9 160 v3)), none], [], g) (congrArg some (if_neg hc)) ?_
        refine ev_runs 7 (32, [some (.inr (.inr 7)), some (.inl c1), some (.inl v2), some (.inl v3), some (.inl (rat g 9 160 v3)), none], [], g) (44, [some (.inr (.inr 7)), some (.inl c1), some (.inl v2), some (.inl v3), some (.inl (rat g 9 160 v3)), none], [.inl v2, .inr (.inr 22), .inl 25, .inl v2, .inr (.inr 22)], g) rfl ?_
        refine ec 13 47 [.inr (.inr 22), .inl v2] [.inl 25, .inl v2, .inr (.inr 22)] rfl (ev_Row_at rfl rfl _ _) ?_
        show Ev 60 47 [some (.inr (.inr 7)), some (.inl c1), some (.inl v2), some (.inl v3), some (.inl (rat g 9 160 v3)), none] [.inl (rat g 23 5 v2), .inl 25, .inl v2, .inr (.inr 22)] g _ _
        refine ev_runs 2 (47, [some (.inr (.inr 7)), some (.inl c1), some (.inl v2), some (.inl v3), some (.inl (rat g 9 160 v3)), none], [.inl (rat g 23 5 v2), .inl 25, .inl v2, .inr (.inr 22)], g) (49, [some (.inr (.inr 7)), some (.inl c1), some (.inl v2), some (.inl v3), some (.inl (rat g 9 160 v3)), none], [.inl (wr ((rat g 23 5 v2) + 1)), .inl 25, .inl v2, .inr (.inr 22)], g) rfl ?_
        refine ec 55 52 [.inl 25, .inl (wr ((rat g 23 5 v2) + 1))] [.inl v2, .inr (.inr 22)] rfl (ev_St_upTo 25 (wr ((rat g 23 5 v2) + 1)) g _ rfl) ?_
        show Ev 60 52 [some (.inr (.inr 7)), some (.inl c1), some (.inl v2), some (.inl v3), some (.inl (rat g 9 160 v3)), none] [.inl (St_upTo 25 (wr ((rat g 23 5 v2) + 1))), .inl v2, .inr (.inr 22)] g _ _
        refine ec 0 55 [.inr (.inr 22), .inl v2, .inl (St_upTo 25 (wr ((rat g 23 5 v2) + 1)))] [] rfl (ev_Row_set rfl rfl _ _ _) ?_
        show Ev 60 55 [some (.inr (.inr 7)), some (.inl c1), some (.inl v2), some (.inl v3), some (.inl (rat g 9 160 v3)), none] [] (rset g 23 5 v2 (St_upTo 25 (wr ((rat g 23 5 v2) + 1)))) _ _
        refine ev_runs 3 (55, [some (.inr (.inr 7)), some (.inl c1), some (.inl v2), some (.inl v3), some (.inl (rat g 9 160 v3)), none], [], (rset g 23 5 v2 (St_upTo 25 (wr ((rat g 23 5 v2) + 1))))) (9, [some (.inr (.inr 7)), some (.inl c1), some (.inl v2), some (.inl (wr (v3 + 1))), some (.inl (rat g 9 160 v3)), none], [], (rset g 23 5 v2 (St_upTo 25 (wr ((rat g 23 5 v2) + 1))))) rfl ?_
        exact ev_le (L := [some (.inr (.inr 7)), some (.inl c1), some (.inl v2), some (.inl (wr (v3 + 1))), none, none]) (by simp [Lle]) (ih9 v2 (wr (v3 + 1)) (rset g 23 5 v2 (St_upTo 25 (wr ((rat g 23 5 v2) + 1)))) r g' h)
set_option maxRecDepth 100000 in
set_option maxHeartbeats 4000000 in
theorem ev_St_isTooMuch (a1 : Int) (g : Gx) (r : Int) (g' : Gx) (h : St_isTooMuch a1 g = some (r, g')) : Ev 60 0 [some (.inr (.inr 7)), some (.inl a1), none, none, none, none] [] g (some (.inl r)) g' := by
  rw [St_isTooMuch] at h
  refine ev_runs 4 (0, [some (.inr (.inr 7)), some (.inl a1), none, none, none, none], [], g) (4, [some (.inr (.inr 7)), some (.inl a1), some (.inl 0), none, none, none], [.inl 0, .inr (.inr 7)], g) rfl ?_
  obtain ⟨g1, hq, h⟩ := lett_inv h
  refine ec 54 7 [.inr (.inr 7), .inl 0] [] rfl (ev_St_beginItems 0 g g1 hq.symm) ?_
  show Ev 60 7 [some (.inr (.inr 7)), some (.inl a1), some (.inl 0), none, none, none] [] g1 _ _
  refine ev_runs 2 (7, [some (.inr (.inr 7)), some (.inl a1), some (.inl 0), none, none, none], [], g1) (9, [some (.inr (.inr 7)), some (.inl a1), some (.inl 0), some (.inl 0), none, none], [], g1) rfl ?_
  refine ev_le (L := [some (.inr (.inr 7)), some (.inl a1), some (.inl 0), some (.inl 0), none, none]) (by simp [Lle]) ?_
  refine ev_St_isTooMuch_l9 a1 _ ?_ fu 0 0 g1 r g' h
  · intro g9 r g' h
    refine ev_runs 3 (232, [some (.inr (.inr 7)), none, none, none, none, none], [], g9) (237, [some (.inr (.inr 7)), none, none, none, none, none], [.inl 0, .inr (.inr 20)], g9) rfl ?_
    refine ec 13 240 [.inr (.inr 20), .inl 0] [] rfl (ev_Row_at rfl rfl _ _) ?_
    show Ev 60 240 [some (.inr (.inr 7)), none, none, none, none, none] [.inl (rat g9 21 5 0)] g9 _ _
    refine ev_runs 1 (240, [some (.inr (.inr 7)), none, none, none, none, none], [.inl (rat g9 21 5 0)], g9) (242, [some (.inr (.inr 7)), none, none, none, none, none], [.inl 30, .inl (rat g9 21 5 0)], g9) rfl ?_
    by_cases hc : 30 < (rat g9 21 5 0)
    · rw [if_pos hc] at h
      refine es (258, [some (.inr (.inr 7)), none, none, none, none, none], [], g9) (congrArg some (if_pos hc)) ?_
      refine ev_runs 2 (258, [some (.inr (.inr 7)), none, none, none, none, none], [], g9) (263, [some (.inr (.inr 7)), none, none, none, none, none], [.inl 1], g9) rfl ?_
      cases h
      exact er rfl
    · rw [if_neg hc] at h
      refine es (245, [some (.inr (.inr 7)), none, none, none, none, none], [], g9) (congrArg some (if_neg hc)) ?_
      refine ev_runs 3 (245, [some (.inr (.inr 7)), none, none, none, none, none], [], g9) (250, [some (.inr (.inr 7)), none, none, none, none, none], [.inl 0, .inr (.inr 22)], g9) rfl ?_
      refine ec 13 253 [.inr (.inr 22), .inl 0] [] rfl (ev_Row_at rfl rfl _ _) ?_
      show Ev 60 253 [some (.inr (.inr 7)), none, none, none, none, none] [.inl (rat g9 23 5 0)] g9 _ _
      refine ev_runs 1 (253, [some (.inr (.inr 7)), none, none, none, none, none], [.inl (rat g9 23 5 0)], g9) (255, [some (.inr (.inr 7)), none, none, none, none, none], [.inl 24, .inl (rat g9 23 5 0)], g9) rfl ?_
      by_cases hc : (rat g9 23 5 0) ≤ 24
      · rw [if_pos hc] at h
        refine es (262, [some (.inr (.inr 7)), none, none, none, none, none], [], g9) (congrArg some (if_pos hc)) ?_
        refine ev_runs 1 (262, [some (.inr (.inr 7)), none, none, none, none, none], [], g9) (263, [some (.inr (.inr 7)), none, none, none, none, none], [.inl 0], g9) rfl ?_
        cases h
        exact er rfl
      · rw [if_neg hc] at h
        refine es (258, [some (.inr (.inr 7)), none, none, none, none, none], [], g9) (congrArg some (if_neg hc)) ?_
        refine ev_runs 2 (258, [some (.inr (.inr 7)), none, none, none, none, none], [], g9) (263, [some (.inr (.inr 7)), none, none, none, none, none], [.inl 1], g9) rfl ?_
        cases h
        exact er rfl
def St_value (a1 : Int) (g : Gx) : Int :=
  (rat g 11 160 a1)
set_option maxRecDepth 100000 in
set_option maxHeartbeats 4000000 in
theorem ev_St_value (a1 : Int) (g : Gx) (r : Int) (h : St_value a1 g = r) : Ev 61 0 [some (.inr (.inr 7)), some (.inl a1)] [] g (some (.inl r)) g := by
  rw [St_value] at h
  refine ev_runs 3 (0, [some (.inr (.inr 7)), some (.inl a1)], [], g) (5, [some (.inr (.inr 7)), some (.inl a1)], [.inl a1, .inr (.inr 10)], g) rfl ?_
  refine ec 13 8 [.inr (.inr 10), .inl a1] [] rfl (ev_Row_at rfl rfl _ _) ?_
  show Ev 61 8 [some (.inr (.inr 7)), some (.inl a1)] [.inl (rat g 11 160 a1)] g _ _
  subst h
  exact er rfl
def St_kind (a1 : Int) (g : Gx) : Int :=
  (rat g 9 160 a1)
set_option maxRecDepth 100000 in
set_option maxHeartbeats 4000000 in
theorem ev_St_kind (a1 : Int) (g : Gx) (r : Int) (h : St_kind a1 g = r) : Ev 62 0 [some (.inr (.inr 7)), some (.inl a1)] [] g (some (.inl r)) g := by
  rw [St_kind] at h
  refine ev_runs 3 (0, [some (.inr (.inr 7)), some (.inl a1)], [], g) (5, [some (.inr (.inr 7)), some (.inl a1)], [.inl a1, .inr (.inr 8)], g) rfl ?_
  refine ec 13 8 [.inr (.inr 8), .inl a1] [] rfl (ev_Row_at rfl rfl _ _) ?_
  show Ev 62 8 [some (.inr (.inr 7)), some (.inl a1)] [.inl (rat g 9 160 a1)] g _ _
  subst h
  exact er rfl
def Hi_say (a1 a2 : Int) (g : Gx) : Gx :=
  if 24 ≤ (rat g 37 30 a1) then
    g
  else
    (rset (rset g 35 720 (wr ((wr (a1 * 24)) + (rat g 37 30 a1))) a2) 37 30 a1 (wr ((rat g 37 30 a1) + 1)))
set_option maxRecDepth 100000 in
set_option maxHeartbeats 4000000 in
theorem ev_Hi_say (a1 a2 : Int) (g : Gx) (g' : Gx) (h : Hi_say a1 a2 g = g') : Ev 63 0 [some (.inr (.inr 33)), some (.inl a1), some (.inl a2), none] [] g none g' := by
  rw [Hi_say] at h
  refine ev_runs 3 (0, [some (.inr (.inr 33)), some (.inl a1), some (.inl a2), none], [], g) (5, [some (.inr (.inr 33)), some (.inl a1), some (.inl a2), none], [.inl a1, .inr (.inr 36)], g) rfl ?_
  refine ec 13 8 [.inr (.inr 36), .inl a1] [] rfl (ev_Row_at rfl rfl _ _) ?_
  show Ev 63 8 [some (.inr (.inr 33)), some (.inl a1), some (.inl a2), none] [.inl (rat g 37 30 a1)] g _ _
  refine ev_runs 3 (8, [some (.inr (.inr 33)), some (.inl a1), some (.inl a2), none], [.inl (rat g 37 30 a1)], g) (12, [some (.inr (.inr 33)), some (.inl a1), some (.inl a2), some (.inl (rat g 37 30 a1))], [.inl 24, .inl (rat g 37 30 a1)], g) rfl ?_
  by_cases hc : 24 ≤ (rat g 37 30 a1)
  · rw [if_pos hc] at h
    refine es (40, [some (.inr (.inr 33)), some (.inl a1), some (.inl a2), some (.inl (rat g 37 30 a1))], [], g) (congrArg some (if_pos hc)) ?_
    subst h
    exact er rfl
  · rw [if_neg hc] at h
    refine es (15, [some (.inr (.inr 33)), some (.inl a1), some (.inl a2), some (.inl (rat g 37 30 a1))], [], g) (congrArg some (if_neg hc)) ?_
    refine ev_runs 8 (15, [some (.inr (.inr 33)), some (.inl a1), some (.inl a2), some (.inl (rat g 37 30 a1))], [], g) (26, [some (.inr (.inr 33)), some (.inl a1), some (.inl a2), some (.inl (rat g 37 30 a1))], [.inl a2, .inl (wr ((wr (a1 * 24)) + (rat g 37 30 a1))), .inr (.inr 34)], g) rfl ?_
    refine ec 0 29 [.inr (.inr 34), .inl (wr ((wr (a1 * 24)) + (rat g 37 30 a1))), .inl a2] [] rfl (ev_Row_set rfl rfl _ _ _) ?_
    show Ev 63 29 [some (.inr (.inr 33)), some (.inl a1), some (.inl a2), some (.inl (rat g 37 30 a1))] [] (rset g 35 720 (wr ((wr (a1 * 24)) + (rat g 37 30 a1))) a2) _ _
    refine ev_runs 6 (29, [some (.inr (.inr 33)), some (.inl a1), some (.inl a2), some (.inl (rat g 37 30 a1))], [], (rset g 35 720 (wr ((wr (a1 * 24)) + (rat g 37 30 a1))) a2)) (37, [some (.inr (.inr 33)), some (.inl a1), some (.inl a2), some (.inl (rat g 37 30 a1))], [.inl (wr ((rat g 37 30 a1) + 1)), .inl a1, .inr (.inr 36)], (rset g 35 720 (wr ((wr (a1 * 24)) + (rat g 37 30 a1))) a2)) rfl ?_
    refine ec 0 40 [.inr (.inr 36), .inl a1, .inl (wr ((rat g 37 30 a1) + 1))] [] rfl (ev_Row_set rfl rfl _ _ _) ?_
    show Ev 63 40 [some (.inr (.inr 33)), some (.inl a1), some (.inl a2), some (.inl (rat g 37 30 a1))] [] (rset (rset g 35 720 (wr ((wr (a1 * 24)) + (rat g 37 30 a1))) a2) 37 30 a1 (wr ((rat g 37 30 a1) + 1))) _ _
    subst h
    exact er rfl
def Op_has (a0 a1 : Int) : Int :=
  if (jand (jshr a0 a1) 1) = 0 then
    0
  else
    1
set_option maxRecDepth 100000 in
set_option maxHeartbeats 4000000 in
theorem ev_Op_has (a0 a1 : Int) (g : Gx) (r : Int) (h : Op_has a0 a1 = r) : Ev 64 0 [some (.inl a0), some (.inl a1)] [] g (some (.inl r)) g := by
  rw [Op_has] at h
  refine ev_runs 5 (0, [some (.inl a0), some (.inl a1)], [], g) (5, [some (.inl a0), some (.inl a1)], [.inl (jand (jshr a0 a1) 1)], g) rfl ?_
  by_cases hc : (jand (jshr a0 a1) 1) = 0
  · rw [if_pos hc] at h
    refine es (12, [some (.inl a0), some (.inl a1)], [], g) (congrArg some (if_pos hc)) ?_
    refine ev_runs 1 (12, [some (.inl a0), some (.inl a1)], [], g) (13, [some (.inl a0), some (.inl a1)], [.inl 0], g) rfl ?_
    subst h
    exact er rfl
  · rw [if_neg hc] at h
    refine es (8, [some (.inl a0), some (.inl a1)], [], g) (congrArg some (if_neg hc)) ?_
    refine ev_runs 2 (8, [some (.inl a0), some (.inl a1)], [], g) (13, [some (.inl a0), some (.inl a1)], [.inl 1], g) rfl ?_
    subst h
    exact er rfl
theorem bo_Op_has (a0 a1 : Int) : (Op_has a0 a1) = 0 ∨ (Op_has a0 a1) = 1 := by
  simp only [Op_has, lett]
  (repeat' split) <;> first | exact Or.inl rfl | exact Or.inr rfl | exact Or.inl trivial | exact Or.inr trivial
def St_chooser (a1 : Int) (g : Gx) : Int :=
  (rat g 13 40 a1)
set_option maxRecDepth 100000 in
set_option maxHeartbeats 4000000 in
theorem ev_St_chooser (a1 : Int) (g : Gx) (r : Int) (h : St_chooser a1 g = r) : Ev 65 0 [some (.inr (.inr 7)), some (.inl a1)] [] g (some (.inl r)) g := by
  rw [St_chooser] at h
  refine ev_runs 3 (0, [some (.inr (.inr 7)), some (.inl a1)], [], g) (5, [some (.inr (.inr 7)), some (.inl a1)], [.inl a1, .inr (.inr 12)], g) rfl ?_
  refine ec 13 8 [.inr (.inr 12), .inl a1] [] rfl (ev_Row_at rfl rfl _ _) ?_
  show Ev 65 8 [some (.inr (.inr 7)), some (.inl a1)] [.inl (rat g 13 40 a1)] g _ _
  subst h
  exact er rfl
def Hi_choose_l82 (c1 : Int) (c2 : Int) (c4 : Int) (c5 : Int) (K82_134 : Gx → Option (Int × Gx)) : Nat → Int → Gx → Option (Int × Gx)
  | 0, _, _ => none
  | n82 + 1, v6, g =>
    if 6 ≤ v6 then
      K82_134 g
    else
      if (Op_has c5 v6) = 0 then
        Hi_choose_l82 c1 c2 c4 c5 K82_134 n82 (wr (v6 + 1)) g
      else
        lett (Hi_say c1 (wr ((wr ((wr ((wr (1000 * (St_chooser c2 g))) + (wr (100 * v6)))) + 26)) + c4)) g) (fun g1 =>
        Hi_choose_l82 c1 c2 c4 c5 K82_134 n82 (wr (v6 + 1)) g1)
def Hi_choose (a1 a2 a3 : Int) (g : Gx) : Option (Int × Gx) :=
  if (g 33 11) < (g 33 10) then
    Hi_choose_l82 a1 a2 (rat g 39 30 (g 33 11)) (St_toldOf a2 a3 (gset g 33 11 (wr ((g 33 11) + 1))))
      (fun g2 =>
        some ((rat g 39 30 (g 33 11)), g2))
      fu 0 (gset g 33 11 (wr ((g 33 11) + 1)))
  else
    Hi_choose_l82 a1 a2 (rat (rset g 39 30 (g 33 11) 0) 39 30 (g 33 11)) (St_toldOf a2 a3 (gset (gset (rset (rset g 39 30 (g 33 11) 0) 41 30 (g 33 11) a2) 33 10 (wr ((g 33 11) + 1))) 33 11 (wr ((g 33 11) + 1))))
      (fun g3 =>
        some ((rat (rset g 39 30 (g 33 11) 0) 39 30 (g 33 11)), g3))
      fu 0 (gset (gset (rset (rset g 39 30 (g 33 11) 0) 41 30 (g 33 11) a2) 33 10 (wr ((g 33 11) + 1))) 33 11 (wr ((g 33 11) + 1)))
set_option maxRecDepth 100000 in
set_option maxHeartbeats 4000000 in
theorem ev_Hi_choose_l82 (c1 : Int) (c2 : Int) (c4 : Int) (c5 : Int) (K82_134 : Gx → Option (Int × Gx)) (hK82_134 : ∀ (g : Gx) (r : Int) (g' : Gx), K82_134 g = some (r, g') → Ev 66 134 [none, none, none, none, some (.inl c4), none, none] [] g (some (.inl r)) g') : ∀ (n82 : Nat) (v6 : Int) (g : Gx) (r : Int) (g' : Gx), Hi_choose_l82 c1 c2 c4 c5 K82_134 n82 v6 g = some (r, g') → Ev 66 82 [some (.inr (.inr 33)), some (.inl c1), some (.inl c2), none, some (.inl c4), some (.inl c5), some (.inl v6)] [] g (some (.inl r)) g' := by
  intro n82
  induction n82 with
  | zero => intro v6 g r g' h; cases h
  | succ n82 ih82 =>
    intro v6 g r g' h
    rw [Hi_choose_l82] at h
    refine ev_runs 2 (82, [some (.inr (.inr 33)), some (.inl c1), some (.inl c2), none, some (.inl c4), some (.inl c5), some (.inl v6)], [], g) (86, [some (.inr (.inr 33)), some (.inl c1), some (.inl c2), none, some (.inl c4), some (.inl c5), some (.inl v6)], [.inl 6, .inl v6], g) rfl ?_
    by_cases hc : 6 ≤ v6
    · rw [if_pos hc] at h
      refine es (134, [some (.inr (.inr 33)), some (.inl c1), some (.inl c2), none, some (.inl c4), some (.inl c5), some (.inl v6)], [], g) (congrArg some (if_pos hc)) ?_
      exact ev_le (L := [none, none, none, none, some (.inl c4), none, none]) (by simp [Lle]) (hK82_134 g r g' h)
    · rw [if_neg hc] at h
      refine es (89, [some (.inr (.inr 33)), some (.inl c1), some (.inl c2), none, some (.inl c4), some (.inl c5), some (.inl v6)], [], g) (congrArg some (if_neg hc)) ?_
      refine ev_runs 2 (89, [some (.inr (.inr 33)), some (.inl c1), some (.inl c2), none, some (.inl c4), some (.inl c5), some (.inl v6)], [], g) (93, [some (.inr (.inr 33)), some (.inl c1), some (.inl c2), none, some (.inl c4), some (.inl c5), some (.inl v6)], [.inl v6, .inl c5], g) rfl ?_
      refine ec 64 96 [.inl c5, .inl v6] [] rfl (ev_Op_has c5 v6 g _ rfl) ?_
      show Ev 66 96 [some (.inr (.inr 33)), some (.inl c1), some (.inl c2), none, some (.inl c4), some (.inl c5), some (.inl v6)] [.inl (Op_has c5 v6)] g _ _
      by_cases hc : (Op_has c5 v6) = 0
      · rw [if_pos hc] at h
        refine es (128, [some (.inr (.inr 33)), some (.inl c1), some (.inl c2), none, some (.inl c4), some (.inl c5), some (.inl v6)], [], g) (congrArg some (if_pos hc)) ?_
        refine ev_runs 2 (128, [some (.inr (.inr 33)), some (.inl c1), some (.inl c2), none, some (.inl c4), some (.inl c5), some (.inl v6)], [], g) (82, [some (.inr (.inr 33)), some (.inl c1), some (.inl c2), none, some (.inl c4), some (.inl c5), some (.inl (wr (v6 + 1)))], [], g) rfl ?_
        exact ev_le (L := [some (.inr (.inr 33)), some (.inl c1), some (.inl c2), none, some (.inl c4), some (.inl c5), some (.inl (wr (v6 + 1)))]) (by simp [Lle]) (ih82 (wr (v6 + 1)) g r g' h)
      · rw [if_neg hc] at h
        refine es (99, [some (.inr (.inr 33)), some (.inl c1), some (.inl c2), none, some (.inl c4), some (.inl c5), some (.inl v6)], [], g) (congrArg some (if_neg hc)) ?_
        refine ev_runs 6 (99, [some (.inr (.inr 33)), some (.inl c1), some (.inl c2), none, some (.inl c4), some (.inl c5), some (.inl v6)], [], g) (109, [some (.inr (.inr 33)), some (.inl c1), some (.inl c2), none, some (.inl c4), some (.inl c5), some (.inl v6)], [.inl c2, .inr (.inr 7), .inl 1000, .inl c1, .inr (.inr 33)], g) rfl ?_
        refine ec 65 112 [.inr (.inr 7), .inl c2] [.inl 1000, .inl c1, .inr (.inr 33)] rfl (ev_St_chooser c2 g _ rfl) ?_
        show Ev 66 112 [some (.inr (.inr 33)), some (.inl c1), some (.inl c2), none, some (.inl c4), some (.inl c5), some (.inl v6)] [.inl (St_chooser c2 g), .inl 1000, .inl c1, .inr (.inr 33)] g _ _
        refine ev_runs 9 (112, [some (.inr (.inr 33)), some (.inl c1), some (.inl c2), none, some (.inl c4), some (.inl c5), some (.inl v6)], [.inl (St_chooser c2 g), .inl 1000, .inl c1, .inr (.inr 33)], g) (125, [some (.inr (.inr 33)), some (.inl c1), some (.inl c2), none, some (.inl c4), some (.inl c5), some (.inl v6)], [.inl (wr ((wr ((wr ((wr (1000 * (St_chooser c2 g))) + (wr (100 * v6)))) + 26)) + c4)), .inl c1, .inr (.inr 33)], g) rfl ?_
        obtain ⟨g1, hq, h⟩ := lett_inv h
        refine ec 63 128 [.inr (.inr 33), .inl c1, .inl (wr ((wr ((wr ((wr (1000 * (St_chooser c2 g))) + (wr (100 * v6)))) + 26)) + c4))] [] rfl (ev_Hi_say c1 (wr ((wr ((wr ((wr (1000 * (St_chooser c2 g))) + (wr (100 * v6)))) + 26)) + c4)) g g1 hq.symm) ?_
        show Ev 66 128 [some (.inr (.inr 33)), some (.inl c1), some (.inl c2), none, some (.inl c4), some (.inl c5), some (.inl v6)] [] g1 _ _
        refine ev_runs 2 (128, [some (.inr (.inr 33)), some (.inl c1), some (.inl c2), none, some (.inl c4), some (.inl c5), some (.inl v6)], [], g1) (82, [some (.inr (.inr 33)), some (.inl c1), some (.inl c2), none, some (.inl c4), some (.inl c5), some (.inl (wr (v6 + 1)))], [], g1) rfl ?_
        exact ev_le (L := [some (.inr (.inr 33)), some (.inl c1), some (.inl c2), none, some (.inl c4), some (.inl c5), some (.inl (wr (v6 + 1)))]) (by simp [Lle]) (ih82 (wr (v6 + 1)) g1 r g' h)
set_option maxRecDepth 100000 in
set_option maxHeartbeats 4000000 in
theorem ev_Hi_choose (a1 a2 a3 : Int) (g : Gx) (r : Int) (g' : Gx) (h : Hi_choose a1 a2 a3 g = some (r, g')) : Ev 66 0 [some (.inr (.inr 33)), some (.inl a1), some (.inl a2), some (.inl a3), none, none, none] [] g (some (.inl r)) g' := by
  rw [Hi_choose] at h
  refine ev_runs 4 (0, [some (.inr (.inr 33)), some (.inl a1), some (.inl a2), some (.inl a3), none, none, none], [], g) (8, [some (.inr (.inr 33)), some (.inl a1), some (.inl a2), some (.inl a3), none, none, none], [.inl (g 33 10), .inl (g 33 11)], g) rfl ?_
  by_cases hc : (g 33 11) < (g 33 10)
  · rw [if_pos hc] at h
    refine es (45, [some (.inr (.inr 33)), some (.inl a1), some (.inl a2), some (.inl a3), none, none, none], [], g) (congrArg some (if_pos hc)) ?_
    refine ev_runs 4 (45, [some (.inr (.inr 33)), some (.inl a1), some (.inl a2), some (.inl a3), none, none, none], [], g) (53, [some (.inr (.inr 33)), some (.inl a1), some (.inl a2), some (.inl a3), none, none, none], [.inl (g 33 11), .inr (.inr 38)], g) rfl ?_
    refine ec 13 56 [.inr (.inr 38), .inl (g 33 11)] [] rfl (ev_Row_at rfl rfl _ _) ?_
    show Ev 66 56 [some (.inr (.inr 33)), some (.inl a1), some (.inl a2), some (.inl a3), none, none, none] [.inl (rat g 39 30 (g 33 11))] g _ _
    refine ev_runs 11 (56, [some (.inr (.inr 33)), some (.inl a1), some (.inl a2), some (.inl a3), none, none, none], [.inl (rat g 39 30 (g 33 11))], g) (74, [some (.inr (.inr 33)), some (.inl a1), some (.inl a2), some (.inl a3), some (.inl (rat g 39 30 (g 33 11))), none, none], [.inl a3, .inl a2, .inr (.inr 7)], (gset g 33 11 (wr ((g 33 11) + 1)))) rfl ?_
    refine ec 57 77 [.inr (.inr 7), .inl a2, .inl a3] [] rfl (ev_St_toldOf a2 a3 (gset g 33 11 (wr ((g 33 11) + 1))) _ rfl) ?_
    show Ev 66 77 [some (.inr (.inr 33)), some (.inl a1), some (.inl a2), some (.inl a3), some (.inl (rat g 39 30 (g 33 11))), none, none] [.inl (St_toldOf a2 a3 (gset g 33 11 (wr ((g 33 11) + 1))))] (gset g 33 11 (wr ((g 33 11) + 1))) _ _
    refine ev_runs 3 (77, [some (.inr (.inr 33)), some (.inl a1), some (.inl a2), some (.inl a3), some (.inl (rat g 39 30 (g 33 11))), none, none], [.inl (St_toldOf a2 a3 (gset g 33 11 (wr ((g 33 11) + 1))))], (gset g 33 11 (wr ((g 33 11) + 1)))) (82, [some (.inr (.inr 33)), some (.inl a1), some (.inl a2), some (.inl a3), some (.inl (rat g 39 30 (g 33 11))), some (.inl (St_toldOf a2 a3 (gset g 33 11 (wr ((g 33 11) + 1))))), some (.inl 0)], [], (gset g 33 11 (wr ((g 33 11) + 1)))) rfl ?_
    refine ev_le (L := [some (.inr (.inr 33)), some (.inl a1), some (.inl a2), none, some (.inl (rat g 39 30 (g 33 11))), some (.inl (St_toldOf a2 a3 (gset g 33 11 (wr ((g 33 11) + 1))))), some (.inl 0)]) (by simp [Lle]) ?_
    refine ev_Hi_choose_l82 a1 a2 (rat g 39 30 (g 33 11)) (St_toldOf a2 a3 (gset g 33 11 (wr ((g 33 11) + 1)))) _ ?_ fu 0 (gset g 33 11 (wr ((g 33 11) + 1))) r g' h
    · intro g2 r g' h
      refine ev_runs 1 (134, [none, none, none, none, some (.inl (rat g 39 30 (g 33 11))), none, none], [], g2) (136, [none, none, none, none, some (.inl (rat g 39 30 (g 33 11))), none, none], [.inl (rat g 39 30 (g 33 11))], g2) rfl ?_
      cases h
      exact er rfl
  · rw [if_neg hc] at h
    refine es (11, [some (.inr (.inr 33)), some (.inl a1), some (.inl a2), some (.inl a3), none, none, none], [], g) (congrArg some (if_neg hc)) ?_
    refine ev_runs 5 (11, [some (.inr (.inr 33)), some (.inl a1), some (.inl a2), some (.inl a3), none, none, none], [], g) (20, [some (.inr (.inr 33)), some (.inl a1), some (.inl a2), some (.inl a3), none, none, none], [.inl 0, .inl (g 33 11), .inr (.inr 38)], g) rfl ?_
    refine ec 0 23 [.inr (.inr 38), .inl (g 33 11), .inl 0] [] rfl (ev_Row_set rfl rfl _ _ _) ?_
    show Ev 66 23 [some (.inr (.inr 33)), some (.inl a1), some (.inl a2), some (.inl a3), none, none, none] [] (rset g 39 30 (g 33 11) 0) _ _
    refine ev_runs 5 (23, [some (.inr (.inr 33)), some (.inl a1), some (.inl a2), some (.inl a3), none, none, none], [], (rset g 39 30 (g 33 11) 0)) (32, [some (.inr (.inr 33)), some (.inl a1), some (.inl a2), some (.inl a3), none, none, none], [.inl a2, .inl (g 33 11), .inr (.inr 40)], (rset g 39 30 (g 33 11) 0)) rfl ?_
    refine ec 0 35 [.inr (.inr 40), .inl (g 33 11), .inl a2] [] rfl (ev_Row_set rfl rfl _ _ _) ?_
    show Ev 66 35 [some (.inr (.inr 33)), some (.inl a1), some (.inl a2), some (.inl a3), none, none, none] [] (rset (rset g 39 30 (g 33 11) 0) 41 30 (g 33 11) a2) _ _
    refine ev_runs 10 (35, [some (.inr (.inr 33)), some (.inl a1), some (.inl a2), some (.inl a3), none, none, none], [], (rset (rset g 39 30 (g 33 11) 0) 41 30 (g 33 11) a2)) (53, [some (.inr (.inr 33)), some (.inl a1), some (.inl a2), some (.inl a3), none, none, none], [.inl (g 33 11), .inr (.inr 38)], (gset (rset (rset g 39 30 (g 33 11) 0) 41 30 (g 33 11) a2) 33 10 (wr ((g 33 11) + 1)))) rfl ?_
    refine ec 13 56 [.inr (.inr 38), .inl (g 33 11)] [] rfl (ev_Row_at rfl rfl _ _) ?_
    show Ev 66 56 [some (.inr (.inr 33)), some (.inl a1), some (.inl a2), some (.inl a3), none, none, none] [.inl (rat (rset g 39 30 (g 33 11) 0) 39 30 (g 33 11))] (gset (rset (rset g 39 30 (g 33 11) 0) 41 30 (g 33 11) a2) 33 10 (wr ((g 33 11) + 1))) _ _
    refine ev_runs 11 (56, [some (.inr (.inr 33)), some (.inl a1), some (.inl a2), some (.inl a3), none, none, none], [.inl (rat (rset g 39 30 (g 33 11) 0) 39 30 (g 33 11))], (gset (rset (rset g 39 30 (g 33 11) 0) 41 30 (g 33 11) a2) 33 10 (wr ((g 33 11) + 1)))) (74, [some (.inr (.inr 33)), some (.inl a1), some (.inl a2), some (.inl a3), some (.inl (rat (rset g 39 30 (g 33 11) 0) 39 30 (g 33 11))), none, none], [.inl a3, .inl a2, .inr (.inr 7)], (gset (gset (rset (rset g 39 30 (g 33 11) 0) 41 30 (g 33 11) a2) 33 10 (wr ((g 33 11) + 1))) 33 11 (wr ((g 33 11) + 1)))) rfl ?_
    refine ec 57 77 [.inr (.inr 7), .inl a2, .inl a3] [] rfl (ev_St_toldOf a2 a3 (gset (gset (rset (rset g 39 30 (g 33 11) 0) 41 30 (g 33 11) a2) 33 10 (wr ((g 33 11) + 1))) 33 11 (wr ((g 33 11) + 1))) _ rfl) ?_
    show Ev 66 77 [some (.inr (.inr 33)), some (.inl a1), some (.inl a2), some (.inl a3), some (.inl (rat (rset g 39 30 (g 33 11) 0) 39 30 (g 33 11))), none, none] [.inl (St_toldOf a2 a3 (gset (gset (rset (rset g 39 30 (g 33 11) 0) 41 30 (g 33 11) a2) 33 10 (wr ((g 33 11) + 1))) 33 11 (wr ((g 33 11) + 1))))] (gset (gset (rset (rset g 39 30 (g 33 11) 0) 41 30 (g 33 11) a2) 33 10 (wr ((g 33 11) + 1))) 33 11 (wr ((g 33 11) + 1))) _ _
    refine ev_runs 3 (77, [some (.inr (.inr 33)), some (.inl a1), some (.inl a2), some (.inl a3), some (.inl (rat (rset g 39 30 (g 33 11) 0) 39 30 (g 33 11))), none, none], [.inl (St_toldOf a2 a3 (gset (gset (rset (rset g 39 30 (g 33 11) 0) 41 30 (g 33 11) a2) 33 10 (wr ((g 33 11) + 1))) 33 11 (wr ((g 33 11) + 1))))], (gset (gset (rset (rset g 39 30 (g 33 11) 0) 41 30 (g 33 11) a2) 33 10 (wr ((g 33 11) + 1))) 33 11 (wr ((g 33 11) + 1)))) (82, [some (.inr (.inr 33)), some (.inl a1), some (.inl a2), some (.inl a3), some (.inl (rat (rset g 39 30 (g 33 11) 0) 39 30 (g 33 11))), some (.inl (St_toldOf a2 a3 (gset (gset (rset (rset g 39 30 (g 33 11) 0) 41 30 (g 33 11) a2) 33 10 (wr ((g 33 11) + 1))) 33 11 (wr ((g 33 11) + 1))))), some (.inl 0)], [], (gset (gset (rset (rset g 39 30 (g 33 11) 0) 41 30 (g 33 11) a2) 33 10 (wr ((g 33 11) + 1))) 33 11 (wr ((g 33 11) + 1)))) rfl ?_
    refine ev_le (L := [some (.inr (.inr 33)), some (.inl a1), some (.inl a2), none, some (.inl (rat (rset g 39 30 (g 33 11) 0) 39 30 (g 33 11))), some (.inl (St_toldOf a2 a3 (gset (gset (rset (rset g 39 30 (g 33 11) 0) 41 30 (g 33 11) a2) 33 10 (wr ((g 33 11) + 1))) 33 11 (wr ((g 33 11) + 1))))), some (.inl 0)]) (by simp [Lle]) ?_
    refine ev_Hi_choose_l82 a1 a2 (rat (rset g 39 30 (g 33 11) 0) 39 30 (g 33 11)) (St_toldOf a2 a3 (gset (gset (rset (rset g 39 30 (g 33 11) 0) 41 30 (g 33 11) a2) 33 10 (wr ((g 33 11) + 1))) 33 11 (wr ((g 33 11) + 1)))) _ ?_ fu 0 (gset (gset (rset (rset g 39 30 (g 33 11) 0) 41 30 (g 33 11) a2) 33 10 (wr ((g 33 11) + 1))) 33 11 (wr ((g 33 11) + 1))) r g' h
    · intro g3 r g' h
      refine ev_runs 1 (134, [none, none, none, none, some (.inl (rat (rset g 39 30 (g 33 11) 0) 39 30 (g 33 11))), none, none], [], g3) (136, [none, none, none, none, some (.inl (rat (rset g 39 30 (g 33 11) 0) 39 30 (g 33 11))), none, none], [.inl (rat (rset g 39 30 (g 33 11) 0) 39 30 (g 33 11))], g3) rfl ?_
      cases h
      exact er rfl
def St_wayStart (a1 a2 : Int) (g : Gx) : Int :=
  (rat g 17 160 (wr ((wr (a1 * 4)) + a2)))
set_option maxRecDepth 100000 in
set_option maxHeartbeats 4000000 in
theorem ev_St_wayStart (a1 a2 : Int) (g : Gx) (r : Int) (h : St_wayStart a1 a2 g = r) : Ev 67 0 [some (.inr (.inr 7)), some (.inl a1), some (.inl a2)] [] g (some (.inl r)) g := by
  rw [St_wayStart] at h
  refine ev_runs 7 (0, [some (.inr (.inr 7)), some (.inl a1), some (.inl a2)], [], g) (9, [some (.inr (.inr 7)), some (.inl a1), some (.inl a2)], [.inl (wr ((wr (a1 * 4)) + a2)), .inr (.inr 16)], g) rfl ?_
  refine ec 13 12 [.inr (.inr 16), .inl (wr ((wr (a1 * 4)) + a2))] [] rfl (ev_Row_at rfl rfl _ _) ?_
  show Ev 67 12 [some (.inr (.inr 7)), some (.inl a1), some (.inl a2)] [.inl (rat g 17 160 (wr ((wr (a1 * 4)) + a2)))] g _ _
  subst h
  exact er rfl
def St_end (a1 : Int) (g : Gx) : Int :=
  (rat g 19 40 a1)
set_option maxRecDepth 100000 in
set_option maxHeartbeats 4000000 in
theorem ev_St_end (a1 : Int) (g : Gx) (r : Int) (h : St_end a1 g = r) : Ev 68 0 [some (.inr (.inr 7)), some (.inl a1)] [] g (some (.inl r)) g := by
  rw [St_end] at h
  refine ev_runs 3 (0, [some (.inr (.inr 7)), some (.inl a1)], [], g) (5, [some (.inr (.inr 7)), some (.inl a1)], [.inl a1, .inr (.inr 18)], g) rfl ?_
  refine ec 13 8 [.inr (.inr 18), .inl a1] [] rfl (ev_Row_at rfl rfl _ _) ?_
  show Ev 68 8 [some (.inr (.inr 7)), some (.inl a1)] [.inl (rat g 19 40 a1)] g _ _
  subst h
  exact er rfl
def Hi_beginRounds (a1 a2 : Int) (g : Gx) : Gx :=
  (gset (rset (rset g 47 4 (g 33 12) a1) 49 4 (g 33 12) (wr (a2 - 1))) 33 12 (wr ((g 33 12) + 1)))
set_option maxRecDepth 100000 in
set_option maxHeartbeats 4000000 in
theorem ev_Hi_beginRounds (a1 a2 : Int) (g : Gx) (g' : Gx) (h : Hi_beginRounds a1 a2 g = g') : Ev 69 0 [some (.inr (.inr 33)), some (.inl a1), some (.inl a2)] [] g none g' := by
  rw [Hi_beginRounds] at h
  refine ev_runs 5 (0, [some (.inr (.inr 33)), some (.inl a1), some (.inl a2)], [], g) (9, [some (.inr (.inr 33)), some (.inl a1), some (.inl a2)], [.inl a1, .inl (g 33 12), .inr (.inr 46)], g) rfl ?_
  refine ec 0 12 [.inr (.inr 46), .inl (g 33 12), .inl a1] [] rfl (ev_Row_set rfl rfl _ _ _) ?_
  show Ev 69 12 [some (.inr (.inr 33)), some (.inl a1), some (.inl a2)] [] (rset g 47 4 (g 33 12) a1) _ _
  refine ev_runs 7 (12, [some (.inr (.inr 33)), some (.inl a1), some (.inl a2)], [], (rset g 47 4 (g 33 12) a1)) (23, [some (.inr (.inr 33)), some (.inl a1), some (.inl a2)], [.inl (wr (a2 - 1)), .inl (g 33 12), .inr (.inr 48)], (rset g 47 4 (g 33 12) a1)) rfl ?_
  refine ec 0 26 [.inr (.inr 48), .inl (g 33 12), .inl (wr (a2 - 1))] [] rfl (ev_Row_set rfl rfl _ _ _) ?_
  show Ev 69 26 [some (.inr (.inr 33)), some (.inl a1), some (.inl a2)] [] (rset (rset g 47 4 (g 33 12) a1) 49 4 (g 33 12) (wr (a2 - 1))) _ _
  refine ev_runs 6 (26, [some (.inr (.inr 33)), some (.inl a1), some (.inl a2)], [], (rset (rset g 47 4 (g 33 12) a1) 49 4 (g 33 12) (wr (a2 - 1)))) (36, [some (.inr (.inr 33)), some (.inl a1), some (.inl a2)], [], (gset (rset (rset g 47 4 (g 33 12) a1) 49 4 (g 33 12) (wr (a2 - 1))) 33 12 (wr ((g 33 12) + 1)))) rfl ?_
  subst h
  exact er rfl
def Hi_endRound (a1 : Int) (g : Gx) : Int × Gx :=
  if (rat g 49 4 (wr ((g 33 12) - 1))) ≤ 0 then
    (a1, (gset g 33 12 (wr ((g 33 12) - 1))))
  else
    ((rat g 47 4 (wr ((g 33 12) - 1))), (radd g 49 4 (wr ((g 33 12) - 1)) (-1)))
set_option maxRecDepth 100000 in
set_option maxHeartbeats 4000000 in
theorem ev_Hi_endRound (a1 : Int) (g : Gx) (r : Int) (g' : Gx) (h : Hi_endRound a1 g = (r, g')) : Ev 70 0 [some (.inr (.inr 33)), some (.inl a1), none] [] g (some (.inl r)) g' := by
  rw [Hi_endRound] at h
  refine ev_runs 8 (0, [some (.inr (.inr 33)), some (.inl a1), none], [], g) (12, [some (.inr (.inr 33)), some (.inl a1), some (.inl (wr ((g 33 12) - 1)))], [.inl (wr ((g 33 12) - 1)), .inr (.inr 48)], g) rfl ?_
  refine ec 13 15 [.inr (.inr 48), .inl (wr ((g 33 12) - 1))] [] rfl (ev_Row_at rfl rfl _ _) ?_
  show Ev 70 15 [some (.inr (.inr 33)), some (.inl a1), some (.inl (wr ((g 33 12) - 1)))] [.inl (rat g 49 4 (wr ((g 33 12) - 1)))] g _ _
  by_cases hc : (rat g 49 4 (wr ((g 33 12) - 1))) ≤ 0
  · rw [if_pos hc] at h
    refine es (36, [some (.inr (.inr 33)), some (.inl a1), some (.inl (wr ((g 33 12) - 1)))], [], g) (congrArg some (if_pos hc)) ?_
    refine ev_runs 4 (36, [some (.inr (.inr 33)), some (.inl a1), some (.inl (wr ((g 33 12) - 1)))], [], g) (42, [some (.inr (.inr 33)), some (.inl a1), some (.inl (wr ((g 33 12) - 1)))], [.inl a1], (gset g 33 12 (wr ((g 33 12) - 1)))) rfl ?_
    cases h
    exact er rfl
  · rw [if_neg hc] at h
    refine es (18, [some (.inr (.inr 33)), some (.inl a1), some (.inl (wr ((g 33 12) - 1)))], [], g) (congrArg some (if_neg hc)) ?_
    refine ev_runs 4 (18, [some (.inr (.inr 33)), some (.inl a1), some (.inl (wr ((g 33 12) - 1)))], [], g) (24, [some (.inr (.inr 33)), some (.inl a1), some (.inl (wr ((g 33 12) - 1)))], [.inl (-1), .inl (wr ((g 33 12) - 1)), .inr (.inr 48)], g) rfl ?_
    refine ec 22 27 [.inr (.inr 48), .inl (wr ((g 33 12) - 1)), .inl (-1)] [] rfl (ev_Row_add rfl rfl _ _ _) ?_
    show Ev 70 27 [some (.inr (.inr 33)), some (.inl a1), some (.inl (wr ((g 33 12) - 1)))] [] (radd g 49 4 (wr ((g 33 12) - 1)) (-1)) _ _
    refine ev_runs 3 (27, [some (.inr (.inr 33)), some (.inl a1), some (.inl (wr ((g 33 12) - 1)))], [], (radd g 49 4 (wr ((g 33 12) - 1)) (-1))) (32, [some (.inr (.inr 33)), some (.inl a1), some (.inl (wr ((g 33 12) - 1)))], [.inl (wr ((g 33 12) - 1)), .inr (.inr 46)], (radd g 49 4 (wr ((g 33 12) - 1)) (-1))) rfl ?_
    refine ec 13 35 [.inr (.inr 46), .inl (wr ((g 33 12) - 1))] [] rfl (ev_Row_at rfl rfl _ _) ?_
    show Ev 70 35 [some (.inr (.inr 33)), some (.inl a1), some (.inl (wr ((g 33 12) - 1)))] [.inl (rat g 47 4 (wr ((g 33 12) - 1)))] (radd g 49 4 (wr ((g 33 12) - 1)) (-1)) _ _
    cases h
    exact er rfl
def Hi_walk_l24 (c1 : Int) (c2 : Int) (K24_180 : Gx → Option Gx) : Nat → Int → Int → Gx → Option Gx
  | 0, _, _, _ => none
  | n24 + 1, v3, v4, g =>
    if 1000000 ≤ v4 then
      K24_180 g
    else
      if (St_size g) ≤ v3 then
        K24_180 g
      else
        if (St_kind v3 g) < 0 ∨ 5 < (St_kind v3 g) then
          Hi_walk_l24 c1 c2 K24_180 n24 (wr (v3 + 1)) (wr (v4 + 1)) g
        else if (St_kind v3 g) = 0 then
          lett (Hi_say c1 (St_value v3 g) g) (fun g1 =>
          Hi_walk_l24 c1 c2 K24_180 n24 (wr (v3 + 1)) (wr (v4 + 1)) g1)
        else if (St_kind v3 g) = 1 then
          Option.bind (Hi_choose c1 (St_value v3 g) c2 g) (fun q2 =>
          Hi_walk_l24 c1 c2 K24_180 n24 (St_wayStart (St_value v3 g) q2.1 q2.2) (wr (v4 + 1)) q2.2)
        else if (St_kind v3 g) = 2 then
          Hi_walk_l24 c1 c2 K24_180 n24 (St_end (St_value v3 g) g) (wr (v4 + 1)) g
        else if (St_kind v3 g) = 3 then
          Hi_walk_l24 c1 c2 K24_180 n24 (wr (v3 + 1)) (wr (v4 + 1)) g
        else if (St_kind v3 g) = 4 then
          lett (Hi_beginRounds (wr (v3 + 1)) (St_value v3 g) g) (fun g3 =>
          Hi_walk_l24 c1 c2 K24_180 n24 (wr (v3 + 1)) (wr (v4 + 1)) g3)
        else
          lett (Hi_endRound (wr (v3 + 1)) g) (fun q4 =>
          Hi_walk_l24 c1 c2 K24_180 n24 q4.1 (wr (v4 + 1)) q4.2)
def Hi_walk (a1 a2 : Int) (g : Gx) : Option Gx :=
  Hi_walk_l24 a1 a2
    (fun g5 =>
      some g5)
    fu 0 0 (gset (gset (rset g 37 30 a1 0) 33 11 0) 33 12 0)
set_option maxRecDepth 100000 in
set_option maxHeartbeats 4000000 in
theorem ev_Hi_walk_l24 (c1 : Int) (c2 : Int) (K24_180 : Gx → Option Gx) (hK24_180 : ∀ (g : Gx) (g' : Gx), K24_180 g = some g' → Ev 71 180 [none, none, none, none, none, none] [] g none g') : ∀ (n24 : Nat) (v3 v4 : Int) (g : Gx) (g' : Gx), Hi_walk_l24 c1 c2 K24_180 n24 v3 v4 g = some g' → Ev 71 24 [some (.inr (.inr 33)), some (.inl c1), some (.inl c2), some (.inl v3), some (.inl v4), none] [] g none g' := by
  intro n24
  induction n24 with
  | zero => intro v3 v4 g g' h; cases h
  | succ n24 ih24 =>
    intro v3 v4 g g' h
    rw [Hi_walk_l24] at h
    refine ev_runs 2 (24, [some (.inr (.inr 33)), some (.inl c1), some (.inl c2), some (.inl v3), some (.inl v4), none], [], g) (28, [some (.inr (.inr 33)), some (.inl c1), some (.inl c2), some (.inl v3), some (.inl v4), none], [.inl 1000000, .inl v4], g) rfl ?_
    by_cases hc : 1000000 ≤ v4
    · rw [if_pos hc] at h
      refine es (180, [some (.inr (.inr 33)), some (.inl c1), some (.inl c2), some (.inl v3), some (.inl v4), none], [], g) (congrArg some (if_pos hc)) ?_
      exact ev_le (L := [none, none, none, none, none, none]) (by simp [Lle]) (hK24_180 g g' h)
    · rw [if_neg hc] at h
      refine es (31, [some (.inr (.inr 33)), some (.inl c1), some (.inl c2), some (.inl v3), some (.inl v4), none], [], g) (congrArg some (if_neg hc)) ?_
      refine ev_runs 3 (31, [some (.inr (.inr 33)), some (.inl c1), some (.inl c2), some (.inl v3), some (.inl v4), none], [], g) (36, [some (.inr (.inr 33)), some (.inl c1), some (.inl c2), some (.inl v3), some (.inl v4), none], [.inr (.inr 7), .inl v3], g) rfl ?_
      refine ec 20 39 [.inr (.inr 7)] [.inl v3] rfl (ev_St_size g _ rfl) ?_
      show Ev 71 39 [some (.inr (.inr 33)), some (.inl c1), some (.inl c2), some (.inl v3), some (.inl v4), none] [.inl (St_size g), .inl v3] g _ _
      by_cases hc : (St_size g) ≤ v3
      · rw [if_pos hc] at h
        refine es (180, [some (.inr (.inr 33)), some (.inl c1), some (.inl c2), some (.inl v3), some (.inl v4), none], [], g) (congrArg some (if_pos hc)) ?_
        exact ev_le (L := [none, none, none, none, none, none]) (by simp [Lle]) (hK24_180 g g' h)
      · rw [if_neg hc] at h
        refine es (42, [some (.inr (.inr 33)), some (.inl c1), some (.inl c2), some (.inl v3), some (.inl v4), none], [], g) (congrArg some (if_neg hc)) ?_
        refine ev_runs 3 (42, [some (.inr (.inr 33)), some (.inl c1), some (.inl c2), some (.inl v3), some (.inl v4), none], [], g) (47, [some (.inr (.inr 33)), some (.inl c1), some (.inl c2), some (.inl v3), some (.inl v4), none], [.inl v3, .inr (.inr 7)], g) rfl ?_
        refine ec 61 50 [.inr (.inr 7), .inl v3] [] rfl (ev_St_value v3 g _ rfl) ?_
        show Ev 71 50 [some (.inr (.inr 33)), some (.inl c1), some (.inl c2), some (.inl v3), some (.inl v4), none] [.inl (St_value v3 g)] g _ _
        refine ev_runs 4 (50, [some (.inr (.inr 33)), some (.inl c1), some (.inl c2), some (.inl v3), some (.inl v4), none], [.inl (St_value v3 g)], g) (57, [some (.inr (.inr 33)), some (.inl c1), some (.inl c2), some (.inl v3), some (.inl v4), some (.inl (St_value v3 g))], [.inl v3, .inr (.inr 7)], g) rfl ?_
        refine ec 62 60 [.inr (.inr 7), .inl v3] [] rfl (ev_St_kind v3 g _ rfl) ?_
        show Ev 71 60 [some (.inr (.inr 33)), some (.inl c1), some (.inl c2), some (.inl v3), some (.inl v4), some (.inl (St_value v3 g))] [.inl (St_kind v3 g)] g _ _
        by_cases hd : (St_kind v3 g) < 0 ∨ 5 < (St_kind v3 g)
        · rw [if_pos hd] at h
          refine ev_sw (tgt := 171) rfl (if_pos hd) ?_
          show Ev 71 171 [some (.inr (.inr 33)), some (.inl c1), some (.inl c2), some (.inl v3), some (.inl v4), some (.inl (St_value v3 g))] [] g _ _
          refine ev_runs 3 (171, [some (.inr (.inr 33)), some (.inl c1), some (.inl c2), some (.inl v3), some (.inl v4), some (.inl (St_value v3 g))], [], g) (24, [some (.inr (.inr 33)), some (.inl c1), some (.inl c2), some (.inl (wr (v3 + 1))), some (.inl (wr (v4 + 1))), some (.inl (St_value v3 g))], [], g) rfl ?_
          exact ev_le (L := [some (.inr (.inr 33)), some (.inl c1), some (.inl c2), some (.inl (wr (v3 + 1))), some (.inl (wr (v4 + 1))), none]) (by simp [Lle]) (ih24 (wr (v3 + 1)) (wr (v4 + 1)) g g' h)
        rw [if_neg hd] at h
        by_cases hx0 : (St_kind v3 g) = 0
        · rw [if_pos hx0] at h
          refine ev_sw (tgt := 100) rfl (by rw [hx0]; rfl) ?_
          show Ev 71 100 [some (.inr (.inr 33)), some (.inl c1), some (.inl c2), some (.inl v3), some (.inl v4), some (.inl (St_value v3 g))] [] g _ _
          refine ev_runs 3 (100, [some (.inr (.inr 33)), some (.inl c1), some (.inl c2), some (.inl v3), some (.inl v4), some (.inl (St_value v3 g))], [], g) (104, [some (.inr (.inr 33)), some (.inl c1), some (.inl c2), some (.inl v3), some (.inl v4), some (.inl (St_value v3 g))], [.inl (St_value v3 g), .inl c1, .inr (.inr 33)], g) rfl ?_
          obtain ⟨g1, hq, h⟩ := lett_inv h
          refine ec 63 107 [.inr (.inr 33), .inl c1, .inl (St_value v3 g)] [] rfl (ev_Hi_say c1 (St_value v3 g) g g1 hq.symm) ?_
          show Ev 71 107 [some (.inr (.inr 33)), some (.inl c1), some (.inl c2), some (.inl v3), some (.inl v4), some (.inl (St_value v3 g))] [] g1 _ _
          refine ev_runs 4 (107, [some (.inr (.inr 33)), some (.inl c1), some (.inl c2), some (.inl v3), some (.inl v4), some (.inl (St_value v3 g))], [], g1) (24, [some (.inr (.inr 33)), some (.inl c1), some (.inl c2), some (.inl (wr (v3 + 1))), some (.inl (wr (v4 + 1))), some (.inl (St_value v3 g))], [], g1) rfl ?_
          exact ev_le (L := [some (.inr (.inr 33)), some (.inl c1), some (.inl c2), some (.inl (wr (v3 + 1))), some (.inl (wr (v4 + 1))), none]) (by simp [Lle]) (ih24 (wr (v3 + 1)) (wr (v4 + 1)) g1 g' h)
        rw [if_neg hx0] at h
        by_cases hx1 : (St_kind v3 g) = 1
        · rw [if_pos hx1] at h
          refine ev_sw (tgt := 113) rfl (by rw [hx1]; rfl) ?_
          show Ev 71 113 [some (.inr (.inr 33)), some (.inl c1), some (.inl c2), some (.inl v3), some (.inl v4), some (.inl (St_value v3 g))] [] g _ _
          refine ev_runs 7 (113, [some (.inr (.inr 33)), some (.inl c1), some (.inl c2), some (.inl v3), some (.inl v4), some (.inl (St_value v3 g))], [], g) (124, [some (.inr (.inr 33)), some (.inl c1), some (.inl c2), some (.inl v3), some (.inl v4), some (.inl (St_value v3 g))], [.inl c2, .inl (St_value v3 g), .inl c1, .inr (.inr 33), .inl (St_value v3 g), .inr (.inr 7)], g) rfl ?_
          obtain ⟨q2, hq, h⟩ := Option.bind_eq_some_iff.mp h
          refine ec 66 127 [.inr (.inr 33), .inl c1, .inl (St_value v3 g), .inl c2] [.inl (St_value v3 g), .inr (.inr 7)] rfl (ev_Hi_choose c1 (St_value v3 g) c2 g q2.1 q2.2 hq) ?_
          show Ev 71 127 [some (.inr (.inr 33)), some (.inl c1), some (.inl c2), some (.inl v3), some (.inl v4), some (.inl (St_value v3 g))] [.inl q2.1, .inl (St_value v3 g), .inr (.inr 7)] q2.2 _ _
          refine ec 67 130 [.inr (.inr 7), .inl (St_value v3 g), .inl q2.1] [] rfl (ev_St_wayStart (St_value v3 g) q2.1 q2.2 _ rfl) ?_
          show Ev 71 130 [some (.inr (.inr 33)), some (.inl c1), some (.inl c2), some (.inl v3), some (.inl v4), some (.inl (St_value v3 g))] [.inl (St_wayStart (St_value v3 g) q2.1 q2.2)] q2.2 _ _
          refine ev_runs 4 (130, [some (.inr (.inr 33)), some (.inl c1), some (.inl c2), some (.inl v3), some (.inl v4), some (.inl (St_value v3 g))], [.inl (St_wayStart (St_value v3 g) q2.1 q2.2)], q2.2) (24, [some (.inr (.inr 33)), some (.inl c1), some (.inl c2), some (.inl (St_wayStart (St_value v3 g) q2.1 q2.2)), some (.inl (wr (v4 + 1))), some (.inl (St_value v3 g))], [], q2.2) rfl ?_
          exact ev_le (L := [some (.inr (.inr 33)), some (.inl c1), some (.inl c2), some (.inl (St_wayStart (St_value v3 g) q2.1 q2.2)), some (.inl (wr (v4 + 1))), none]) (by simp [Lle]) (ih24 (St_wayStart (St_value v3 g) q2.1 q2.2) (wr (v4 + 1)) q2.2 g' h)
        rw [if_neg hx1] at h
        by_cases hx2 : (St_kind v3 g) = 2
        · rw [if_pos hx2] at h
          refine ev_sw (tgt := 134) rfl (by rw [hx2]; rfl) ?_
          show Ev 71 134 [some (.inr (.inr 33)), some (.inl c1), some (.inl c2), some (.inl v3), some (.inl v4), some (.inl (St_value v3 g))] [] g _ _
          refine ev_runs 3 (134, [some (.inr (.inr 33)), some (.inl c1), some (.inl c2), some (.inl v3), some (.inl v4), some (.inl (St_value v3 g))], [], g) (140, [some (.inr (.inr 33)), some (.inl c1), some (.inl c2), some (.inl v3), some (.inl v4), some (.inl (St_value v3 g))], [.inl (St_value v3 g), .inr (.inr 7)], g) rfl ?_
          refine ec 68 143 [.inr (.inr 7), .inl (St_value v3 g)] [] rfl (ev_St_end (St_value v3 g) g _ rfl) ?_
          show Ev 71 143 [some (.inr (.inr 33)), some (.inl c1), some (.inl c2), some (.inl v3), some (.inl v4), some (.inl (St_value v3 g))] [.inl (St_end (St_value v3 g) g)] g _ _
          refine ev_runs 4 (143, [some (.inr (.inr 33)), some (.inl c1), some (.inl c2), some (.inl v3), some (.inl v4), some (.inl (St_value v3 g))], [.inl (St_end (St_value v3 g) g)], g) (24, [some (.inr (.inr 33)), some (.inl c1), some (.inl c2), some (.inl (St_end (St_value v3 g) g)), some (.inl (wr (v4 + 1))), some (.inl (St_value v3 g))], [], g) rfl ?_
          exact ev_le (L := [some (.inr (.inr 33)), some (.inl c1), some (.inl c2), some (.inl (St_end (St_value v3 g) g)), some (.inl (wr (v4 + 1))), none]) (by simp [Lle]) (ih24 (St_end (St_value v3 g) g) (wr (v4 + 1)) g g' h)
        rw [if_neg hx2] at h
        by_cases hx3 : (St_kind v3 g) = 3
        · rw [if_pos hx3] at h
          refine ev_sw (tgt := 171) rfl (by rw [hx3]; rfl) ?_
          show Ev 71 171 [some (.inr (.inr 33)), some (.inl c1), some (.inl c2), some (.inl v3), some (.inl v4), some (.inl (St_value v3 g))] [] g _ _
          refine ev_runs 3 (171, [some (.inr (.inr 33)), some (.inl c1), some (.inl c2), some (.inl v3), some (.inl v4), some (.inl (St_value v3 g))], [], g) (24, [some (.inr (.inr 33)), some (.inl c1), some (.inl c2), some (.inl (wr (v3 + 1))), some (.inl (wr (v4 + 1))), some (.inl (St_value v3 g))], [], g) rfl ?_
          exact ev_le (L := [some (.inr (.inr 33)), some (.inl c1), some (.inl c2), some (.inl (wr (v3 + 1))), some (.inl (wr (v4 + 1))), none]) (by simp [Lle]) (ih24 (wr (v3 + 1)) (wr (v4 + 1)) g g' h)
        rw [if_neg hx3] at h
        by_cases hx4 : (St_kind v3 g) = 4
        · rw [if_pos hx4] at h
          refine ev_sw (tgt := 147) rfl (by rw [hx4]; rfl) ?_
          show Ev 71 147 [some (.inr (.inr 33)), some (.inl c1), some (.inl c2), some (.inl v3), some (.inl v4), some (.inl (St_value v3 g))] [] g _ _
          refine ev_runs 4 (147, [some (.inr (.inr 33)), some (.inl c1), some (.inl c2), some (.inl v3), some (.inl v4), some (.inl (St_value v3 g))], [], g) (154, [some (.inr (.inr 33)), some (.inl c1), some (.inl c2), some (.inl (wr (v3 + 1))), some (.inl v4), some (.inl (St_value v3 g))], [.inl (St_value v3 g), .inl (wr (v3 + 1)), .inr (.inr 33)], g) rfl ?_
          obtain ⟨g3, hq, h⟩ := lett_inv h
          refine ec 69 157 [.inr (.inr 33), .inl (wr (v3 + 1)), .inl (St_value v3 g)] [] rfl (ev_Hi_beginRounds (wr (v3 + 1)) (St_value v3 g) g g3 hq.symm) ?_
          show Ev 71 157 [some (.inr (.inr 33)), some (.inl c1), some (.inl c2), some (.inl (wr (v3 + 1))), some (.inl v4), some (.inl (St_value v3 g))] [] g3 _ _
          refine ev_runs 3 (157, [some (.inr (.inr 33)), some (.inl c1), some (.inl c2), some (.inl (wr (v3 + 1))), some (.inl v4), some (.inl (St_value v3 g))], [], g3) (24, [some (.inr (.inr 33)), some (.inl c1), some (.inl c2), some (.inl (wr (v3 + 1))), some (.inl (wr (v4 + 1))), some (.inl (St_value v3 g))], [], g3) rfl ?_
          exact ev_le (L := [some (.inr (.inr 33)), some (.inl c1), some (.inl c2), some (.inl (wr (v3 + 1))), some (.inl (wr (v4 + 1))), none]) (by simp [Lle]) (ih24 (wr (v3 + 1)) (wr (v4 + 1)) g3 g' h)
        rw [if_neg hx4] at h
        have hx5 : (St_kind v3 g) = 5 := by omega
        · skip
          refine ev_sw (tgt := 160) rfl (by rw [hx5]; rfl) ?_
          show Ev 71 160 [some (.inr (.inr 33)), some (.inl c1), some (.inl c2), some (.inl v3), some (.inl v4), some (.inl (St_value v3 g))] [] g _ _
          refine ev_runs 4 (160, [some (.inr (.inr 33)), some (.inl c1), some (.inl c2), some (.inl v3), some (.inl v4), some (.inl (St_value v3 g))], [], g) (164, [some (.inr (.inr 33)), some (.inl c1), some (.inl c2), some (.inl v3), some (.inl v4), some (.inl (St_value v3 g))], [.inl (wr (v3 + 1)), .inr (.inr 33)], g) rfl ?_
          obtain ⟨q4, hq, h⟩ := lett_inv h
          refine ec 70 167 [.inr (.inr 33), .inl (wr (v3 + 1))] [] rfl (ev_Hi_endRound (wr (v3 + 1)) g q4.1 q4.2 hq.symm) ?_
          show Ev 71 167 [some (.inr (.inr 33)), some (.inl c1), some (.inl c2), some (.inl v3), some (.inl v4), some (.inl (St_value v3 g))] [.inl q4.1] q4.2 _ _
          refine ev_runs 4 (167, [some (.inr (.inr 33)), some (.inl c1), some (.inl c2), some (.inl v3), some (.inl v4), some (.inl (St_value v3 g))], [.inl q4.1], q4.2) (24, [some (.inr (.inr 33)), some (.inl c1), some (.inl c2), some (.inl q4.1), some (.inl (wr (v4 + 1))), some (.inl (St_value v3 g))], [], q4.2) rfl ?_
          exact ev_le (L := [some (.inr (.inr 33)), some (.inl c1), some (.inl c2), some (.inl q4.1), some (.inl (wr (v4 + 1))), none]) (by simp [Lle]) (ih24 q4.1 (wr (v4 + 1)) q4.2 g' h)
set_option maxRecDepth 100000 in
set_option maxHeartbeats 4000000 in
theorem ev_Hi_walk (a1 a2 : Int) (g : Gx) (g' : Gx) (h : Hi_walk a1 a2 g = some g') : Ev 71 0 [some (.inr (.inr 33)), some (.inl a1), some (.inl a2), none, none, none] [] g none g' := by
  rw [Hi_walk] at h
  refine ev_runs 4 (0, [some (.inr (.inr 33)), some (.inl a1), some (.inl a2), none, none, none], [], g) (6, [some (.inr (.inr 33)), some (.inl a1), some (.inl a2), none, none, none], [.inl 0, .inl a1, .inr (.inr 36)], g) rfl ?_
  refine ec 0 9 [.inr (.inr 36), .inl a1, .inl 0] [] rfl (ev_Row_set rfl rfl _ _ _) ?_
  show Ev 71 9 [some (.inr (.inr 33)), some (.inl a1), some (.inl a2), none, none, none] [] (rset g 37 30 a1 0) _ _
  refine ev_runs 10 (9, [some (.inr (.inr 33)), some (.inl a1), some (.inl a2), none, none, none], [], (rset g 37 30 a1 0)) (24, [some (.inr (.inr 33)), some (.inl a1), some (.inl a2), some (.inl 0), some (.inl 0), none], [], (gset (gset (rset g 37 30 a1 0) 33 11 0) 33 12 0)) rfl ?_
  refine ev_le (L := [some (.inr (.inr 33)), some (.inl a1), some (.inl a2), some (.inl 0), some (.inl 0), none]) (by simp [Lle]) ?_
  refine ev_Hi_walk_l24 a1 a2 _ ?_ fu 0 0 (gset (gset (rset g 37 30 a1 0) 33 11 0) 33 12 0) g' h
  · intro g5 g' h
    cases h
    exact er rfl
def Hi_turn_l7 (c1 : Int) (K7_90 : Gx → Option (Int × Gx)) : Nat → Int → Gx → Option (Int × Gx)
  | 0, _, _ => none
  | n7 + 1, v2, g =>
    if v2 < 0 then
      K7_90 g
    else
      if (St_wayCount (rat g 41 30 v2) g) ≤ (wr ((rat g 39 30 v2) + 1)) then
        Hi_turn_l7 c1 K7_90 n7 (wr (v2 + (-1))) g
      else
        some (1, (rset (rset (gset (radd g 39 30 v2 1) 33 10 (wr (v2 + 1))) 43 30 c1 v2) 45 30 c1 (St_chooser (rat g 41 30 v2) (rset (gset (radd g 39 30 v2 1) 33 10 (wr (v2 + 1))) 43 30 c1 v2))))
def Hi_turn (a1 : Int) (g : Gx) : Option (Int × Gx) :=
  Hi_turn_l7 a1
    (fun g1 =>
      some (0, g1))
    fu (wr ((g 33 11) - 1)) g
set_option maxRecDepth 100000 in
set_option maxHeartbeats 4000000 in
theorem ev_Hi_turn_l7 (c1 : Int) (K7_90 : Gx → Option (Int × Gx)) (hK7_90 : ∀ (g : Gx) (r : Int) (g' : Gx), K7_90 g = some (r, g') → Ev 72 90 [none, none, none, none] [] g (some (.inl r)) g') : ∀ (n7 : Nat) (v2 : Int) (g : Gx) (r : Int) (g' : Gx), Hi_turn_l7 c1 K7_90 n7 v2 g = some (r, g') → Ev 72 7 [some (.inr (.inr 33)), some (.inl c1), some (.inl v2), none] [] g (some (.inl r)) g' := by
  intro n7
  induction n7 with
  | zero => intro v2 g r g' h; cases h
  | succ n7 ih7 =>
    intro v2 g r g' h
    rw [Hi_turn_l7] at h
    refine ev_runs 1 (7, [some (.inr (.inr 33)), some (.inl c1), some (.inl v2), none], [], g) (8, [some (.inr (.inr 33)), some (.inl c1), some (.inl v2), none], [.inl v2], g) rfl ?_
    by_cases hc : v2 < 0
    · rw [if_pos hc] at h
      refine es (90, [some (.inr (.inr 33)), some (.inl c1), some (.inl v2), none], [], g) (congrArg some (if_pos hc)) ?_
      exact ev_le (L := [none, none, none, none]) (by simp [Lle]) (hK7_90 g r g' h)
    · rw [if_neg hc] at h
      refine es (11, [some (.inr (.inr 33)), some (.inl c1), some (.inl v2), none], [], g) (congrArg some (if_neg hc)) ?_
      refine ev_runs 3 (11, [some (.inr (.inr 33)), some (.inl c1), some (.inl v2), none], [], g) (16, [some (.inr (.inr 33)), some (.inl c1), some (.inl v2), none], [.inl v2, .inr (.inr 40)], g) rfl ?_
      refine ec 13 19 [.inr (.inr 40), .inl v2] [] rfl (ev_Row_at rfl rfl _ _) ?_
      show Ev 72 19 [some (.inr (.inr 33)), some (.inl c1), some (.inl v2), none] [.inl (rat g 41 30 v2)] g _ _
      refine ev_runs 4 (19, [some (.inr (.inr 33)), some (.inl c1), some (.inl v2), none], [.inl (rat g 41 30 v2)], g) (25, [some (.inr (.inr 33)), some (.inl c1), some (.inl v2), some (.inl (rat g 41 30 v2))], [.inl v2, .inr (.inr 38)], g) rfl ?_
      refine ec 13 28 [.inr (.inr 38), .inl v2] [] rfl (ev_Row_at rfl rfl _ _) ?_
      show Ev 72 28 [some (.inr (.inr 33)), some (.inl c1), some (.inl v2), some (.inl (rat g 41 30 v2))] [.inl (rat g 39 30 v2)] g _ _
      refine ev_runs 5 (28, [some (.inr (.inr 33)), some (.inl c1), some (.inl v2), some (.inl (rat g 41 30 v2))], [.inl (rat g 39 30 v2)], g) (35, [some (.inr (.inr 33)), some (.inl c1), some (.inl v2), some (.inl (rat g 41 30 v2))], [.inl (rat g 41 30 v2), .inr (.inr 7), .inl (wr ((rat g 39 30 v2) + 1))], g) rfl ?_
      refine ec 26 38 [.inr (.inr 7), .inl (rat g 41 30 v2)] [.inl (wr ((rat g 39 30 v2) + 1))] rfl (ev_St_wayCount (rat g 41 30 v2) g _ rfl) ?_
      show Ev 72 38 [some (.inr (.inr 33)), some (.inl c1), some (.inl v2), some (.inl (rat g 41 30 v2))] [.inl (St_wayCount (rat g 41 30 v2) g), .inl (wr ((rat g 39 30 v2) + 1))] g _ _
      by_cases hc : (St_wayCount (rat g 41 30 v2) g) ≤ (wr ((rat g 39 30 v2) + 1))
      · rw [if_pos hc] at h
        refine es (84, [some (.inr (.inr 33)), some (.inl c1), some (.inl v2), some (.inl (rat g 41 30 v2))], [], g) (congrArg some (if_pos hc)) ?_
        refine ev_runs 2 (84, [some (.inr (.inr 33)), some (.inl c1), some (.inl v2), some (.inl (rat g 41 30 v2))], [], g) (7, [some (.inr (.inr 33)), some (.inl c1), some (.inl (wr (v2 + (-1)))), some (.inl (rat g 41 30 v2))], [], g) rfl ?_
        exact ev_le (L := [some (.inr (.inr 33)), some (.inl c1), some (.inl (wr (v2 + (-1)))), none]) (by simp [Lle]) (ih7 (wr (v2 + (-1))) g r g' h)
      · rw [if_neg hc] at h
        refine es (41, [some (.inr (.inr 33)), some (.inl c1), some (.inl v2), some (.inl (rat g 41 30 v2))], [], g) (congrArg some (if_neg hc)) ?_
        refine ev_runs 4 (41, [some (.inr (.inr 33)), some (.inl c1), some (.inl v2), some (.inl (rat g 41 30 v2))], [], g) (47, [some (.inr (.inr 33)), some (.inl c1), some (.inl v2), some (.inl (rat g 41 30 v2))], [.inl 1, .inl v2, .inr (.inr 38)], g) rfl ?_
        refine ec 22 50 [.inr (.inr 38), .inl v2, .inl 1] [] rfl (ev_Row_add rfl rfl _ _ _) ?_
        show Ev 72 50 [some (.inr (.inr 33)), some (.inl c1), some (.inl v2), some (.inl (rat g 41 30 v2))] [] (radd g 39 30 v2 1) _ _
        refine ev_runs 9 (50, [some (.inr (.inr 33)), some (.inl c1), some (.inl v2), some (.inl (rat g 41 30 v2))], [], (radd g 39 30 v2 1)) (63, [some (.inr (.inr 33)), some (.inl c1), some (.inl v2), some (.inl (rat g 41 30 v2))], [.inl v2, .inl c1, .inr (.inr 42)], (gset (radd g 39 30 v2 1) 33 10 (wr (v2 + 1)))) rfl ?_
        refine ec 0 66 [.inr (.inr 42), .inl c1, .inl v2] [] rfl (ev_Row_set rfl rfl _ _ _) ?_
        show Ev 72 66 [some (.inr (.inr 33)), some (.inl c1), some (.inl v2), some (.inl (rat g 41 30 v2))] [] (rset (gset (radd g 39 30 v2 1) 33 10 (wr (v2 + 1))) 43 30 c1 v2) _ _
        refine ev_runs 6 (66, [some (.inr (.inr 33)), some (.inl c1), some (.inl v2), some (.inl (rat g 41 30 v2))], [], (rset (gset (radd g 39 30 v2 1) 33 10 (wr (v2 + 1))) 43 30 c1 v2)) (76, [some (.inr (.inr 33)), some (.inl c1), some (.inl v2), some (.inl (rat g 41 30 v2))], [.inl (rat g 41 30 v2), .inr (.inr 7), .inl c1, .inr (.inr 44)], (rset (gset (radd g 39 30 v2 1) 33 10 (wr (v2 + 1))) 43 30 c1 v2)) rfl ?_
        refine ec 65 79 [.inr (.inr 7), .inl (rat g 41 30 v2)] [.inl c1, .inr (.inr 44)] rfl (ev_St_chooser (rat g 41 30 v2) (rset (gset (radd g 39 30 v2 1) 33 10 (wr (v2 + 1))) 43 30 c1 v2) _ rfl) ?_
        show Ev 72 79 [some (.inr (.inr 33)), some (.inl c1), some (.inl v2), some (.inl (rat g 41 30 v2))] [.inl (St_chooser (rat g 41 30 v2) (rset (gset (radd g 39 30 v2 1) 33 10 (wr (v2 + 1))) 43 30 c1 v2)), .inl c1, .inr (.inr 44)] (rset (gset (radd g 39 30 v2 1) 33 10 (wr (v2 + 1))) 43 30 c1 v2) _ _
        refine ec 0 82 [.inr (.inr 44), .inl c1, .inl (St_chooser (rat g 41 30 v2) (rset (gset (radd g 39 30 v2 1) 33 10 (wr (v2 + 1))) 43 30 c1 v2))] [] rfl (ev_Row_set rfl rfl _ _ _) ?_
        show Ev 72 82 [some (.inr (.inr 33)), some (.inl c1), some (.inl v2), some (.inl (rat g 41 30 v2))] [] (rset (rset (gset (radd g 39 30 v2 1) 33 10 (wr (v2 + 1))) 43 30 c1 v2) 45 30 c1 (St_chooser (rat g 41 30 v2) (rset (gset (radd g 39 30 v2 1) 33 10 (wr (v2 + 1))) 43 30 c1 v2))) _ _
        refine ev_runs 1 (82, [some (.inr (.inr 33)), some (.inl c1), some (.inl v2), some (.inl (rat g 41 30 v2))], [], (rset (rset (gset (radd g 39 30 v2 1) 33 10 (wr (v2 + 1))) 43 30 c1 v2) 45 30 c1 (St_chooser (rat g 41 30 v2) (rset (gset (radd g 39 30 v2 1) 33 10 (wr (v2 + 1))) 43 30 c1 v2)))) (83, [some (.inr (.inr 33)), some (.inl c1), some (.inl v2), some (.inl (rat g 41 30 v2))], [.inl 1], (rset (rset (gset (radd g 39 30 v2 1) 33 10 (wr (v2 + 1))) 43 30 c1 v2) 45 30 c1 (St_chooser (rat g 41 30 v2) (rset (gset (radd g 39 30 v2 1) 33 10 (wr (v2 + 1))) 43 30 c1 v2)))) rfl ?_
        cases h
        exact er rfl
set_option maxRecDepth 100000 in
set_option maxHeartbeats 4000000 in
theorem ev_Hi_turn (a1 : Int) (g : Gx) (r : Int) (g' : Gx) (h : Hi_turn a1 g = some (r, g')) : Ev 72 0 [some (.inr (.inr 33)), some (.inl a1), none, none] [] g (some (.inl r)) g' := by
  rw [Hi_turn] at h
  refine ev_runs 5 (0, [some (.inr (.inr 33)), some (.inl a1), none, none], [], g) (7, [some (.inr (.inr 33)), some (.inl a1), some (.inl (wr ((g 33 11) - 1))), none], [], g) rfl ?_
  refine ev_le (L := [some (.inr (.inr 33)), some (.inl a1), some (.inl (wr ((g 33 11) - 1))), none]) (by simp [Lle]) ?_
  refine ev_Hi_turn_l7 a1 _ ?_ fu (wr ((g 33 11) - 1)) g r g' h
  · intro g1 r g' h
    refine ev_runs 1 (90, [none, none, none, none], [], g1) (91, [none, none, none, none], [.inl 0], g1) rfl ?_
    cases h
    exact er rfl
