/-! Methods as functions, and that the small machine does them. Printed by wip/gen/gen_parts.py. -/
def Pg_read_l18 (K18_209 : Int → Gx → Option (Int × Gx)) : Nat → Int → Int → Gx → Option (Int × Gx)
  | 0, _, _, _ => none
  | n18 + 1, v1, v2, g =>
    if (Tx_length4 g) ≤ v2 then
      K18_209 v1 g
    else
      if ¬ (Tx_at4 v2 g) = 124 then
        if (Tx_at4 v2 g) = 33 then
          if ¬ (Op_isTalkerLetter (Tx_at4 (wr (v2 + 1)) g)) = 0 then
            if ¬ (Op_isWordLetter (Tx_at4 (wr (v2 + 2)) g)) = 0 then
              lett (if ¬ (Tx_at4 v2 g) = 33 then 20000 else 10000) (fun y1 =>
              Pg_read_l18 K18_209 n18 (wr (v1 + 1)) (wr (v2 + 3)) (rset (rset (rset g 71 80 v1 y1) 73 80 v1 (wr ((Tx_at4 (wr (v2 + 1)) (rset g 71 80 v1 y1)) - 65))) 75 80 v1 (wr ((Tx_at4 (wr (v2 + 2)) (rset (rset g 71 80 v1 y1) 73 80 v1 (wr ((Tx_at4 (wr (v2 + 1)) (rset g 71 80 v1 y1)) - 65)))) - 97))))
            else
              some ((wr (v2 + 2)), g)
          else
            some ((wr (v2 + 1)), g)
        else
          if (Tx_at4 v2 g) = 63 then
            if ¬ (Op_isTalkerLetter (Tx_at4 (wr (v2 + 1)) g)) = 0 then
              if ¬ (Op_isWordLetter (Tx_at4 (wr (v2 + 2)) g)) = 0 then
                lett (if ¬ (Tx_at4 v2 g) = 33 then 20000 else 10000) (fun y2 =>
                Pg_read_l18 K18_209 n18 (wr (v1 + 1)) (wr (v2 + 3)) (rset (rset (rset g 71 80 v1 y2) 73 80 v1 (wr ((Tx_at4 (wr (v2 + 1)) (rset g 71 80 v1 y2)) - 65))) 75 80 v1 (wr ((Tx_at4 (wr (v2 + 2)) (rset (rset g 71 80 v1 y2) 73 80 v1 (wr ((Tx_at4 (wr (v2 + 1)) (rset g 71 80 v1 y2)) - 65)))) - 97))))
              else
                some ((wr (v2 + 2)), g)
            else
              some ((wr (v2 + 1)), g)
          else
            some (v2, g)
      else
        if 8 ≤ (g 69 7) then
          if (Tx_at4 v2 g) = 33 then
            if ¬ (Op_isTalkerLetter (Tx_at4 (wr (v2 + 1)) g)) = 0 then
              if ¬ (Op_isWordLetter (Tx_at4 (wr (v2 + 2)) g)) = 0 then
                lett (if ¬ (Tx_at4 v2 g) = 33 then 20000 else 10000) (fun y3 =>
                Pg_read_l18 K18_209 n18 (wr (v1 + 1)) (wr (v2 + 3)) (rset (rset (rset g 71 80 v1 y3) 73 80 v1 (wr ((Tx_at4 (wr (v2 + 1)) (rset g 71 80 v1 y3)) - 65))) 75 80 v1 (wr ((Tx_at4 (wr (v2 + 2)) (rset (rset g 71 80 v1 y3) 73 80 v1 (wr ((Tx_at4 (wr (v2 + 1)) (rset g 71 80 v1 y3)) - 65)))) - 97))))
              else
                some ((wr (v2 + 2)), g)
            else
              some ((wr (v2 + 1)), g)
          else
            if (Tx_at4 v2 g) = 63 then
              if ¬ (Op_isTalkerLetter (Tx_at4 (wr (v2 + 1)) g)) = 0 then
                if ¬ (Op_isWordLetter (Tx_at4 (wr (v2 + 2)) g)) = 0 then
                  lett (if ¬ (Tx_at4 v2 g) = 33 then 20000 else 10000) (fun y4 =>
                  Pg_read_l18 K18_209 n18 (wr (v1 + 1)) (wr (v2 + 3)) (rset (rset (rset g 71 80 v1 y4) 73 80 v1 (wr ((Tx_at4 (wr (v2 + 1)) (rset g 71 80 v1 y4)) - 65))) 75 80 v1 (wr ((Tx_at4 (wr (v2 + 2)) (rset (rset g 71 80 v1 y4) 73 80 v1 (wr ((Tx_at4 (wr (v2 + 1)) (rset g 71 80 v1 y4)) - 65)))) - 97))))
                else
                  some ((wr (v2 + 2)), g)
              else
                some ((wr (v2 + 1)), g)
            else
              some (v2, g)
        else
          Pg_read_l18 K18_209 n18 v1 (wr (v2 + 1)) (gset (rset g 77 9 (g 69 7) v1) 69 7 (wr ((g 69 7) + 1)))
def Pg_read (g : Gx) : Option (Int × Gx) :=
  Pg_read_l18
    (fun x5 g6 =>
      some ((-1), (rset g6 77 9 (g6 69 7) x5)))
    fu 0 0 (rset (gset g 69 7 1) 77 9 0 0)
set_option maxRecDepth 100000 in
set_option maxHeartbeats 4000000 in
theorem ev_Pg_read_l18 (K18_209 : Int → Gx → Option (Int × Gx)) (hK18_209 : ∀ (x1 : Int) (g : Gx) (r : Int) (g' : Gx), K18_209 x1 g = some (r, g') → Ev 33 209 [some (.inr (.inr 69)), some (.inl x1), none, none] [] g (some (.inl r)) g') : ∀ (n18 : Nat) (v1 v2 : Int) (g : Gx) (r : Int) (g' : Gx), Pg_read_l18 K18_209 n18 v1 v2 g = some (r, g') → Ev 33 18 [some (.inr (.inr 69)), some (.inl v1), some (.inl v2), none] [] g (some (.inl r)) g' := by
  intro n18
  induction n18 with
  | zero => intro v1 v2 g r g' h; cases h
  | succ n18 ih18 =>
    intro v1 v2 g r g' h
    rw [Pg_read_l18] at h
    refine ev_runs 3 (18, [some (.inr (.inr 69)), some (.inl v1), some (.inl v2), none], [], g) (23, [some (.inr (.inr 69)), some (.inl v1), some (.inl v2), none], [.inr (.inr 4), .inl v2], g) rfl ?_
    refine ec 2 26 [.inr (.inr 4)] [.inl v2] rfl (ev_Tx_length4 g _ rfl) ?_
    show Ev 33 26 [some (.inr (.inr 69)), some (.inl v1), some (.inl v2), none] [.inl (Tx_length4 g), .inl v2] g _ _
    by_cases hc : (Tx_length4 g) ≤ v2
    · rw [if_pos hc] at h
      refine es (209, [some (.inr (.inr 69)), some (.inl v1), some (.inl v2), none], [], g) (congrArg some (if_pos hc)) ?_
      exact ev_le (L := [some (.inr (.inr 69)), some (.inl v1), none, none]) (by simp [Lle]) (hK18_209 v1 g r g' h)
    · rw [if_neg hc] at h
      refine es (29, [some (.inr (.inr 69)), some (.inl v1), some (.inl v2), none], [], g) (congrArg some (if_neg hc)) ?_
      refine ev_runs 3 (29, [some (.inr (.inr 69)), some (.inl v1), some (.inl v2), none], [], g) (34, [some (.inr (.inr 69)), some (.inl v1), some (.inl v2), none], [.inl v2, .inr (.inr 4)], g) rfl ?_
      refine ec 14 37 [.inr (.inr 4), .inl v2] [] rfl (ev_Tx_at4 v2 g _ rfl) ?_
      show Ev 33 37 [some (.inr (.inr 69)), some (.inl v1), some (.inl v2), none] [.inl (Tx_at4 v2 g)] g _ _
      refine ev_runs 3 (37, [some (.inr (.inr 69)), some (.inl v1), some (.inl v2), none], [.inl (Tx_at4 v2 g)], g) (41, [some (.inr (.inr 69)), some (.inl v1), some (.inl v2), some (.inl (Tx_at4 v2 g))], [.inl 124, .inl (Tx_at4 v2 g)], g) rfl ?_
      by_cases hc : ¬ (Tx_at4 v2 g) = 124
      · rw [if_pos hc] at h
        refine es (81, [some (.inr (.inr 69)), some (.inl v1), some (.inl v2), some (.inl (Tx_at4 v2 g))], [], g) (congrArg some (if_pos hc)) ?_
        refine ev_runs 2 (81, [some (.inr (.inr 69)), some (.inl v1), some (.inl v2), some (.inl (Tx_at4 v2 g))], [], g) (84, [some (.inr (.inr 69)), some (.inl v1), some (.inl v2), some (.inl (Tx_at4 v2 g))], [.inl 33, .inl (Tx_at4 v2 g)], g) rfl ?_
        by_cases hc : (Tx_at4 v2 g) = 33
        · rw [if_pos hc] at h
          refine es (95, [some (.inr (.inr 69)), some (.inl v1), some (.inl v2), some (.inl (Tx_at4 v2 g))], [], g) (congrArg some (if_pos hc)) ?_
          refine ev_runs 5 (95, [some (.inr (.inr 69)), some (.inl v1), some (.inl v2), some (.inl (Tx_at4 v2 g))], [], g) (102, [some (.inr (.inr 69)), some (.inl v1), some (.inl v2), some (.inl (Tx_at4 v2 g))], [.inl (wr (v2 + 1)), .inr (.inr 4)], g) rfl ?_
          refine ec 14 105 [.inr (.inr 4), .inl (wr (v2 + 1))] [] rfl (ev_Tx_at4 (wr (v2 + 1)) g _ rfl) ?_
          show Ev 33 105 [some (.inr (.inr 69)), some (.inl v1), some (.inl v2), some (.inl (Tx_at4 v2 g))] [.inl (Tx_at4 (wr (v2 + 1)) g)] g _ _
          refine ec 15 108 [.inl (Tx_at4 (wr (v2 + 1)) g)] [] rfl (ev_Op_isTalkerLetter (Tx_at4 (wr (v2 + 1)) g) g _ rfl) ?_
          show Ev 33 108 [some (.inr (.inr 69)), some (.inl v1), some (.inl v2), some (.inl (Tx_at4 v2 g))] [.inl (Op_isTalkerLetter (Tx_at4 (wr (v2 + 1)) g))] g _ _
          by_cases hc : ¬ (Op_isTalkerLetter (Tx_at4 (wr (v2 + 1)) g)) = 0
          · rw [if_pos hc] at h
            refine es (115, [some (.inr (.inr 69)), some (.inl v1), some (.inl v2), some (.inl (Tx_at4 v2 g))], [], g) (congrArg some (if_pos hc)) ?_
            refine ev_runs 5 (115, [some (.inr (.inr 69)), some (.inl v1), some (.inl v2), some (.inl (Tx_at4 v2 g))], [], g) (122, [some (.inr (.inr 69)), some (.inl v1), some (.inl v2), some (.inl (Tx_at4 v2 g))], [.inl (wr (v2 + 2)), .inr (.inr 4)], g) rfl ?_
            refine ec 14 125 [.inr (.inr 4), .inl (wr (v2 + 2))] [] rfl (ev_Tx_at4 (wr (v2 + 2)) g _ rfl) ?_
            show Ev 33 125 [some (.inr (.inr 69)), some (.inl v1), some (.inl v2), some (.inl (Tx_at4 v2 g))] [.inl (Tx_at4 (wr (v2 + 2)) g)] g _ _
            refine ec 17 128 [.inl (Tx_at4 (wr (v2 + 2)) g)] [] rfl (ev_Op_isWordLetter (Tx_at4 (wr (v2 + 2)) g) g _ rfl) ?_
            show Ev 33 128 [some (.inr (.inr 69)), some (.inl v1), some (.inl v2), some (.inl (Tx_at4 v2 g))] [.inl (Op_isWordLetter (Tx_at4 (wr (v2 + 2)) g))] g _ _
            by_cases hc : ¬ (Op_isWordLetter (Tx_at4 (wr (v2 + 2)) g)) = 0
            · rw [if_pos hc] at h
              refine es (135, [some (.inr (.inr 69)), some (.inl v1), some (.inl v2), some (.inl (Tx_at4 v2 g))], [], g) (congrArg some (if_pos hc)) ?_
              refine ev_runs 5 (135, [some (.inr (.inr 69)), some (.inl v1), some (.inl v2), some (.inl (Tx_at4 v2 g))], [], g) (143, [some (.inr (.inr 69)), some (.inl v1), some (.inl v2), some (.inl (Tx_at4 v2 g))], [.inl 33, .inl (Tx_at4 v2 g), .inl v1, .inr (.inr 70)], g) rfl ?_
              obtain ⟨y1, hy1, h⟩ := lett_inv h
              have hjy1 : Ev 33 155 [some (.inr (.inr 69)), some (.inl v1), some (.inl v2), none] [.inl y1, .inl v1, .inr (.inr 70)] g (some (.inl r)) g' := by
                refine ec 0 158 [.inr (.inr 70), .inl v1, .inl y1] [] rfl (ev_Row_set rfl rfl _ _ _) ?_
                show Ev 33 158 [some (.inr (.inr 69)), some (.inl v1), some (.inl v2), none] [] (rset g 71 80 v1 y1) _ _
                refine ev_runs 8 (158, [some (.inr (.inr 69)), some (.inl v1), some (.inl v2), none], [], (rset g 71 80 v1 y1)) (170, [some (.inr (.inr 69)), some (.inl v1), some (.inl v2), none], [.inl (wr (v2 + 1)), .inr (.inr 4), .inl v1, .inr (.inr 72)], (rset g 71 80 v1 y1)) rfl ?_
                refine ec 14 173 [.inr (.inr 4), .inl (wr (v2 + 1))] [.inl v1, .inr (.inr 72)] rfl (ev_Tx_at4 (wr (v2 + 1)) (rset g 71 80 v1 y1) _ rfl) ?_
                show Ev 33 173 [some (.inr (.inr 69)), some (.inl v1), some (.inl v2), none] [.inl (Tx_at4 (wr (v2 + 1)) (rset g 71 80 v1 y1)), .inl v1, .inr (.inr 72)] (rset g 71 80 v1 y1) _ _
                refine ev_runs 2 (173, [some (.inr (.inr 69)), some (.inl v1), some (.inl v2), none], [.inl (Tx_at4 (wr (v2 + 1)) (rset g 71 80 v1 y1)), .inl v1, .inr (.inr 72)], (rset g 71 80 v1 y1)) (176, [some (.inr (.inr 69)), some (.inl v1), some (.inl v2), none], [.inl (wr ((Tx_at4 (wr (v2 + 1)) (rset g 71 80 v1 y1)) - 65)), .inl v1, .inr (.inr 72)], (rset g 71 80 v1 y1)) rfl ?_
                refine ec 0 179 [.inr (.inr 72), .inl v1, .inl (wr ((Tx_at4 (wr (v2 + 1)) (rset g 71 80 v1 y1)) - 65))] [] rfl (ev_Row_set rfl rfl _ _ _) ?_
                show Ev 33 179 [some (.inr (.inr 69)), some (.inl v1), some (.inl v2), none] [] (rset (rset g 71 80 v1 y1) 73 80 v1 (wr ((Tx_at4 (wr (v2 + 1)) (rset g 71 80 v1 y1)) - 65))) _ _
                refine ev_runs 8 (179, [some (.inr (.inr 69)), some (.inl v1), some (.inl v2), none], [], (rset (rset g 71 80 v1 y1) 73 80 v1 (wr ((Tx_at4 (wr (v2 + 1)) (rset g 71 80 v1 y1)) - 65)))) (191, [some (.inr (.inr 69)), some (.inl v1), some (.inl v2), none], [.inl (wr (v2 + 2)), .inr (.inr 4), .inl v1, .inr (.inr 74)], (rset (rset g 71 80 v1 y1) 73 80 v1 (wr ((Tx_at4 (wr (v2 + 1)) (rset g 71 80 v1 y1)) - 65)))) rfl ?_
                refine ec 14 194 [.inr (.inr 4), .inl (wr (v2 + 2))] [.inl v1, .inr (.inr 74)] rfl (ev_Tx_at4 (wr (v2 + 2)) (rset (rset g 71 80 v1 y1) 73 80 v1 (wr ((Tx_at4 (wr (v2 + 1)) (rset g 71 80 v1 y1)) - 65))) _ rfl) ?_
                show Ev 33 194 [some (.inr (.inr 69)), some (.inl v1), some (.inl v2), none] [.inl (Tx_at4 (wr (v2 + 2)) (rset (rset g 71 80 v1 y1) 73 80 v1 (wr ((Tx_at4 (wr (v2 + 1)) (rset g 71 80 v1 y1)) - 65)))), .inl v1, .inr (.inr 74)] (rset (rset g 71 80 v1 y1) 73 80 v1 (wr ((Tx_at4 (wr (v2 + 1)) (rset g 71 80 v1 y1)) - 65))) _ _
                refine ev_runs 2 (194, [some (.inr (.inr 69)), some (.inl v1), some (.inl v2), none], [.inl (Tx_at4 (wr (v2 + 2)) (rset (rset g 71 80 v1 y1) 73 80 v1 (wr ((Tx_at4 (wr (v2 + 1)) (rset g 71 80 v1 y1)) - 65)))), .inl v1, .inr (.inr 74)], (rset (rset g 71 80 v1 y1) 73 80 v1 (wr ((Tx_at4 (wr (v2 + 1)) (rset g 71 80 v1 y1)) - 65)))) (197, [some (.inr (.inr 69)), some (.inl v1), some (.inl v2), none], [.inl (wr ((Tx_at4 (wr (v2 + 2)) (rset (rset g 71 80 v1 y1) 73 80 v1 (wr ((Tx_at4 (wr (v2 + 1)) (rset g 71 80 v1 y1)) - 65)))) - 97)), .inl v1, .inr (.inr 74)], (rset (rset g 71 80 v1 y1) 73 80 v1 (wr ((Tx_at4 (wr (v2 + 1)) (rset g 71 80 v1 y1)) - 65)))) rfl ?_
                refine ec 0 200 [.inr (.inr 74), .inl v1, .inl (wr ((Tx_at4 (wr (v2 + 2)) (rset (rset g 71 80 v1 y1) 73 80 v1 (wr ((Tx_at4 (wr (v2 + 1)) (rset g 71 80 v1 y1)) - 65)))) - 97))] [] rfl (ev_Row_set rfl rfl _ _ _) ?_
                show Ev 33 200 [some (.inr (.inr 69)), some (.inl v1), some (.inl v2), none] [] (rset (rset (rset g 71 80 v1 y1) 73 80 v1 (wr ((Tx_at4 (wr (v2 + 1)) (rset g 71 80 v1 y1)) - 65))) 75 80 v1 (wr ((Tx_at4 (wr (v2 + 2)) (rset (rset g 71 80 v1 y1) 73 80 v1 (wr ((Tx_at4 (wr (v2 + 1)) (rset g 71 80 v1 y1)) - 65)))) - 97))) _ _
                refine ev_runs 3 (200, [some (.inr (.inr 69)), some (.inl v1), some (.inl v2), none], [], (rset (rset (rset g 71 80 v1 y1) 73 80 v1 (wr ((Tx_at4 (wr (v2 + 1)) (rset g 71 80 v1 y1)) - 65))) 75 80 v1 (wr ((Tx_at4 (wr (v2 + 2)) (rset (rset g 71 80 v1 y1) 73 80 v1 (wr ((Tx_at4 (wr (v2 + 1)) (rset g 71 80 v1 y1)) - 65)))) - 97)))) (18, [some (.inr (.inr 69)), some (.inl (wr (v1 + 1))), some (.inl (wr (v2 + 3))), none], [], (rset (rset (rset g 71 80 v1 y1) 73 80 v1 (wr ((Tx_at4 (wr (v2 + 1)) (rset g 71 80 v1 y1)) - 65))) 75 80 v1 (wr ((Tx_at4 (wr (v2 + 2)) (rset (rset g 71 80 v1 y1) 73 80 v1 (wr ((Tx_at4 (wr (v2 + 1)) (rset g 71 80 v1 y1)) - 65)))) - 97)))) rfl ?_
                exact ev_le (L := [some (.inr (.inr 69)), some (.inl (wr (v1 + 1))), some (.inl (wr (v2 + 3))), none]) (by simp [Lle]) (ih18 (wr (v1 + 1)) (wr (v2 + 3)) (rset (rset (rset g 71 80 v1 y1) 73 80 v1 (wr ((Tx_at4 (wr (v2 + 1)) (rset g 71 80 v1 y1)) - 65))) 75 80 v1 (wr ((Tx_at4 (wr (v2 + 2)) (rset (rset g 71 80 v1 y1) 73 80 v1 (wr ((Tx_at4 (wr (v2 + 1)) (rset g 71 80 v1 y1)) - 65)))) - 97))) r g' h)
              by_cases hc : ¬ (Tx_at4 v2 g) = 33
              · rw [if_pos hc] at hy1
                refine es (152, [some (.inr (.inr 69)), some (.inl v1), some (.inl v2), some (.inl (Tx_at4 v2 g))], [.inl v1, .inr (.inr 70)], g) (congrArg some (if_pos hc)) ?_
                refine ev_runs 1 (152, [some (.inr (.inr 69)), some (.inl v1), some (.inl v2), some (.inl (Tx_at4 v2 g))], [.inl v1, .inr (.inr 70)], g) (155, [some (.inr (.inr 69)), some (.inl v1), some (.inl v2), some (.inl (Tx_at4 v2 g))], [.inl 20000, .inl v1, .inr (.inr 70)], g) rfl ?_
                rw [hy1] at hjy1
                exact ev_le (L := [some (.inr (.inr 69)), some (.inl v1), some (.inl v2), none]) (by simp [Lle]) hjy1
              · rw [if_neg hc] at hy1
                refine es (146, [some (.inr (.inr 69)), some (.inl v1), some (.inl v2), some (.inl (Tx_at4 v2 g))], [.inl v1, .inr (.inr 70)], g) (congrArg some (if_neg hc)) ?_
                refine ev_runs 2 (146, [some (.inr (.inr 69)), some (.inl v1), some (.inl v2), some (.inl (Tx_at4 v2 g))], [.inl v1, .inr (.inr 70)], g) (155, [some (.inr (.inr 69)), some (.inl v1), some (.inl v2), some (.inl (Tx_at4 v2 g))], [.inl 10000, .inl v1, .inr (.inr 70)], g) rfl ?_
                rw [hy1] at hjy1
                exact ev_le (L := [some (.inr (.inr 69)), some (.inl v1), some (.inl v2), none]) (by simp [Lle]) hjy1
            · rw [if_neg hc] at h
              refine es (131, [some (.inr (.inr 69)), some (.inl v1), some (.inl v2), some (.inl (Tx_at4 v2 g))], [], g) (congrArg some (if_neg hc)) ?_
              refine ev_runs 3 (131, [some (.inr (.inr 69)), some (.inl v1), some (.inl v2), some (.inl (Tx_at4 v2 g))], [], g) (134, [some (.inr (.inr 69)), some (.inl v1), some (.inl v2), some (.inl (Tx_at4 v2 g))], [.inl (wr (v2 + 2))], g) rfl ?_
              cases h
              exact er rfl
          · rw [if_neg hc] at h
            refine es (111, [some (.inr (.inr 69)), some (.inl v1), some (.inl v2), some (.inl (Tx_at4 v2 g))], [], g) (congrArg some (if_neg hc)) ?_
            refine ev_runs 3 (111, [some (.inr (.inr 69)), some (.inl v1), some (.inl v2), some (.inl (Tx_at4 v2 g))], [], g) (114, [some (.inr (.inr 69)), some (.inl v1), some (.inl v2), some (.inl (Tx_at4 v2 g))], [.inl (wr (v2 + 1))], g) rfl ?_
            cases h
            exact er rfl
        · rw [if_neg hc] at h
          refine es (87, [some (.inr (.inr 69)), some (.inl v1), some (.inl v2), some (.inl (Tx_at4 v2 g))], [], g) (congrArg some (if_neg hc)) ?_
          refine ev_runs 2 (87, [some (.inr (.inr 69)), some (.inl v1), some (.inl v2), some (.inl (Tx_at4 v2 g))], [], g) (90, [some (.inr (.inr 69)), some (.inl v1), some (.inl v2), some (.inl (Tx_at4 v2 g))], [.inl 63, .inl (Tx_at4 v2 g)], g) rfl ?_
          by_cases hc : (Tx_at4 v2 g) = 63
          · rw [if_pos hc] at h
            refine es (95, [some (.inr (.inr 69)), some (.inl v1), some (.inl v2), some (.inl (Tx_at4 v2 g))], [], g) (congrArg some (if_pos hc)) ?_
            refine ev_runs 5 (95, [some (.inr (.inr 69)), some (.inl v1), some (.inl v2), some (.inl (Tx_at4 v2 g))], [], g) (102, [some (.inr (.inr 69)), some (.inl v1), some (.inl v2), some (.inl (Tx_at4 v2 g))], [.inl (wr (v2 + 1)), .inr (.inr 4)], g) rfl ?_
            refine ec 14 105 [.inr (.inr 4), .inl (wr (v2 + 1))] [] rfl (ev_Tx_at4 (wr (v2 + 1)) g _ rfl) ?_
            show Ev 33 105 [some (.inr (.inr 69)), some (.inl v1), some (.inl v2), some (.inl (Tx_at4 v2 g))] [.inl (Tx_at4 (wr (v2 + 1)) g)] g _ _
            refine ec 15 108 [.inl (Tx_at4 (wr (v2 + 1)) g)] [] rfl (ev_Op_isTalkerLetter (Tx_at4 (wr (v2 + 1)) g) g _ rfl) ?_
            show Ev 33 108 [some (.inr (.inr 69)), some (.inl v1), some (.inl v2), some (.inl (Tx_at4 v2 g))] [.inl (Op_isTalkerLetter (Tx_at4 (wr (v2 + 1)) g))] g _ _
            by_cases hc : ¬ (Op_isTalkerLetter (Tx_at4 (wr (v2 + 1)) g)) = 0
            · rw [if_pos hc] at h
              refine es (115, [some (.inr (.inr 69)), some (.inl v1), some (.inl v2), some (.inl (Tx_at4 v2 g))], [], g) (congrArg some (if_pos hc)) ?_
              refine ev_runs 5 (115, [some (.inr (.inr 69)), some (.inl v1), some (.inl v2), some (.inl (Tx_at4 v2 g))], [], g) (122, [some (.inr (.inr 69)), some (.inl v1), some (.inl v2), some (.inl (Tx_at4 v2 g))], [.inl (wr (v2 + 2)), .inr (.inr 4)], g) rfl ?_
              refine ec 14 125 [.inr (.inr 4), .inl (wr (v2 + 2))] [] rfl (ev_Tx_at4 (wr (v2 + 2)) g _ rfl) ?_
              show Ev 33 125 [some (.inr (.inr 69)), some (.inl v1), some (.inl v2), some (.inl (Tx_at4 v2 g))] [.inl (Tx_at4 (wr (v2 + 2)) g)] g _ _
              refine ec 17 128 [.inl (Tx_at4 (wr (v2 + 2)) g)] [] rfl (ev_Op_isWordLetter (Tx_at4 (wr (v2 + 2)) g) g _ rfl) ?_
              show Ev 33 128 [some (.inr (.inr 69)), some (.inl v1), some (.inl v2), some (.inl (Tx_at4 v2 g))] [.inl (Op_isWordLetter (Tx_at4 (wr (v2 + 2)) g))] g _ _
              by_cases hc : ¬ (Op_isWordLetter (Tx_at4 (wr (v2 + 2)) g)) = 0
              · rw [if_pos hc] at h
                refine es (135, [some (.inr (.inr 69)), some (.inl v1), some (.inl v2), some (.inl (Tx_at4 v2 g))], [], g) (congrArg some (if_pos hc)) ?_
                refine ev_runs 5 (135, [some (.inr (.inr 69)), some (.inl v1), some (.inl v2), some (.inl (Tx_at4 v2 g))], [], g) (143, [some (.inr (.inr 69)), some (.inl v1), some (.inl v2), some (.inl (Tx_at4 v2 g))], [.inl 33, .inl (Tx_at4 v2 g), .inl v1, .inr (.inr 70)], g) rfl ?_
                obtain ⟨y2, hy2, h⟩ := lett_inv h
                have hjy2 : Ev 33 155 [some (.inr (.inr 69)), some (.inl v1), some (.inl v2), none] [.inl y2, .inl v1, .inr (.inr 70)] g (some (.inl r)) g' := by
                  refine ec 0 158 [.inr (.inr 70), .inl v1, .inl y2] [] rfl (ev_Row_set rfl rfl _ _ _) ?_
                  show Ev 33 158 [some (.inr (.inr 69)), some (.inl v1), some (.inl v2), none] [] (rset g 71 80 v1 y2) _ _
                  refine ev_runs 8 (158, [some (.inr (.inr 69)), some (.inl v1), some (.inl v2), none], [], (rset g 71 80 v1 y2)) (170, [some (.inr (.inr 69)), some (.inl v1), some (.inl v2), none], [.inl (wr (v2 + 1)), .inr (.inr 4), .inl v1, .inr (.inr 72)], (rset g 71 80 v1 y2)) rfl ?_
                  refine ec 14 173 [.inr (.inr 4), .inl (wr (v2 + 1))] [.inl v1, .inr (.inr 72)] rfl (ev_Tx_at4 (wr (v2 + 1)) (rset g 71 80 v1 y2) _ rfl) ?_
                  show Ev 33 173 [some (.inr (.inr 69)), some (.inl v1), some (.inl v2), none] [.inl (Tx_at4 (wr (v2 + 1)) (rset g 71 80 v1 y2)), .inl v1, .inr (.inr 72)] (rset g 71 80 v1 y2) _ _
                  refine ev_runs 2 (173, [some (.inr (.inr 69)), some (.inl v1), some (.inl v2), none], [.inl (Tx_at4 (wr (v2 + 1)) (rset g 71 80 v1 y2)), .inl v1, .inr (.inr 72)], (rset g 71 80 v1 y2)) (176, [some (.inr (.inr 69)), some (.inl v1), some (.inl v2), none], [.inl (wr ((Tx_at4 (wr (v2 + 1)) (rset g 71 80 v1 y2)) - 65)), .inl v1, .inr (.inr 72)], (rset g 71 80 v1 y2)) rfl ?_
                  refine ec 0 179 [.inr (.inr 72), .inl v1, .inl (wr ((Tx_at4 (wr (v2 + 1)) (rset g 71 80 v1 y2)) - 65))] [] rfl (ev_Row_set rfl rfl _ _ _) ?_
                  show Ev 33 179 [some (.inr (.inr 69)), some (.inl v1), some (.inl v2), none] [] (rset (rset g 71 80 v1 y2) 73 80 v1 (wr ((Tx_at4 (wr (v2 + 1)) (rset g 71 80 v1 y2)) - 65))) _ _
                  refine ev_runs 8 (179, [some (.inr (.inr 69)), some (.inl v1), some (.inl v2), none], [], (rset (rset g 71 80 v1 y2) 73 80 v1 (wr ((Tx_at4 (wr (v2 + 1)) (rset g 71 80 v1 y2)) - 65)))) (191, [some (.inr (.inr 69)), some (.inl v1), some (.inl v2), none], [.inl (wr (v2 + 2)), .inr (.inr 4), .inl v1, .inr (.inr 74)], (rset (rset g 71 80 v1 y2) 73 80 v1 (wr ((Tx_at4 (wr (v2 + 1)) (rset g 71 80 v1 y2)) - 65)))) rfl ?_
                  refine ec 14 194 [.inr (.inr 4), .inl (wr (v2 + 2))] [.inl v1, .inr (.inr 74)] rfl (ev_Tx_at4 (wr (v2 + 2)) (rset (rset g 71 80 v1 y2) 73 80 v1 (wr ((Tx_at4 (wr (v2 + 1)) (rset g 71 80 v1 y2)) - 65))) _ rfl) ?_
                  show Ev 33 194 [some (.inr (.inr 69)), some (.inl v1), some (.inl v2), none] [.inl (Tx_at4 (wr (v2 + 2)) (rset (rset g 71 80 v1 y2) 73 80 v1 (wr ((Tx_at4 (wr (v2 + 1)) (rset g 71 80 v1 y2)) - 65)))), .inl v1, .inr (.inr 74)] (rset (rset g 71 80 v1 y2) 73 80 v1 (wr ((Tx_at4 (wr (v2 + 1)) (rset g 71 80 v1 y2)) - 65))) _ _
                  refine ev_runs 2 (194, [some (.inr (.inr 69)), some (.inl v1), some (.inl v2), none], [.inl (Tx_at4 (wr (v2 + 2)) (rset (rset g 71 80 v1 y2) 73 80 v1 (wr ((Tx_at4 (wr (v2 + 1)) (rset g 71 80 v1 y2)) - 65)))), .inl v1, .inr (.inr 74)], (rset (rset g 71 80 v1 y2) 73 80 v1 (wr ((Tx_at4 (wr (v2 + 1)) (rset g 71 80 v1 y2)) - 65)))) (197, [some (.inr (.inr 69)), some (.inl v1), some (.inl v2), none], [.inl (wr ((Tx_at4 (wr (v2 + 2)) (rset (rset g 71 80 v1 y2) 73 80 v1 (wr ((Tx_at4 (wr (v2 + 1)) (rset g 71 80 v1 y2)) - 65)))) - 97)), .inl v1, .inr (.inr 74)], (rset (rset g 71 80 v1 y2) 73 80 v1 (wr ((Tx_at4 (wr (v2 + 1)) (rset g 71 80 v1 y2)) - 65)))) rfl ?_
                  refine ec 0 200 [.inr (.inr 74), .inl v1, .inl (wr ((Tx_at4 (wr (v2 + 2)) (rset (rset g 71 80 v1 y2) 73 80 v1 (wr ((Tx_at4 (wr (v2 + 1)) (rset g 71 80 v1 y2)) - 65)))) - 97))] [] rfl (ev_Row_set rfl rfl _ _ _) ?_
                  show Ev 33 200 [some (.inr (.inr 69)), some (.inl v1), some (.inl v2), none] [] (rset (rset (rset g 71 80 v1 y2) 73 80 v1 (wr ((Tx_at4 (wr (v2 + 1)) (rset g 71 80 v1 y2)) - 65))) 75 80 v1 (wr ((Tx_at4 (wr (v2 + 2)) (rset (rset g 71 80 v1 y2) 73 80 v1 (wr ((Tx_at4 (wr (v2 + 1)) (rset g 71 80 v1 y2)) - 65)))) - 97))) _ _
                  refine ev_runs 3 (200, [some (.inr (.inr 69)), some (.inl v1), some (.inl v2), none], [], (rset (rset (rset g 71 80 v1 y2) 73 80 v1 (wr ((Tx_at4 (wr (v2 + 1)) (rset g 71 80 v1 y2)) - 65))) 75 80 v1 (wr ((Tx_at4 (wr (v2 + 2)) (rset (rset g 71 80 v1 y2) 73 80 v1 (wr ((Tx_at4 (wr (v2 + 1)) (rset g 71 80 v1 y2)) - 65)))) - 97)))) (18, [some (.inr (.inr 69)), some (.inl (wr (v1 + 1))), some (.inl (wr (v2 + 3))), none], [], (rset (rset (rset g 71 80 v1 y2) 73 80 v1 (wr ((Tx_at4 (wr (v2 + 1)) (rset g 71 80 v1 y2)) - 65))) 75 80 v1 (wr ((Tx_at4 (wr (v2 + 2)) (rset (rset g 71 80 v1 y2) 73 80 v1 (wr ((Tx_at4 (wr (v2 + 1)) (rset g 71 80 v1 y2)) - 65)))) - 97)))) rfl ?_
                  exact ev_le (L := [some (.inr (.inr 69)), some (.inl (wr (v1 + 1))), some (.inl (wr (v2 + 3))), none]) (by simp [Lle]) (ih18 (wr (v1 + 1)) (wr (v2 + 3)) (rset (rset (rset g 71 80 v1 y2) 73 80 v1 (wr ((Tx_at4 (wr (v2 + 1)) (rset g 71 80 v1 y2)) - 65))) 75 80 v1 (wr ((Tx_at4 (wr (v2 + 2)) (rset (rset g 71 80 v1 y2) 73 80 v1 (wr ((Tx_at4 (wr (v2 + 1)) (rset g 71 80 v1 y2)) - 65)))) - 97))) r g' h)
                by_cases hc : ¬ (Tx_at4 v2 g) = 33
                · rw [if_pos hc] at hy2
                  refine es (152, [some (.inr (.inr 69)), some (.inl v1), some (.inl v2), some (.inl (Tx_at4 v2 g))], [.inl v1, .inr (.inr 70)], g) (congrArg some (if_pos hc)) ?_
                  refine ev_runs 1 (152, [some (.inr (.inr 69)), some (.inl v1), some (.inl v2), some (.inl (Tx_at4 v2 g))], [.inl v1, .inr (.inr 70)], g) (155, [some (.inr (.inr 69)), some (.inl v1), some (.inl v2), some (.inl (Tx_at4 v2 g))], [.inl 20000, .inl v1, .inr (.inr 70)], g) rfl ?_
                  rw [hy2] at hjy2
                  exact ev_le (L := [some (.inr (.inr 69)), some (.inl v1), some (.inl v2), none]) (by simp [Lle]) hjy2
                · rw [if_neg hc] at hy2
                  refine es (146, [some (.inr (.inr 69)), some (.inl v1), some (.inl v2), some (.inl (Tx_at4 v2 g))], [.inl v1, .inr (.inr 70)], g) (congrArg some (if_neg hc)) ?_
                  refine ev_runs 2 (146, [some (.inr (.inr 69)), some (.inl v1), some (.inl v2), some (.inl (Tx_at4 v2 g))], [.inl v1, .inr (.inr 70)], g) (155, [some (.inr (.inr 69)), some (.inl v1), some (.inl v2), some (.inl (Tx_at4 v2 g))], [.inl 10000, .inl v1, .inr (.inr 70)], g) rfl ?_
                  rw [hy2] at hjy2
                  exact ev_le (L := [some (.inr (.inr 69)), some (.inl v1), some (.inl v2), none]) (by simp [Lle]) hjy2
              · rw [if_neg hc] at h
                refine es (131, [some (.inr (.inr 69)), some (.inl v1), some (.inl v2), some (.inl (Tx_at4 v2 g))], [], g) (congrArg some (if_neg hc)) ?_
                refine ev_runs 3 (131, [some (.inr (.inr 69)), some (.inl v1), some (.inl v2), some (.inl (Tx_at4 v2 g))], [], g) (134, [some (.inr (.inr 69)), some (.inl v1), some (.inl v2), some (.inl (Tx_at4 v2 g))], [.inl (wr (v2 + 2))], g) rfl ?_
                cases h
                exact er rfl
            · rw [if_neg hc] at h
              refine es (111, [some (.inr (.inr 69)), some (.inl v1), some (.inl v2), some (.inl (Tx_at4 v2 g))], [], g) (congrArg some (if_neg hc)) ?_
              refine ev_runs 3 (111, [some (.inr (.inr 69)), some (.inl v1), some (.inl v2), some (.inl (Tx_at4 v2 g))], [], g) (114, [some (.inr (.inr 69)), some (.inl v1), some (.inl v2), some (.inl (Tx_at4 v2 g))], [.inl (wr (v2 + 1))], g) rfl ?_
              cases h
              exact er rfl
          · rw [if_neg hc] at h
            refine es (93, [some (.inr (.inr 69)), some (.inl v1), some (.inl v2), some (.inl (Tx_at4 v2 g))], [], g) (congrArg some (if_neg hc)) ?_
            refine ev_runs 1 (93, [some (.inr (.inr 69)), some (.inl v1), some (.inl v2), some (.inl (Tx_at4 v2 g))], [], g) (94, [some (.inr (.inr 69)), some (.inl v1), some (.inl v2), some (.inl (Tx_at4 v2 g))], [.inl v2], g) rfl ?_
            cases h
            exact er rfl
      · rw [if_neg hc] at h
        refine es (44, [some (.inr (.inr 69)), some (.inl v1), some (.inl v2), some (.inl (Tx_at4 v2 g))], [], g) (congrArg some (if_neg hc)) ?_
        refine ev_runs 3 (44, [some (.inr (.inr 69)), some (.inl v1), some (.inl v2), some (.inl (Tx_at4 v2 g))], [], g) (50, [some (.inr (.inr 69)), some (.inl v1), some (.inl v2), some (.inl (Tx_at4 v2 g))], [.inl 8, .inl (g 69 7)], g) rfl ?_
        by_cases hc : 8 ≤ (g 69 7)
        · rw [if_pos hc] at h
          refine es (81, [some (.inr (.inr 69)), some (.inl v1), some (.inl v2), some (.inl (Tx_at4 v2 g))], [], g) (congrArg some (if_pos hc)) ?_
          refine ev_runs 2 (81, [some (.inr (.inr 69)), some (.inl v1), some (.inl v2), some (.inl (Tx_at4 v2 g))], [], g) (84, [some (.inr (.inr 69)), some (.inl v1), some (.inl v2), some (.inl (Tx_at4 v2 g))], [.inl 33, .inl (Tx_at4 v2 g)], g) rfl ?_
          by_cases hc : (Tx_at4 v2 g) = 33
          · rw [if_pos hc] at h
            refine es (95, [some (.inr (.inr 69)), some (.inl v1), some (.inl v2), some (.inl (Tx_at4 v2 g))], [], g) (congrArg some (if_pos hc)) ?_
            refine ev_runs 5 (95, [some (.inr (.inr 69)), some (.inl v1), some (.inl v2), some (.inl (Tx_at4 v2 g))], [], g) (102, [some (.inr (.inr 69)), some (.inl v1), some (.inl v2), some (.inl (Tx_at4 v2 g))], [.inl (wr (v2 + 1)), .inr (.inr 4)], g) rfl ?_
            refine ec 14 105 [.inr (.inr 4), .inl (wr (v2 + 1))] [] rfl (ev_Tx_at4 (wr (v2 + 1)) g _ rfl) ?_
            show Ev 33 105 [some (.inr (.inr 69)), some (.inl v1), some (.inl v2), some (.inl (Tx_at4 v2 g))] [.inl (Tx_at4 (wr (v2 + 1)) g)] g _ _
            refine ec 15 108 [.inl (Tx_at4 (wr (v2 + 1)) g)] [] rfl (ev_Op_isTalkerLetter (Tx_at4 (wr (v2 + 1)) g) g _ rfl) ?_
            show Ev 33 108 [some (.inr (.inr 69)), some (.inl v1), some (.inl v2), some (.inl (Tx_at4 v2 g))] [.inl (Op_isTalkerLetter (Tx_at4 (wr (v2 + 1)) g))] g _ _
            by_cases hc : ¬ (Op_isTalkerLetter (Tx_at4 (wr (v2 + 1)) g)) = 0
            · rw [if_pos hc] at h
              refine es (115, [some (.inr (.inr 69)), some (.inl v1), some (.inl v2), some (.inl (Tx_at4 v2 g))], [], g) (congrArg some (if_pos hc)) ?_
              refine ev_runs 5 (115, [some (.inr (.inr 69)), some (.inl v1), some (.inl v2), some (.inl (Tx_at4 v2 g))], [], g) (122, [some (.inr (.inr 69)), some (.inl v1), some (.inl v2), some (.inl (Tx_at4 v2 g))], [.inl (wr (v2 + 2)), .inr (.inr 4)], g) rfl ?_
              refine ec 14 125 [.inr (.inr 4), .inl (wr (v2 + 2))] [] rfl (ev_Tx_at4 (wr (v2 + 2)) g _ rfl) ?_
              show Ev 33 125 [some (.inr (.inr 69)), some (.inl v1), some (.inl v2), some (.inl (Tx_at4 v2 g))] [.inl (Tx_at4 (wr (v2 + 2)) g)] g _ _
              refine ec 17 128 [.inl (Tx_at4 (wr (v2 + 2)) g)] [] rfl (ev_Op_isWordLetter (Tx_at4 (wr (v2 + 2)) g) g _ rfl) ?_
              show Ev 33 128 [some (.inr (.inr 69)), some (.inl v1), some (.inl v2), some (.inl (Tx_at4 v2 g))] [.inl (Op_isWordLetter (Tx_at4 (wr (v2 + 2)) g))] g _ _
              by_cases hc : ¬ (Op_isWordLetter (Tx_at4 (wr (v2 + 2)) g)) = 0
              · rw [if_pos hc] at h
                refine es (135, [some (.inr (.inr 69)), some (.inl v1), some (.inl v2), some (.inl (Tx_at4 v2 g))], [], g) (congrArg some (if_pos hc)) ?_
                refine ev_runs 5 (135, [some (.inr (.inr 69)), some (.inl v1), some (.inl v2), some (.inl (Tx_at4 v2 g))], [], g) (143, [some (.inr (.inr 69)), some (.inl v1), some (.inl v2), some (.inl (Tx_at4 v2 g))], [.inl 33, .inl (Tx_at4 v2 g), .inl v1, .inr (.inr 70)], g) rfl ?_
                obtain ⟨y3, hy3, h⟩ := lett_inv h
                have hjy3 : Ev 33 155 [some (.inr (.inr 69)), some (.inl v1), some (.inl v2), none] [.inl y3, .inl v1, .inr (.inr 70)] g (some (.inl r)) g' := by
                  refine ec 0 158 [.inr (.inr 70), .inl v1, .inl y3] [] rfl (ev_Row_set rfl rfl _ _ _) ?_
                  show Ev 33 158 [some (.inr (.inr 69)), some (.inl v1), some (.inl v2), none] [] (rset g 71 80 v1 y3) _ _
                  refine ev_runs 8 (158, [some (.inr (.inr 69)), some (.inl v1), some (.inl v2), none], [], (rset g 71 80 v1 y3)) (170, [some (.inr (.inr 69)), some (.inl v1), some (.inl v2), none], [.inl (wr (v2 + 1)), .inr (.inr 4), .inl v1, .inr (.inr 72)], (rset g 71 80 v1 y3)) rfl ?_
                  refine ec 14 173 [.inr (.inr 4), .inl (wr (v2 + 1))] [.inl v1, .inr (.inr 72)] rfl (ev_Tx_at4 (wr (v2 + 1)) (rset g 71 80 v1 y3) _ rfl) ?_
                  show Ev 33 173 [some (.inr (.inr 69)), some (.inl v1), some (.inl v2), none] [.inl (Tx_at4 (wr (v2 + 1)) (rset g 71 80 v1 y3)), .inl v1, .inr (.inr 72)] (rset g 71 80 v1 y3) _ _
                  refine ev_runs 2 (173, [some (.inr (.inr 69)), some (.inl v1), some (.inl v2), none], [.inl (Tx_at4 (wr (v2 + 1)) (rset g 71 80 v1 y3)), .inl v1, .inr (.inr 72)], (rset g 71 80 v1 y3)) (176, [some (.inr (.inr 69)), some (.inl v1), some (.inl v2), none], [.inl (wr ((Tx_at4 (wr (v2 + 1)) (rset g 71 80 v1 y3)) - 65)), .inl v1, .inr (.inr 72)], (rset g 71 80 v1 y3)) rfl ?_
                  refine ec 0 179 [.inr (.inr 72), .inl v1, .inl (wr ((Tx_at4 (wr (v2 + 1)) (rset g 71 80 v1 y3)) - 65))] [] rfl (ev_Row_set rfl rfl _ _ _) ?_
                  show Ev 33 179 [some (.inr (.inr 69)), some (.inl v1), some (.inl v2), none] [] (rset (rset g 71 80 v1 y3) 73 80 v1 (wr ((Tx_at4 (wr (v2 + 1)) (rset g 71 80 v1 y3)) - 65))) _ _
                  refine ev_runs 8 (179, [some (.inr (.inr 69)), some (.inl v1), some (.inl v2), none], [], (rset (rset g 71 80 v1 y3) 73 80 v1 (wr ((Tx_at4 (wr (v2 + 1)) (rset g 71 80 v1 y3)) - 65)))) (191, [some (.inr (.inr 69)), some (.inl v1), some (.inl v2), none], [.inl (wr (v2 + 2)), .inr (.inr 4), .inl v1, .inr (.inr 74)], (rset (rset g 71 80 v1 y3) 73 80 v1 (wr ((Tx_at4 (wr (v2 + 1)) (rset g 71 80 v1 y3)) - 65)))) rfl ?_
                  refine ec 14 194 [.inr (.inr 4), .inl (wr (v2 + 2))] [.inl v1, .inr (.inr 74)] rfl (ev_Tx_at4 (wr (v2 + 2)) (rset (rset g 71 80 v1 y3) 73 80 v1 (wr ((Tx_at4 (wr (v2 + 1)) (rset g 71 80 v1 y3)) - 65))) _ rfl) ?_
                  show Ev 33 194 [some (.inr (.inr 69)), some (.inl v1), some (.inl v2), none] [.inl (Tx_at4 (wr (v2 + 2)) (rset (rset g 71 80 v1 y3) 73 80 v1 (wr ((Tx_at4 (wr (v2 + 1)) (rset g 71 80 v1 y3)) - 65)))), .inl v1, .inr (.inr 74)] (rset (rset g 71 80 v1 y3) 73 80 v1 (wr ((Tx_at4 (wr (v2 + 1)) (rset g 71 80 v1 y3)) - 65))) _ _
                  refine ev_runs 2 (194, [some (.inr (.inr 69)), some (.inl v1), some (.inl v2), none], [.inl (Tx_at4 (wr (v2 + 2)) (rset (rset g 71 80 v1 y3) 73 80 v1 (wr ((Tx_at4 (wr (v2 + 1)) (rset g 71 80 v1 y3)) - 65)))), .inl v1, .inr (.inr 74)], (rset (rset g 71 80 v1 y3) 73 80 v1 (wr ((Tx_at4 (wr (v2 + 1)) (rset g 71 80 v1 y3)) - 65)))) (197, [some (.inr (.inr 69)), some (.inl v1), some (.inl v2), none], [.inl (wr ((Tx_at4 (wr (v2 + 2)) (rset (rset g 71 80 v1 y3) 73 80 v1 (wr ((Tx_at4 (wr (v2 + 1)) (rset g 71 80 v1 y3)) - 65)))) - 97)), .inl v1, .inr (.inr 74)], (rset (rset g 71 80 v1 y3) 73 80 v1 (wr ((Tx_at4 (wr (v2 + 1)) (rset g 71 80 v1 y3)) - 65)))) rfl ?_
                  refine ec 0 200 [.inr (.inr 74), .inl v1, .inl (wr ((Tx_at4 (wr (v2 + 2)) (rset (rset g 71 80 v1 y3) 73 80 v1 (wr ((Tx_at4 (wr (v2 + 1)) (rset g 71 80 v1 y3)) - 65)))) - 97))] [] rfl (ev_Row_set rfl rfl _ _ _) ?_
                  show Ev 33 200 [some (.inr (.inr 69)), some (.inl v1), some (.inl v2), none] [] (rset (rset (rset g 71 80 v1 y3) 73 80 v1 (wr ((Tx_at4 (wr (v2 + 1)) (rset g 71 80 v1 y3)) - 65))) 75 80 v1 (wr ((Tx_at4 (wr (v2 + 2)) (rset (rset g 71 80 v1 y3) 73 80 v1 (wr ((Tx_at4 (wr (v2 + 1)) (rset g 71 80 v1 y3)) - 65)))) - 97))) _ _
                  refine ev_runs 3 (200, [some (.inr (.inr 69)), some (.inl v1), some (.inl v2), none], [], (rset (rset (rset g 71 80 v1 y3) 73 80 v1 (wr ((Tx_at4 (wr (v2 + 1)) (rset g 71 80 v1 y3)) - 65))) 75 80 v1 (wr ((Tx_at4 (wr (v2 + 2)) (rset (rset g 71 80 v1 y3) 73 80 v1 (wr ((Tx_at4 (wr (v2 + 1)) (rset g 71 80 v1 y3)) - 65)))) - 97)))) (18, [some (.inr (.inr 69)), some (.inl (wr (v1 + 1))), some (.inl (wr (v2 + 3))), none], [], (rset (rset (rset g 71 80 v1 y3) 73 80 v1 (wr ((Tx_at4 (wr (v2 + 1)) (rset g 71 80 v1 y3)) - 65))) 75 80 v1 (wr ((Tx_at4 (wr (v2 + 2)) (rset (rset g 71 80 v1 y3) 73 80 v1 (wr ((Tx_at4 (wr (v2 + 1)) (rset g 71 80 v1 y3)) - 65)))) - 97)))) rfl ?_
                  exact ev_le (L := [some (.inr (.inr 69)), some (.inl (wr (v1 + 1))), some (.inl (wr (v2 + 3))), none]) (by simp [Lle]) (ih18 (wr (v1 + 1)) (wr (v2 + 3)) (rset (rset (rset g 71 80 v1 y3) 73 80 v1 (wr ((Tx_at4 (wr (v2 + 1)) (rset g 71 80 v1 y3)) - 65))) 75 80 v1 (wr ((Tx_at4 (wr (v2 + 2)) (rset (rset g 71 80 v1 y3) 73 80 v1 (wr ((Tx_at4 (wr (v2 + 1)) (rset g 71 80 v1 y3)) - 65)))) - 97))) r g' h)
                by_cases hc : ¬ (Tx_at4 v2 g) = 33
                · rw [if_pos hc] at hy3
                  refine es (152, [some (.inr (.inr 69)), some (.inl v1), some (.inl v2), some (.inl (Tx_at4 v2 g))], [.inl v1, .inr (.inr 70)], g) (congrArg some (if_pos hc)) ?_
                  refine ev_runs 1 (152, [some (.inr (.inr 69)), some (.inl v1), some (.inl v2), some (.inl (Tx_at4 v2 g))], [.inl v1, .inr (.inr 70)], g) (155, [some (.inr (.inr 69)), some (.inl v1), some (.inl v2), some (.inl (Tx_at4 v2 g))], [.inl 20000, .inl v1, .inr (.inr 70)], g) rfl ?_
                  rw [hy3] at hjy3
                  exact ev_le (L := [some (.inr (.inr 69)), some (.inl v1), some (.inl v2), none]) (by simp [Lle]) hjy3
                · rw [if_neg hc] at hy3
                  refine es (146, [some (.inr (.inr 69)), some (.inl v1), some (.inl v2), some (.inl (Tx_at4 v2 g))], [.inl v1, .inr (.inr 70)], g) (congrArg some (if_neg hc)) ?_
                  refine ev_runs 2 (146, [some (.inr (.inr 69)), some (.inl v1), some (.inl v2), some (.inl (Tx_at4 v2 g))], [.inl v1, .inr (.inr 70)], g) (155, [some (.inr (.inr 69)), some (.inl v1), some (.inl v2), some (.inl (Tx_at4 v2 g))], [.inl 10000, .inl v1, .inr (.inr 70)], g) rfl ?_
                  rw [hy3] at hjy3
                  exact ev_le (L := [some (.inr (.inr 69)), some (.inl v1), some (.inl v2), none]) (by simp [Lle]) hjy3
              · rw [if_neg hc] at h
                refine es (131, [some (.inr (.inr 69)), some (.inl v1), some (.inl v2), some (.inl (Tx_at4 v2 g))], [], g) (congrArg some (if_neg hc)) ?_
                refine ev_runs 3 (131, [some (.inr (.inr 69)), some (.inl v1), some (.inl v2), some (.inl (Tx_at4 v2 g))], [], g) (134, [some (.inr (.inr 69)), some (.inl v1), some (.inl v2), some (.inl (Tx_at4 v2 g))], [.inl (wr (v2 + 2))], g) rfl ?_
                cases h
                exact er rfl
            · rw [if_neg hc] at h
              refine es (111, [some (.inr (.inr 69)), some (.inl v1), some (.inl v2), some (.inl (Tx_at4 v2 g))], [], g) (congrArg some (if_neg hc)) ?_
              refine ev_runs 3 (111, [some (.inr (.inr 69)), some (.inl v1), some (.inl v2), some (.inl (Tx_at4 v2 g))], [], g) (114, [some (.inr (.inr 69)), some (.inl v1), some (.inl v2), some (.inl (Tx_at4 v2 g))], [.inl (wr (v2 + 1))], g) rfl ?_
              cases h
              exact er rfl
          · rw [if_neg hc] at h
            refine es (87, [some (.inr (.inr 69)), some (.inl v1), some (.inl v2), some (.inl (Tx_at4 v2 g))], [], g) (congrArg some (if_neg hc)) ?_
            refine ev_runs 2 (87, [some (.inr (.inr 69)), some (.inl v1), some (.inl v2), some (.inl (Tx_at4 v2 g))], [], g) (90, [some (.inr (.inr 69)), some (.inl v1), some (.inl v2), some (.inl (Tx_at4 v2 g))], [.inl 63, .inl (Tx_at4 v2 g)], g) rfl ?_
            by_cases hc : (Tx_at4 v2 g) = 63
            · rw [if_pos hc] at h
              refine es (95, [some (.inr (.inr 69)), some (.inl v1), some (.inl v2), some (.inl (Tx_at4 v2 g))], [], g) (congrArg some (if_pos hc)) ?_
              refine ev_runs 5 (95, [some (.inr (.inr 69)), some (.inl v1), some (.inl v2), some (.inl (Tx_at4 v2 g))], [], g) (102, [some (.inr (.inr 69)), some (.inl v1), some (.inl v2), some (.inl (Tx_at4 v2 g))], [.inl (wr (v2 + 1)), .inr (.inr 4)], g) rfl ?_
              refine ec 14 105 [.inr (.inr 4), .inl (wr (v2 + 1))] [] rfl (ev_Tx_at4 (wr (v2 + 1)) g _ rfl) ?_
              show Ev 33 105 [some (.inr (.inr 69)), some (.inl v1), some (.inl v2), some (.inl (Tx_at4 v2 g))] [.inl (Tx_at4 (wr (v2 + 1)) g)] g _ _
              refine ec 15 108 [.inl (Tx_at4 (wr (v2 + 1)) g)] [] rfl (ev_Op_isTalkerLetter (Tx_at4 (wr (v2 + 1)) g) g _ rfl) ?_
              show Ev 33 108 [some (.inr (.inr 69)), some (.inl v1), some (.inl v2), some (.inl (Tx_at4 v2 g))] [.inl (Op_isTalkerLetter (Tx_at4 (wr (v2 + 1)) g))] g _ _
              by_cases hc : ¬ (Op_isTalkerLetter (Tx_at4 (wr (v2 + 1)) g)) = 0
              · rw [if_pos hc] at h
                refine es (115, [some (.inr (.inr 69)), some (.inl v1), some (.inl v2), some (.inl (Tx_at4 v2 g))], [], g) (congrArg some (if_pos hc)) ?_
                refine ev_runs 5 (115, [some (.inr (.inr 69)), some (.inl v1), some (.inl v2), some (.inl (Tx_at4 v2 g))], [], g) (122, [some (.inr (.inr 69)), some (.inl v1), some (.inl v2), some (.inl (Tx_at4 v2 g))], [.inl (wr (v2 + 2)), .inr (.inr 4)], g) rfl ?_
                refine ec 14 125 [.inr (.inr 4), .inl (wr (v2 + 2))] [] rfl (ev_Tx_at4 (wr (v2 + 2)) g _ rfl) ?_
                show Ev 33 125 [some (.inr (.inr 69)), some (.inl v1), some (.inl v2), some (.inl (Tx_at4 v2 g))] [.inl (Tx_at4 (wr (v2 + 2)) g)] g _ _
                refine ec 17 128 [.inl (Tx_at4 (wr (v2 + 2)) g)] [] rfl (ev_Op_isWordLetter (Tx_at4 (wr (v2 + 2)) g) g _ rfl) ?_
                show Ev 33 128 [some (.inr (.inr 69)), some (.inl v1), some (.inl v2), some (.inl (Tx_at4 v2 g))] [.inl (Op_isWordLetter (Tx_at4 (wr (v2 + 2)) g))] g _ _
                by_cases hc : ¬ (Op_isWordLetter (Tx_at4 (wr (v2 + 2)) g)) = 0
                · rw [if_pos hc] at h
                  refine es (135, [some (.inr (.inr 69)), some (.inl v1), some (.inl v2), some (.inl (Tx_at4 v2 g))], [], g) (congrArg some (if_pos hc)) ?_
                  refine ev_runs 5 (135, [some (.inr (.inr 69)), some (.inl v1), some (.inl v2), some (.inl (Tx_at4 v2 g))], [], g) (143, [some (.inr (.inr 69)), some (.inl v1), some (.inl v2), some (.inl (Tx_at4 v2 g))], [.inl 33, .inl (Tx_at4 v2 g), .inl v1, .inr (.inr 70)], g) rfl ?_
                  obtain ⟨y4, hy4, h⟩ := lett_inv h
                  have hjy4 : Ev 33 155 [some (.inr (.inr 69)), some (.inl v1), some (.inl v2), none] [.inl y4, .inl v1, .inr (.inr 70)] g (some (.inl r)) g' := by
                    refine ec 0 158 [.inr (.inr 70), .inl v1, .inl y4] [] rfl (ev_Row_set rfl rfl _ _ _) ?_
                    show Ev 33 158 [some (.inr (.inr 69)), some (.inl v1), some (.inl v2), none] [] (rset g 71 80 v1 y4) _ _
                    refine ev_runs 8 (158, [some (.inr (.inr 69)), some (.inl v1), some (.inl v2), none], [], (rset g 71 80 v1 y4)) (170, [some (.inr (.inr 69)), some (.inl v1), some (.inl v2), none], [.inl (wr (v2 + 1)), .inr (.inr 4), .inl v1, .inr (.inr 72)], (rset g 71 80 v1 y4)) rfl ?_
                    refine ec 14 173 [.inr (.inr 4), .inl (wr (v2 + 1))] [.inl v1, .inr (.inr 72)] rfl (ev_Tx_at4 (wr (v2 + 1)) (rset g 71 80 v1 y4) _ rfl) ?_
                    show Ev 33 173 [some (.inr (.inr 69)), some (.inl v1), some (.inl v2), none] [.inl (Tx_at4 (wr (v2 + 1)) (rset g 71 80 v1 y4)), .inl v1, .inr (.inr 72)] (rset g 71 80 v1 y4) _ _
                    refine ev_runs 2 (173, [some (.inr (.inr 69)), some (.inl v1), some (.inl v2), none], [.inl (Tx_at4 (wr (v2 + 1)) (rset g 71 80 v1 y4)), .inl v1, .inr (.inr 72)], (rset g 71 80 v1 y4)) (176, [some (.inr (.inr 69)), some (.inl v1), some (.inl v2), none], [.inl (wr ((Tx_at4 (wr (v2 + 1)) (rset g 71 80 v1 y4)) - 65)), .inl v1, .inr (.inr 72)], (rset g 71 80 v1 y4)) rfl ?_
                    refine ec 0 179 [.inr (.inr 72), .inl v1, .inl (wr ((Tx_at4 (wr (v2 + 1)) (rset g 71 80 v1 y4)) - 65))] [] rfl (ev_Row_set rfl rfl _ _ _) ?_
                    show Ev 33 179 [some (.inr (.inr 69)), some (.inl v1), some (.inl v2), none] [] (rset (rset g 71 80 v1 y4) 73 80 v1 (wr ((Tx_at4 (wr (v2 + 1)) (rset g 71 80 v1 y4)) - 65))) _ _
                    refine ev_runs 8 (179, [some (.inr (.inr 69)), some (.inl v1), some (.inl v2), none], [], (rset (rset g 71 80 v1 y4) 73 80 v1 (wr ((Tx_at4 (wr (v2 + 1)) (rset g 71 80 v1 y4)) - 65)))) (191, [some (.inr (.inr 69)), some (.inl v1), some (.inl v2), none], [.inl (wr (v2 + 2)), .inr (.inr 4), .inl v1, .inr (.inr 74)], (rset (rset g 71 80 v1 y4) 73 80 v1 (wr ((Tx_at4 (wr (v2 + 1)) (rset g 71 80 v1 y4)) - 65)))) rfl ?_
                    refine ec 14 194 [.inr (.inr 4), .inl (wr (v2 + 2))] [.inl v1, .inr (.inr 74)] rfl (ev_Tx_at4 (wr (v2 + 2)) (rset (rset g 71 80 v1 y4) 73 80 v1 (wr ((Tx_at4 (wr (v2 + 1)) (rset g 71 80 v1 y4)) - 65))) _ rfl) ?_
                    show Ev 33 194 [some (.inr (.inr 69)), some (.inl v1), some (.inl v2), none] [.inl (Tx_at4 (wr (v2 + 2)) (rset (rset g 71 80 v1 y4) 73 80 v1 (wr ((Tx_at4 (wr (v2 + 1)) (rset g 71 80 v1 y4)) - 65)))), .inl v1, .inr (.inr 74)] (rset (rset g 71 80 v1 y4) 73 80 v1 (wr ((Tx_at4 (wr (v2 + 1)) (rset g 71 80 v1 y4)) - 65))) _ _
                    refine ev_runs 2 (194, [some (.inr (.inr 69)), some (.inl v1), some (.inl v2), none], [.inl (Tx_at4 (wr (v2 + 2)) (rset (rset g 71 80 v1 y4) 73 80 v1 (wr ((Tx_at4 (wr (v2 + 1)) (rset g 71 80 v1 y4)) - 65)))), .inl v1, .inr (.inr 74)], (rset (rset g 71 80 v1 y4) 73 80 v1 (wr ((Tx_at4 (wr (v2 + 1)) (rset g 71 80 v1 y4)) - 65)))) (197, [some (.inr (.inr 69)), some (.inl v1), some (.inl v2), none], [.inl (wr ((Tx_at4 (wr (v2 + 2)) (rset (rset g 71 80 v1 y4) 73 80 v1 (wr ((Tx_at4 (wr (v2 + 1)) (rset g 71 80 v1 y4)) - 65)))) - 97)), .inl v1, .inr (.inr 74)], (rset (rset g 71 80 v1 y4) 73 80 v1 (wr ((Tx_at4 (wr (v2 + 1)) (rset g 71 80 v1 y4)) - 65)))) rfl ?_
                    refine ec 0 200 [.inr (.inr 74), .inl v1, .inl (wr ((Tx_at4 (wr (v2 + 2)) (rset (rset g 71 80 v1 y4) 73 80 v1 (wr ((Tx_at4 (wr (v2 + 1)) (rset g 71 80 v1 y4)) - 65)))) - 97))] [] rfl (ev_Row_set rfl rfl _ _ _) ?_
                    show Ev 33 200 [some (.inr (.inr 69)), some (.inl v1), some (.inl v2), none] [] (rset (rset (rset g 71 80 v1 y4) 73 80 v1 (wr ((Tx_at4 (wr (v2 + 1)) (rset g 71 80 v1 y4)) - 65))) 75 80 v1 (wr ((Tx_at4 (wr (v2 + 2)) (rset (rset g 71 80 v1 y4) 73 80 v1 (wr ((Tx_at4 (wr (v2 + 1)) (rset g 71 80 v1 y4)) - 65)))) - 97))) _ _
                    refine ev_runs 3 (200, [some (.inr (.inr 69)), some (.inl v1), some (.inl v2), none], [], (rset (rset (rset g 71 80 v1 y4) 73 80 v1 (wr ((Tx_at4 (wr (v2 + 1)) (rset g 71 80 v1 y4)) - 65))) 75 80 v1 (wr ((Tx_at4 (wr (v2 + 2)) (rset (rset g 71 80 v1 y4) 73 80 v1 (wr ((Tx_at4 (wr (v2 + 1)) (rset g 71 80 v1 y4)) - 65)))) - 97)))) (18, [some (.inr (.inr 69)), some (.inl (wr (v1 + 1))), some (.inl (wr (v2 + 3))), none], [], (rset (rset (rset g 71 80 v1 y4) 73 80 v1 (wr ((Tx_at4 (wr (v2 + 1)) (rset g 71 80 v1 y4)) - 65))) 75 80 v1 (wr ((Tx_at4 (wr (v2 + 2)) (rset (rset g 71 80 v1 y4) 73 80 v1 (wr ((Tx_at4 (wr (v2 + 1)) (rset g 71 80 v1 y4)) - 65)))) - 97)))) rfl ?_
                    exact ev_le (L := [some (.inr (.inr 69)), some (.inl (wr (v1 + 1))), some (.inl (wr (v2 + 3))), none]) (by simp [Lle]) (ih18 (wr (v1 + 1)) (wr (v2 + 3)) (rset (rset (rset g 71 80 v1 y4) 73 80 v1 (wr ((Tx_at4 (wr (v2 + 1)) (rset g 71 80 v1 y4)) - 65))) 75 80 v1 (wr ((Tx_at4 (wr (v2 + 2)) (rset (rset g 71 80 v1 y4) 73 80 v1 (wr ((Tx_at4 (wr (v2 + 1)) (rset g 71 80 v1 y4)) - 65)))) - 97))) r g' h)
                  by_cases hc : ¬ (Tx_at4 v2 g) = 33
                  · rw [if_pos hc] at hy4
                    refine es (152, [some (.inr (.inr 69)), some (.inl v1), some (.inl v2), some (.inl (Tx_at4 v2 g))], [.inl v1, .inr (.inr 70)], g) (congrArg some (if_pos hc)) ?_
                    refine ev_runs 1 (152, [some (.inr (.inr 69)), some (.inl v1), some (.inl v2), some (.inl (Tx_at4 v2 g))], [.inl v1, .inr (.inr 70)], g) (155, [some (.inr (.inr 69)), some (.inl v1), some (.inl v2), some (.inl (Tx_at4 v2 g))], [.inl 20000, .inl v1, .inr (.inr 70)], g) rfl ?_
                    rw [hy4] at hjy4
                    exact ev_le (L := [some (.inr (.inr 69)), some (.inl v1), some (.inl v2), none]) (by simp [Lle]) hjy4
                  · rw [if_neg hc] at hy4
                    refine es (146, [some (.inr (.inr 69)), some (.inl v1), some (.inl v2), some (.inl (Tx_at4 v2 g))], [.inl v1, .inr (.inr 70)], g) (congrArg some (if_neg hc)) ?_
                    refine ev_runs 2 (146, [some (.inr (.inr 69)), some (.inl v1), some (.inl v2), some (.inl (Tx_at4 v2 g))], [.inl v1, .inr (.inr 70)], g) (155, [some (.inr (.inr 69)), some (.inl v1), some (.inl v2), some (.inl (Tx_at4 v2 g))], [.inl 10000, .inl v1, .inr (.inr 70)], g) rfl ?_
                    rw [hy4] at hjy4
                    exact ev_le (L := [some (.inr (.inr 69)), some (.inl v1), some (.inl v2), none]) (by simp [Lle]) hjy4
                · rw [if_neg hc] at h
                  refine es (131, [some (.inr (.inr 69)), some (.inl v1), some (.inl v2), some (.inl (Tx_at4 v2 g))], [], g) (congrArg some (if_neg hc)) ?_
                  refine ev_runs 3 (131, [some (.inr (.inr 69)), some (.inl v1), some (.inl v2), some (.inl (Tx_at4 v2 g))], [], g) (134, [some (.inr (.inr 69)), some (.inl v1), some (.inl v2), some (.inl (Tx_at4 v2 g))], [.inl (wr (v2 + 2))], g) rfl ?_
                  cases h
                  exact er rfl
              · rw [if_neg hc] at h
                refine es (111, [some (.inr (.inr 69)), some (.inl v1), some (.inl v2), some (.inl (Tx_at4 v2 g))], [], g) (congrArg some (if_neg hc)) ?_
                refine ev_runs 3 (111, [some (.inr (.inr 69)), some (.inl v1), some (.inl v2), some (.inl (Tx_at4 v2 g))], [], g) (114, [some (.inr (.inr 69)), some (.inl v1), some (.inl v2), some (.inl (Tx_at4 v2 g))], [.inl (wr (v2 + 1))], g) rfl ?_
                cases h
                exact er rfl
            · rw [if_neg hc] at h
              refine es (93, [some (.inr (.inr 69)), some (.inl v1), some (.inl v2), some (.inl (Tx_at4 v2 g))], [], g) (congrArg some (if_neg hc)) ?_
              refine ev_runs 1 (93, [some (.inr (.inr 69)), some (.inl v1), some (.inl v2), some (.inl (Tx_at4 v2 g))], [], g) (94, [some (.inr (.inr 69)), some (.inl v1), some (.inl v2), some (.inl (Tx_at4 v2 g))], [.inl v2], g) rfl ?_
              cases h
              exact er rfl
        · rw [if_neg hc] at h
          refine es (53, [some (.inr (.inr 69)), some (.inl v1), some (.inl v2), some (.inl (Tx_at4 v2 g))], [], g) (congrArg some (if_neg hc)) ?_
          refine ev_runs 5 (53, [some (.inr (.inr 69)), some (.inl v1), some (.inl v2), some (.inl (Tx_at4 v2 g))], [], g) (62, [some (.inr (.inr 69)), some (.inl v1), some (.inl v2), some (.inl (Tx_at4 v2 g))], [.inl v1, .inl (g 69 7), .inr (.inr 76)], g) rfl ?_
          refine ec 0 65 [.inr (.inr 76), .inl (g 69 7), .inl v1] [] rfl (ev_Row_set rfl rfl _ _ _) ?_
          show Ev 33 65 [some (.inr (.inr 69)), some (.inl v1), some (.inl v2), some (.inl (Tx_at4 v2 g))] [] (rset g 77 9 (g 69 7) v1) _ _
          refine ev_runs 9 (65, [some (.inr (.inr 69)), some (.inl v1), some (.inl v2), some (.inl (Tx_at4 v2 g))], [], (rset g 77 9 (g 69 7) v1)) (18, [some (.inr (.inr 69)), some (.inl v1), some (.inl (wr (v2 + 1))), some (.inl (Tx_at4 v2 g))], [], (gset (rset g 77 9 (g 69 7) v1) 69 7 (wr ((g 69 7) + 1)))) rfl ?_
          exact ev_le (L := [some (.inr (.inr 69)), some (.inl v1), some (.inl (wr (v2 + 1))), none]) (by simp [Lle]) (ih18 v1 (wr (v2 + 1)) (gset (rset g 77 9 (g 69 7) v1) 69 7 (wr ((g 69 7) + 1))) r g' h)
set_option maxRecDepth 100000 in
set_option maxHeartbeats 4000000 in
theorem ev_Pg_read (g : Gx) (r : Int) (g' : Gx) (h : Pg_read g = some (r, g')) : Ev 33 0 [some (.inr (.inr 69)), none, none, none] [] g (some (.inl r)) g' := by
  rw [Pg_read] at h
  refine ev_runs 11 (0, [some (.inr (.inr 69)), none, none, none], [], g) (15, [some (.inr (.inr 69)), some (.inl 0), some (.inl 0), none], [.inl 0, .inl 0, .inr (.inr 76)], (gset g 69 7 1)) rfl ?_
  refine ec 0 18 [.inr (.inr 76), .inl 0, .inl 0] [] rfl (ev_Row_set rfl rfl _ _ _) ?_
  show Ev 33 18 [some (.inr (.inr 69)), some (.inl 0), some (.inl 0), none] [] (rset (gset g 69 7 1) 77 9 0 0) _ _
  refine ev_le (L := [some (.inr (.inr 69)), some (.inl 0), some (.inl 0), none]) (by simp [Lle]) ?_
  refine ev_Pg_read_l18 _ ?_ fu 0 0 (rset (gset g 69 7 1) 77 9 0 0) r g' h
  · intro x5 g6 r g' h
    refine ev_runs 5 (209, [some (.inr (.inr 69)), some (.inl x5), none, none], [], g6) (218, [some (.inr (.inr 69)), some (.inl x5), none, none], [.inl x5, .inl (g6 69 7), .inr (.inr 76)], g6) rfl ?_
    refine ec 0 221 [.inr (.inr 76), .inl (g6 69 7), .inl x5] [] rfl (ev_Row_set rfl rfl _ _ _) ?_
    show Ev 33 221 [some (.inr (.inr 69)), some (.inl x5), none, none] [] (rset g6 77 9 (g6 69 7) x5) _ _
    refine ev_runs 1 (221, [some (.inr (.inr 69)), some (.inl x5), none, none], [], (rset g6 77 9 (g6 69 7) x5)) (222, [some (.inr (.inr 69)), some (.inl x5), none, none], [.inl (-1)], (rset g6 77 9 (g6 69 7) x5)) rfl ?_
    cases h
    exact er rfl
def Pg_firstFault (g : Gx) : Option (Int × Gx) :=
  if (g 69 9) = (Tx_changes4 g) then
    some ((g 69 8), g)
  else
    Option.bind (Pg_read (gset g 69 9 (Tx_changes4 g))) (fun q1 =>
    some (q1.1, (gset q1.2 69 8 q1.1)))
set_option maxRecDepth 100000 in
set_option maxHeartbeats 4000000 in
theorem ev_Pg_firstFault (g : Gx) (r : Int) (g' : Gx) (h : Pg_firstFault g = some (r, g')) : Ev 34 0 [some (.inr (.inr 69))] [] g (some (.inl r)) g' := by
  rw [Pg_firstFault] at h
  refine ev_runs 4 (0, [some (.inr (.inr 69))], [], g) (8, [some (.inr (.inr 69))], [.inr (.inr 4), .inl (g 69 9)], g) rfl ?_
  refine ec 10 11 [.inr (.inr 4)] [.inl (g 69 9)] rfl (ev_Tx_changes4 g _ rfl) ?_
  show Ev 34 11 [some (.inr (.inr 69))] [.inl (Tx_changes4 g), .inl (g 69 9)] g _ _
  by_cases hc : (g 69 9) = (Tx_changes4 g)
  · rw [if_pos hc] at h
    refine es (33, [some (.inr (.inr 69))], [], g) (congrArg some (if_pos hc)) ?_
    refine ev_runs 2 (33, [some (.inr (.inr 69))], [], g) (37, [some (.inr (.inr 69))], [.inl (g 69 8)], g) rfl ?_
    cases h
    exact er rfl
  · rw [if_neg hc] at h
    refine es (14, [some (.inr (.inr 69))], [], g) (congrArg some (if_neg hc)) ?_
    refine ev_runs 3 (14, [some (.inr (.inr 69))], [], g) (19, [some (.inr (.inr 69))], [.inr (.inr 4), .inr (.inr 69)], g) rfl ?_
    refine ec 10 22 [.inr (.inr 4)] [.inr (.inr 69)] rfl (ev_Tx_changes4 g _ rfl) ?_
    show Ev 34 22 [some (.inr (.inr 69))] [.inl (Tx_changes4 g), .inr (.inr 69)] g _ _
    refine ev_runs 3 (22, [some (.inr (.inr 69))], [.inl (Tx_changes4 g), .inr (.inr 69)], g) (27, [some (.inr (.inr 69))], [.inr (.inr 69), .inr (.inr 69)], (gset g 69 9 (Tx_changes4 g))) rfl ?_
    obtain ⟨q1, hq, h⟩ := Option.bind_eq_some_iff.mp h
    refine ec 33 30 [.inr (.inr 69)] [.inr (.inr 69)] rfl (ev_Pg_read (gset g 69 9 (Tx_changes4 g)) q1.1 q1.2 hq) ?_
    show Ev 34 30 [some (.inr (.inr 69))] [.inl q1.1, .inr (.inr 69)] q1.2 _ _
    refine ev_runs 3 (30, [some (.inr (.inr 69))], [.inl q1.1, .inr (.inr 69)], q1.2) (37, [some (.inr (.inr 69))], [.inl q1.1], (gset q1.2 69 8 q1.1)) rfl ?_
    cases h
    exact er rfl
def Op_fault (a1 : Int) (g : Gx) : Option (Int × Gx) :=
  if a1 < 0 then
    some ((-2), g)
  else
    if a1 ≤ 1 then
      if ¬ a1 = 0 then
        Option.bind (Pg_firstFault g) (fun q1 =>
        some (q1.1, q1.2))
      else
        Option.bind (Pr_firstFault g) (fun q2 =>
        some (q2.1, q2.2))
    else
      some ((-2), g)
set_option maxRecDepth 100000 in
set_option maxHeartbeats 4000000 in
theorem ev_Op_fault (a1 : Int) (g : Gx) (r : Int) (g' : Gx) (h : Op_fault a1 g = some (r, g')) : Ev 35 0 [some (.inr (.inr 0)), some (.inl a1)] [] g (some (.inl r)) g' := by
  rw [Op_fault] at h
  refine ev_runs 1 (0, [some (.inr (.inr 0)), some (.inl a1)], [], g) (1, [some (.inr (.inr 0)), some (.inl a1)], [.inl a1], g) rfl ?_
  by_cases hc : a1 < 0
  · rw [if_pos hc] at h
    refine es (9, [some (.inr (.inr 0)), some (.inl a1)], [], g) (congrArg some (if_pos hc)) ?_
    refine ev_runs 1 (9, [some (.inr (.inr 0)), some (.inl a1)], [], g) (11, [some (.inr (.inr 0)), some (.inl a1)], [.inl (-2)], g) rfl ?_
    cases h
    exact er rfl
  · rw [if_neg hc] at h
    refine es (4, [some (.inr (.inr 0)), some (.inl a1)], [], g) (congrArg some (if_neg hc)) ?_
    refine ev_runs 2 (4, [some (.inr (.inr 0)), some (.inl a1)], [], g) (6, [some (.inr (.inr 0)), some (.inl a1)], [.inl 1, .inl a1], g) rfl ?_
    by_cases hc : a1 ≤ 1
    · rw [if_pos hc] at h
      refine es (12, [some (.inr (.inr 0)), some (.inl a1)], [], g) (congrArg some (if_pos hc)) ?_
      refine ev_runs 1 (12, [some (.inr (.inr 0)), some (.inl a1)], [], g) (13, [some (.inr (.inr 0)), some (.inl a1)], [.inl a1], g) rfl ?_
      by_cases hc : ¬ a1 = 0
      · rw [if_pos hc] at h
        refine es (26, [some (.inr (.inr 0)), some (.inl a1)], [], g) (congrArg some (if_pos hc)) ?_
        refine ev_runs 2 (26, [some (.inr (.inr 0)), some (.inl a1)], [], g) (30, [some (.inr (.inr 0)), some (.inl a1)], [.inr (.inr 69)], g) rfl ?_
        obtain ⟨q1, hq, h⟩ := Option.bind_eq_some_iff.mp h
        refine ec 34 33 [.inr (.inr 69)] [] rfl (ev_Pg_firstFault g q1.1 q1.2 hq) ?_
        show Ev 35 33 [some (.inr (.inr 0)), some (.inl a1)] [.inl q1.1] q1.2 _ _
        cases h
        exact er rfl
      · rw [if_neg hc] at h
        refine es (16, [some (.inr (.inr 0)), some (.inl a1)], [], g) (congrArg some (if_neg hc)) ?_
        refine ev_runs 2 (16, [some (.inr (.inr 0)), some (.inl a1)], [], g) (20, [some (.inr (.inr 0)), some (.inl a1)], [.inr (.inr 28)], g) rfl ?_
        obtain ⟨q2, hq, h⟩ := Option.bind_eq_some_iff.mp h
        refine ec 32 23 [.inr (.inr 28)] [] rfl (ev_Pr_firstFault g q2.1 q2.2 hq) ?_
        show Ev 35 23 [some (.inr (.inr 0)), some (.inl a1)] [.inl q2.1] q2.2 _ _
        refine ev_runs 1 (23, [some (.inr (.inr 0)), some (.inl a1)], [.inl q2.1], q2.2) (33, [some (.inr (.inr 0)), some (.inl a1)], [.inl q2.1], q2.2) rfl ?_
        cases h
        exact er rfl
    · rw [if_neg hc] at h
      refine es (9, [some (.inr (.inr 0)), some (.inl a1)], [], g) (congrArg some (if_neg hc)) ?_
      refine ev_runs 1 (9, [some (.inr (.inr 0)), some (.inl a1)], [], g) (11, [some (.inr (.inr 0)), some (.inl a1)], [.inl (-2)], g) rfl ?_
      cases h
      exact er rfl
def Md_here (a1 : Int) (g : Gx) : Option (Int × Gx) :=
  if 0 ≤ a1 ∧ a1 < 2 then
  if (g 98 a1.toNat) ≤ (g 92 8) then
    some ((-1), g)
  else
    if 0 ≤ (wr ((wr (160 * a1)) + (g 92 8))) ∧ (wr ((wr (160 * a1)) + (g 92 8))) < 240 then
    some ((g 97 (wr ((wr (160 * a1)) + (g 92 8))).toNat), g)
    else none
  else none
set_option maxRecDepth 100000 in
set_option maxHeartbeats 4000000 in
theorem ev_Md_here (a1 : Int) (g : Gx) (r : Int) (g' : Gx) (h : Md_here a1 g = some (r, g')) : Ev 36 0 [some (.inr (.inr 92)), some (.inl a1)] [] g (some (.inl r)) g' := by
  rw [Md_here] at h
  refine ev_runs 5 (0, [some (.inr (.inr 92)), some (.inl a1)], [], g) (9, [some (.inr (.inr 92)), some (.inl a1)], [.inl a1, .inr (.inr 98), .inl (g 92 8)], g) rfl ?_
  by_cases hc : 0 ≤ a1 ∧ a1 < 2
  · rw [if_pos hc] at h
    refine es (10, [some (.inr (.inr 92)), some (.inl a1)], [.inl (g 98 a1.toNat), .inl (g 92 8)], g) (if_pos hc) ?_
    by_cases hc : (g 98 a1.toNat) ≤ (g 92 8)
    · rw [if_pos hc] at h
      refine es (31, [some (.inr (.inr 92)), some (.inl a1)], [], g) (congrArg some (if_pos hc)) ?_
      refine ev_runs 1 (31, [some (.inr (.inr 92)), some (.inl a1)], [], g) (32, [some (.inr (.inr 92)), some (.inl a1)], [.inl (-1)], g) rfl ?_
      cases h
      exact er rfl
    · rw [if_neg hc] at h
      refine es (13, [some (.inr (.inr 92)), some (.inl a1)], [], g) (congrArg some (if_neg hc)) ?_
      refine ev_runs 8 (13, [some (.inr (.inr 92)), some (.inl a1)], [], g) (27, [some (.inr (.inr 92)), some (.inl a1)], [.inl (wr ((wr (160 * a1)) + (g 92 8))), .inr (.inr 97)], g) rfl ?_
      by_cases hc : 0 ≤ (wr ((wr (160 * a1)) + (g 92 8))) ∧ (wr ((wr (160 * a1)) + (g 92 8))) < 240
      · rw [if_pos hc] at h
        refine es (28, [some (.inr (.inr 92)), some (.inl a1)], [.inl (g 97 (wr ((wr (160 * a1)) + (g 92 8))).toNat)], g) (if_pos hc) ?_
        refine ev_runs 1 (28, [some (.inr (.inr 92)), some (.inl a1)], [.inl (g 97 (wr ((wr (160 * a1)) + (g 92 8))).toNat)], g) (32, [some (.inr (.inr 92)), some (.inl a1)], [.inl (g 97 (wr ((wr (160 * a1)) + (g 92 8))).toNat)], g) rfl ?_
        cases h
        exact er rfl
      · rw [if_neg hc] at h; cases h
  · rw [if_neg hc] at h; cases h
def Md_act (a1 a2 a3 a4 : Int) (g : Gx) : Option Gx :=
  if 0 ≤ (g 92 9) ∧ (g 92 9) < 170 then
  if 0 ≤ (g 92 9) ∧ (g 92 9) < 170 then
  if 0 ≤ (g 92 9) ∧ (g 92 9) < 170 then
  if 0 ≤ (g 92 9) ∧ (g 92 9) < 170 then
  some (gset (gset (gset (gset (gset g 99 ((g 92 9).toNat) a1) 100 ((g 92 9).toNat) a2) 101 ((g 92 9).toNat) a3) 102 ((g 92 9).toNat) a4) 92 9 (wr ((g 92 9) + 1)))
  else none
  else none
  else none
  else none
set_option maxRecDepth 100000 in
set_option maxHeartbeats 4000000 in
theorem ev_Md_act (a1 a2 a3 a4 : Int) (g : Gx) (g' : Gx) (h : Md_act a1 a2 a3 a4 g = some g') : Ev 37 0 [some (.inr (.inr 92)), some (.inl a1), some (.inl a2), some (.inl a3), some (.inl a4)] [] g none g' := by
  rw [Md_act] at h
  refine ev_runs 5 (0, [some (.inr (.inr 92)), some (.inl a1), some (.inl a2), some (.inl a3), some (.inl a4)], [], g) (9, [some (.inr (.inr 92)), some (.inl a1), some (.inl a2), some (.inl a3), some (.inl a4)], [.inl a1, .inl (g 92 9), .inr (.inr 99)], g) rfl ?_
  by_cases hc : 0 ≤ (g 92 9) ∧ (g 92 9) < 170
  · rw [if_pos hc] at h
    refine es (10, [some (.inr (.inr 92)), some (.inl a1), some (.inl a2), some (.inl a3), some (.inl a4)], [], (gset g 99 ((g 92 9).toNat) a1)) (if_pos hc) ?_
    refine ev_runs 5 (10, [some (.inr (.inr 92)), some (.inl a1), some (.inl a2), some (.inl a3), some (.inl a4)], [], (gset g 99 ((g 92 9).toNat) a1)) (19, [some (.inr (.inr 92)), some (.inl a1), some (.inl a2), some (.inl a3), some (.inl a4)], [.inl a2, .inl (g 92 9), .inr (.inr 100)], (gset g 99 ((g 92 9).toNat) a1)) rfl ?_
    by_cases hc : 0 ≤ (g 92 9) ∧ (g 92 9) < 170
    · rw [if_pos hc] at h
      refine es (20, [some (.inr (.inr 92)), some (.inl a1), some (.inl a2), some (.inl a3), some (.inl a4)], [], (gset (gset g 99 ((g 92 9).toNat) a1) 100 ((g 92 9).toNat) a2)) (if_pos hc) ?_
      refine ev_runs 5 (20, [some (.inr (.inr 92)), some (.inl a1), some (.inl a2), some (.inl a3), some (.inl a4)], [], (gset (gset g 99 ((g 92 9).toNat) a1) 100 ((g 92 9).toNat) a2)) (29, [some (.inr (.inr 92)), some (.inl a1), some (.inl a2), some (.inl a3), some (.inl a4)], [.inl a3, .inl (g 92 9), .inr (.inr 101)], (gset (gset g 99 ((g 92 9).toNat) a1) 100 ((g 92 9).toNat) a2)) rfl ?_
      by_cases hc : 0 ≤ (g 92 9) ∧ (g 92 9) < 170
      · rw [if_pos hc] at h
        refine es (30, [some (.inr (.inr 92)), some (.inl a1), some (.inl a2), some (.inl a3), some (.inl a4)], [], (gset (gset (gset g 99 ((g 92 9).toNat) a1) 100 ((g 92 9).toNat) a2) 101 ((g 92 9).toNat) a3)) (if_pos hc) ?_
        refine ev_runs 5 (30, [some (.inr (.inr 92)), some (.inl a1), some (.inl a2), some (.inl a3), some (.inl a4)], [], (gset (gset (gset g 99 ((g 92 9).toNat) a1) 100 ((g 92 9).toNat) a2) 101 ((g 92 9).toNat) a3)) (40, [some (.inr (.inr 92)), some (.inl a1), some (.inl a2), some (.inl a3), some (.inl a4)], [.inl a4, .inl (g 92 9), .inr (.inr 102)], (gset (gset (gset g 99 ((g 92 9).toNat) a1) 100 ((g 92 9).toNat) a2) 101 ((g 92 9).toNat) a3)) rfl ?_
        by_cases hc : 0 ≤ (g 92 9) ∧ (g 92 9) < 170
        · rw [if_pos hc] at h
          refine es (41, [some (.inr (.inr 92)), some (.inl a1), some (.inl a2), some (.inl a3), some (.inl a4)], [], (gset (gset (gset (gset g 99 ((g 92 9).toNat) a1) 100 ((g 92 9).toNat) a2) 101 ((g 92 9).toNat) a3) 102 ((g 92 9).toNat) a4)) (if_pos hc) ?_
          refine ev_runs 6 (41, [some (.inr (.inr 92)), some (.inl a1), some (.inl a2), some (.inl a3), some (.inl a4)], [], (gset (gset (gset (gset g 99 ((g 92 9).toNat) a1) 100 ((g 92 9).toNat) a2) 101 ((g 92 9).toNat) a3) 102 ((g 92 9).toNat) a4)) (51, [some (.inr (.inr 92)), some (.inl a1), some (.inl a2), some (.inl a3), some (.inl a4)], [], (gset (gset (gset (gset (gset g 99 ((g 92 9).toNat) a1) 100 ((g 92 9).toNat) a2) 101 ((g 92 9).toNat) a3) 102 ((g 92 9).toNat) a4) 92 9 (wr ((g 92 9) + 1)))) rfl ?_
          cases h
          exact er rfl
        · rw [if_neg hc] at h; cases h
      · rw [if_neg hc] at h; cases h
    · rw [if_neg hc] at h; cases h
  · rw [if_neg hc] at h; cases h
def Md_opens (a1 a2 a3 a4 : Int) (g : Gx) : Option (Int × Gx) :=
  Option.bind (Md_here 0 g) (fun q1 =>
  if ¬ q1.1 = 40 then
    some (0, q1.2)
  else
    if ¬ (q1.2 92 20) = 4 then
      if 0 ≤ (q1.2 92 20) ∧ (q1.2 92 20) < 4 then
      Option.bind (Md_act a1 a2 a3 a4 (gset (gset (gset q1.2 92 8 (wr ((q1.2 92 8) + 1))) 105 ((q1.2 92 20).toNat) (q1.2 92 9)) 92 20 (wr ((q1.2 92 20) + 1)))) (fun g2 =>
      if 0 ≤ (wr (4 * (wr ((g2 92 9) - 1)))) ∧ (wr (4 * (wr ((g2 92 9) - 1)))) < 680 then
      some (1, (gset g2 104 ((wr (4 * (wr ((g2 92 9) - 1)))).toNat) (g2 92 9)))
      else none)
      else none
    else
      some (0, q1.2))
set_option maxRecDepth 100000 in
set_option maxHeartbeats 4000000 in
theorem ev_Md_opens (a1 a2 a3 a4 : Int) (g : Gx) (r : Int) (g' : Gx) (h : Md_opens a1 a2 a3 a4 g = some (r, g')) : Ev 38 0 [some (.inr (.inr 92)), some (.inl a1), some (.inl a2), some (.inl a3), some (.inl a4)] [] g (some (.inl r)) g' := by
  rw [Md_opens] at h
  refine ev_runs 2 (0, [some (.inr (.inr 92)), some (.inl a1), some (.inl a2), some (.inl a3), some (.inl a4)], [], g) (2, [some (.inr (.inr 92)), some (.inl a1), some (.inl a2), some (.inl a3), some (.inl a4)], [.inl 0, .inr (.inr 92)], g) rfl ?_
  obtain ⟨q1, hq, h⟩ := Option.bind_eq_some_iff.mp h
  refine ec 36 5 [.inr (.inr 92), .inl 0] [] rfl (ev_Md_here 0 g q1.1 q1.2 hq) ?_
  show Ev 38 5 [some (.inr (.inr 92)), some (.inl a1), some (.inl a2), some (.inl a3), some (.inl a4)] [.inl q1.1] q1.2 _ _
  refine ev_runs 1 (5, [some (.inr (.inr 92)), some (.inl a1), some (.inl a2), some (.inl a3), some (.inl a4)], [.inl q1.1], q1.2) (7, [some (.inr (.inr 92)), some (.inl a1), some (.inl a2), some (.inl a3), some (.inl a4)], [.inl 40, .inl q1.1], q1.2) rfl ?_
  by_cases hc : ¬ q1.1 = 40
  · rw [if_pos hc] at h
    refine es (18, [some (.inr (.inr 92)), some (.inl a1), some (.inl a2), some (.inl a3), some (.inl a4)], [], q1.2) (congrArg some (if_pos hc)) ?_
    refine ev_runs 1 (18, [some (.inr (.inr 92)), some (.inl a1), some (.inl a2), some (.inl a3), some (.inl a4)], [], q1.2) (19, [some (.inr (.inr 92)), some (.inl a1), some (.inl a2), some (.inl a3), some (.inl a4)], [.inl 0], q1.2) rfl ?_
    cases h
    exact er rfl
  · rw [if_neg hc] at h
    refine es (10, [some (.inr (.inr 92)), some (.inl a1), some (.inl a2), some (.inl a3), some (.inl a4)], [], q1.2) (congrArg some (if_neg hc)) ?_
    refine ev_runs 3 (10, [some (.inr (.inr 92)), some (.inl a1), some (.inl a2), some (.inl a3), some (.inl a4)], [], q1.2) (15, [some (.inr (.inr 92)), some (.inl a1), some (.inl a2), some (.inl a3), some (.inl a4)], [.inl 4, .inl (q1.2 92 20)], q1.2) rfl ?_
    by_cases hc : ¬ (q1.2 92 20) = 4
    · rw [if_pos hc] at h
      refine es (20, [some (.inr (.inr 92)), some (.inl a1), some (.inl a2), some (.inl a3), some (.inl a4)], [], q1.2) (congrArg some (if_pos hc)) ?_
      refine ev_runs 12 (20, [some (.inr (.inr 92)), some (.inl a1), some (.inl a2), some (.inl a3), some (.inl a4)], [], q1.2) (42, [some (.inr (.inr 92)), some (.inl a1), some (.inl a2), some (.inl a3), some (.inl a4)], [.inl (q1.2 92 9), .inl (q1.2 92 20), .inr (.inr 105)], (gset q1.2 92 8 (wr ((q1.2 92 8) + 1)))) rfl ?_
      by_cases hc : 0 ≤ (q1.2 92 20) ∧ (q1.2 92 20) < 4
      · rw [if_pos hc] at h
        refine es (43, [some (.inr (.inr 92)), some (.inl a1), some (.inl a2), some (.inl a3), some (.inl a4)], [], (gset (gset q1.2 92 8 (wr ((q1.2 92 8) + 1))) 105 ((q1.2 92 20).toNat) (q1.2 92 9))) (if_pos hc) ?_
        refine ev_runs 11 (43, [some (.inr (.inr 92)), some (.inl a1), some (.inl a2), some (.inl a3), some (.inl a4)], [], (gset (gset q1.2 92 8 (wr ((q1.2 92 8) + 1))) 105 ((q1.2 92 20).toNat) (q1.2 92 9))) (59, [some (.inr (.inr 92)), some (.inl a1), some (.inl a2), some (.inl a3), some (.inl a4)], [.inl a4, .inl a3, .inl a2, .inl a1, .inr (.inr 92)], (gset (gset (gset q1.2 92 8 (wr ((q1.2 92 8) + 1))) 105 ((q1.2 92 20).toNat) (q1.2 92 9)) 92 20 (wr ((q1.2 92 20) + 1)))) rfl ?_
        obtain ⟨g2, hq, h⟩ := Option.bind_eq_some_iff.mp h
        refine ec 37 62 [.inr (.inr 92), .inl a1, .inl a2, .inl a3, .inl a4] [] rfl (ev_Md_act a1 a2 a3 a4 (gset (gset (gset q1.2 92 8 (wr ((q1.2 92 8) + 1))) 105 ((q1.2 92 20).toNat) (q1.2 92 9)) 92 20 (wr ((q1.2 92 20) + 1))) g2 hq) ?_
        show Ev 38 62 [some (.inr (.inr 92)), some (.inl a1), some (.inl a2), some (.inl a3), some (.inl a4)] [] g2 _ _
        refine ev_runs 10 (62, [some (.inr (.inr 92)), some (.inl a1), some (.inl a2), some (.inl a3), some (.inl a4)], [], g2) (78, [some (.inr (.inr 92)), some (.inl a1), some (.inl a2), some (.inl a3), some (.inl a4)], [.inl (g2 92 9), .inl (wr (4 * (wr ((g2 92 9) - 1)))), .inr (.inr 104)], g2) rfl ?_
        by_cases hc : 0 ≤ (wr (4 * (wr ((g2 92 9) - 1)))) ∧ (wr (4 * (wr ((g2 92 9) - 1)))) < 680
        · rw [if_pos hc] at h
          refine es (79, [some (.inr (.inr 92)), some (.inl a1), some (.inl a2), some (.inl a3), some (.inl a4)], [], (gset g2 104 ((wr (4 * (wr ((g2 92 9) - 1)))).toNat) (g2 92 9))) (if_pos hc) ?_
          refine ev_runs 1 (79, [some (.inr (.inr 92)), some (.inl a1), some (.inl a2), some (.inl a3), some (.inl a4)], [], (gset g2 104 ((wr (4 * (wr ((g2 92 9) - 1)))).toNat) (g2 92 9))) (80, [some (.inr (.inr 92)), some (.inl a1), some (.inl a2), some (.inl a3), some (.inl a4)], [.inl 1], (gset g2 104 ((wr (4 * (wr ((g2 92 9) - 1)))).toNat) (g2 92 9))) rfl ?_
          cases h
          exact er rfl
        · rw [if_neg hc] at h; cases h
      · rw [if_neg hc] at h; cases h
    · rw [if_neg hc] at h
      refine es (18, [some (.inr (.inr 92)), some (.inl a1), some (.inl a2), some (.inl a3), some (.inl a4)], [], q1.2) (congrArg some (if_neg hc)) ?_
      refine ev_runs 1 (18, [some (.inr (.inr 92)), some (.inl a1), some (.inl a2), some (.inl a3), some (.inl a4)], [], q1.2) (19, [some (.inr (.inr 92)), some (.inl a1), some (.inl a2), some (.inl a3), some (.inl a4)], [.inl 0], q1.2) rfl ?_
      cases h
      exact er rfl
def Md_isTalker (a1 : Int) (g : Gx) : Option (Int × Gx) :=
  Option.bind (Md_here a1 g) (fun q1 =>
  some ((Md_in q1.1 65 70), q1.2))
set_option maxRecDepth 100000 in
set_option maxHeartbeats 4000000 in
theorem ev_Md_isTalker (a1 : Int) (g : Gx) (r : Int) (g' : Gx) (h : Md_isTalker a1 g = some (r, g')) : Ev 39 0 [some (.inr (.inr 92)), some (.inl a1)] [] g (some (.inl r)) g' := by
  rw [Md_isTalker] at h
  refine ev_runs 2 (0, [some (.inr (.inr 92)), some (.inl a1)], [], g) (2, [some (.inr (.inr 92)), some (.inl a1)], [.inl a1, .inr (.inr 92)], g) rfl ?_
  obtain ⟨q1, hq, h⟩ := Option.bind_eq_some_iff.mp h
  refine ec 36 5 [.inr (.inr 92), .inl a1] [] rfl (ev_Md_here a1 g q1.1 q1.2 hq) ?_
  show Ev 39 5 [some (.inr (.inr 92)), some (.inl a1)] [.inl q1.1] q1.2 _ _
  refine ev_runs 3 (5, [some (.inr (.inr 92)), some (.inl a1)], [.inl q1.1], q1.2) (12, [some (.inr (.inr 92)), some (.inl a1)], [.inr (.inl 70), .inr (.inl 65), .inr (.inl q1.1)], q1.2) rfl ?_
  refine ec 4 15 [.inr (.inl q1.1), .inr (.inl 65), .inr (.inl 70)] [] rfl (ev_Md_in q1.1 65 70 q1.2 _ rfl) ?_
  show Ev 39 15 [some (.inr (.inr 92)), some (.inl a1)] [.inl (Md_in q1.1 65 70)] q1.2 _ _
  cases h
  exact er (if_pos (bo_Md_in q1.1 65 70))
def Md_readsItem (g : Gx) : Option (Int × Gx) :=
  Option.bind (Md_here 0 g) (fun q1 =>
  if ¬ q1.1 = 45 then
    if (Md_in q1.1 50 52) = 0 then
      Option.bind (Md_isTalker 0 q1.2) (fun q2 =>
      if ¬ q2.1 = 0 then
        Option.bind (Md_here 0 (gset q2.2 92 8 (wr ((q2.2 92 8) + 1)))) (fun q3 =>
        if ¬ q3.1 = 40 then
          Option.bind (Md_here 0 q3.2) (fun q4 =>
          if q4.1 = 62 then
            Option.bind (Md_isTalker 0 (gset q4.2 92 8 (wr ((q4.2 92 8) + 1)))) (fun q5 =>
            if q5.1 = 0 then
              some (0, q5.2)
            else
              Option.bind (Md_here 0 q5.2) (fun q6 =>
              if ¬ q6.1 = q1.1 then
                Option.bind (Md_here 0 q6.2) (fun q7 =>
                Option.bind (Md_here 0 (gset q7.2 92 8 (wr ((q7.2 92 8) + 1)))) (fun q8 =>
                if ¬ (Md_in q8.1 97 122) = 0 then
                  Option.bind (Md_here 0 q8.2) (fun q9 =>
                  Option.bind (Md_act 0 (wr (q1.1 - 65)) (wr (q7.1 - 65)) (wr (q9.1 - 97)) q9.2) (fun g10 =>
                  some (1, (gset (gset (gset g10 92 8 (wr ((g10 92 8) + 1))) 92 17 (wr ((g10 92 17) + 1))) 92 18 (jor (g10 92 18) (jor (jshl 1 (wr (q1.1 - 65))) (jshl 1 (wr (q7.1 - 65)))))))))
                else
                  some (0, q8.2)))
              else
                some (0, q6.2)))
          else
            some (0, q4.2))
        else
          Option.bind (Md_opens 1 (wr (q1.1 - 65)) 1 (q3.2 92 16) q3.2) (fun q11 =>
          if ¬ q11.1 = 0 then
            some (1, (gset (gset q11.2 92 16 (wr ((q11.2 92 16) + 1))) 92 18 (jor (q11.2 92 18) (jshl 1 (wr (q1.1 - 65))))))
          else
            some (0, q11.2)))
      else
        some (0, q2.2))
    else
      Option.bind (Md_opens 3 0 (wr (q1.1 - 48)) 0 (gset q1.2 92 8 (wr ((q1.2 92 8) + 1)))) (fun q12 =>
      if q12.1 = 0 ∨ q12.1 = 1 then some (q12.1, q12.2) else none)
  else
    some (1, (gset q1.2 92 8 (wr ((q1.2 92 8) + 1)))))
set_option maxRecDepth 100000 in
set_option maxHeartbeats 4000000 in
theorem ev_Md_readsItem (g : Gx) (r : Int) (g' : Gx) (h : Md_readsItem g = some (r, g')) : Ev 40 0 [some (.inr (.inr 92)), none, none, none] [] g (some (.inl r)) g' := by
  rw [Md_readsItem] at h
  refine ev_runs 2 (0, [some (.inr (.inr 92)), none, none, none], [], g) (2, [some (.inr (.inr 92)), none, none, none], [.inl 0, .inr (.inr 92)], g) rfl ?_
  obtain ⟨q1, hq, h⟩ := Option.bind_eq_some_iff.mp h
  refine ec 36 5 [.inr (.inr 92), .inl 0] [] rfl (ev_Md_here 0 g q1.1 q1.2 hq) ?_
  show Ev 40 5 [some (.inr (.inr 92)), none, none, none] [.inl q1.1] q1.2 _ _
  refine ev_runs 3 (5, [some (.inr (.inr 92)), none, none, none], [.inl q1.1], q1.2) (9, [some (.inr (.inr 92)), some (.inl q1.1), none, none], [.inl 45, .inl q1.1], q1.2) rfl ?_
  by_cases hc : ¬ q1.1 = 45
  · rw [if_pos hc] at h
    refine es (24, [some (.inr (.inr 92)), some (.inl q1.1), none, none], [], q1.2) (congrArg some (if_pos hc)) ?_
    refine ev_runs 4 (24, [some (.inr (.inr 92)), some (.inl q1.1), none, none], [], q1.2) (32, [some (.inr (.inr 92)), some (.inl q1.1), none, none], [.inr (.inl 52), .inr (.inl 50), .inr (.inl q1.1)], q1.2) rfl ?_
    refine ec 4 35 [.inr (.inl q1.1), .inr (.inl 50), .inr (.inl 52)] [] rfl (ev_Md_in q1.1 50 52 q1.2 _ rfl) ?_
    show Ev 40 35 [some (.inr (.inr 92)), some (.inl q1.1), none, none] [.inl (Md_in q1.1 50 52)] q1.2 _ _
    by_cases hc : (Md_in q1.1 50 52) = 0
    · rw [if_pos hc] at h
      refine es (60, [some (.inr (.inr 92)), some (.inl q1.1), none, none], [], q1.2) (congrArg some (if_pos hc)) ?_
      refine ev_runs 2 (60, [some (.inr (.inr 92)), some (.inl q1.1), none, none], [], q1.2) (62, [some (.inr (.inr 92)), some (.inl q1.1), none, none], [.inl 0, .inr (.inr 92)], q1.2) rfl ?_
      obtain ⟨q2, hq, h⟩ := Option.bind_eq_some_iff.mp h
      refine ec 39 65 [.inr (.inr 92), .inl 0] [] rfl (ev_Md_isTalker 0 q1.2 q2.1 q2.2 hq) ?_
      show Ev 40 65 [some (.inr (.inr 92)), some (.inl q1.1), none, none] [.inl q2.1] q2.2 _ _
      by_cases hc : ¬ q2.1 = 0
      · rw [if_pos hc] at h
        refine es (70, [some (.inr (.inr 92)), some (.inl q1.1), none, none], [], q2.2) (congrArg some (if_pos hc)) ?_
        refine ev_runs 12 (70, [some (.inr (.inr 92)), some (.inl q1.1), none, none], [], q2.2) (87, [some (.inr (.inr 92)), some (.inl q1.1), some (.inl (wr (q1.1 - 65))), none], [.inl 0, .inr (.inr 92)], (gset q2.2 92 8 (wr ((q2.2 92 8) + 1)))) rfl ?_
        obtain ⟨q3, hq, h⟩ := Option.bind_eq_some_iff.mp h
        refine ec 36 90 [.inr (.inr 92), .inl 0] [] rfl (ev_Md_here 0 (gset q2.2 92 8 (wr ((q2.2 92 8) + 1))) q3.1 q3.2 hq) ?_
        show Ev 40 90 [some (.inr (.inr 92)), some (.inl q1.1), some (.inl (wr (q1.1 - 65))), none] [.inl q3.1] q3.2 _ _
        refine ev_runs 1 (90, [some (.inr (.inr 92)), some (.inl q1.1), some (.inl (wr (q1.1 - 65))), none], [.inl q3.1], q3.2) (92, [some (.inr (.inr 92)), some (.inl q1.1), some (.inl (wr (q1.1 - 65))), none], [.inl 40, .inl q3.1], q3.2) rfl ?_
        by_cases hc : ¬ q3.1 = 40
        · rw [if_pos hc] at h
          refine es (135, [some (.inr (.inr 92)), some (.inl q1.1), some (.inl (wr (q1.1 - 65))), none], [], q3.2) (congrArg some (if_pos hc)) ?_
          refine ev_runs 2 (135, [some (.inr (.inr 92)), some (.inl q1.1), some (.inl (wr (q1.1 - 65))), none], [], q3.2) (137, [some (.inr (.inr 92)), some (.inl q1.1), some (.inl (wr (q1.1 - 65))), none], [.inl 0, .inr (.inr 92)], q3.2) rfl ?_
          obtain ⟨q4, hq, h⟩ := Option.bind_eq_some_iff.mp h
          refine ec 36 140 [.inr (.inr 92), .inl 0] [] rfl (ev_Md_here 0 q3.2 q4.1 q4.2 hq) ?_
          show Ev 40 140 [some (.inr (.inr 92)), some (.inl q1.1), some (.inl (wr (q1.1 - 65))), none] [.inl q4.1] q4.2 _ _
          refine ev_runs 1 (140, [some (.inr (.inr 92)), some (.inl q1.1), some (.inl (wr (q1.1 - 65))), none], [.inl q4.1], q4.2) (142, [some (.inr (.inr 92)), some (.inl q1.1), some (.inl (wr (q1.1 - 65))), none], [.inl 62, .inl q4.1], q4.2) rfl ?_
          by_cases hc : q4.1 = 62
          · rw [if_pos hc] at h
            refine es (147, [some (.inr (.inr 92)), some (.inl q1.1), some (.inl (wr (q1.1 - 65))), none], [], q4.2) (congrArg some (if_pos hc)) ?_
            refine ev_runs 8 (147, [some (.inr (.inr 92)), some (.inl q1.1), some (.inl (wr (q1.1 - 65))), none], [], q4.2) (159, [some (.inr (.inr 92)), some (.inl q1.1), some (.inl (wr (q1.1 - 65))), none], [.inl 0, .inr (.inr 92)], (gset q4.2 92 8 (wr ((q4.2 92 8) + 1)))) rfl ?_
            obtain ⟨q5, hq, h⟩ := Option.bind_eq_some_iff.mp h
            refine ec 39 162 [.inr (.inr 92), .inl 0] [] rfl (ev_Md_isTalker 0 (gset q4.2 92 8 (wr ((q4.2 92 8) + 1))) q5.1 q5.2 hq) ?_
            show Ev 40 162 [some (.inr (.inr 92)), some (.inl q1.1), some (.inl (wr (q1.1 - 65))), none] [.inl q5.1] q5.2 _ _
            by_cases hc : q5.1 = 0
            · rw [if_pos hc] at h
              refine es (174, [some (.inr (.inr 92)), some (.inl q1.1), some (.inl (wr (q1.1 - 65))), none], [], q5.2) (congrArg some (if_pos hc)) ?_
              refine ev_runs 1 (174, [some (.inr (.inr 92)), some (.inl q1.1), some (.inl (wr (q1.1 - 65))), none], [], q5.2) (175, [some (.inr (.inr 92)), some (.inl q1.1), some (.inl (wr (q1.1 - 65))), none], [.inl 0], q5.2) rfl ?_
              cases h
              exact er rfl
            · rw [if_neg hc] at h
              refine es (165, [some (.inr (.inr 92)), some (.inl q1.1), some (.inl (wr (q1.1 - 65))), none], [], q5.2) (congrArg some (if_neg hc)) ?_
              refine ev_runs 2 (165, [some (.inr (.inr 92)), some (.inl q1.1), some (.inl (wr (q1.1 - 65))), none], [], q5.2) (167, [some (.inr (.inr 92)), some (.inl q1.1), some (.inl (wr (q1.1 - 65))), none], [.inl 0, .inr (.inr 92)], q5.2) rfl ?_
              obtain ⟨q6, hq, h⟩ := Option.bind_eq_some_iff.mp h
              refine ec 36 170 [.inr (.inr 92), .inl 0] [] rfl (ev_Md_here 0 q5.2 q6.1 q6.2 hq) ?_
              show Ev 40 170 [some (.inr (.inr 92)), some (.inl q1.1), some (.inl (wr (q1.1 - 65))), none] [.inl q6.1] q6.2 _ _
              refine ev_runs 1 (170, [some (.inr (.inr 92)), some (.inl q1.1), some (.inl (wr (q1.1 - 65))), none], [.inl q6.1], q6.2) (171, [some (.inr (.inr 92)), some (.inl q1.1), some (.inl (wr (q1.1 - 65))), none], [.inl q1.1, .inl q6.1], q6.2) rfl ?_
              by_cases hc : ¬ q6.1 = q1.1
              · rw [if_pos hc] at h
                refine es (176, [some (.inr (.inr 92)), some (.inl q1.1), some (.inl (wr (q1.1 - 65))), none], [], q6.2) (congrArg some (if_pos hc)) ?_
                refine ev_runs 2 (176, [some (.inr (.inr 92)), some (.inl q1.1), some (.inl (wr (q1.1 - 65))), none], [], q6.2) (178, [some (.inr (.inr 92)), some (.inl q1.1), some (.inl (wr (q1.1 - 65))), none], [.inl 0, .inr (.inr 92)], q6.2) rfl ?_
                obtain ⟨q7, hq, h⟩ := Option.bind_eq_some_iff.mp h
                refine ec 36 181 [.inr (.inr 92), .inl 0] [] rfl (ev_Md_here 0 q6.2 q7.1 q7.2 hq) ?_
                show Ev 40 181 [some (.inr (.inr 92)), some (.inl q1.1), some (.inl (wr (q1.1 - 65))), none] [.inl q7.1] q7.2 _ _
                refine ev_runs 11 (181, [some (.inr (.inr 92)), some (.inl q1.1), some (.inl (wr (q1.1 - 65))), none], [.inl q7.1], q7.2) (197, [some (.inr (.inr 92)), some (.inl q1.1), some (.inl (wr (q1.1 - 65))), some (.inl (wr (q7.1 - 65)))], [.inl 0, .inr (.inr 92)], (gset q7.2 92 8 (wr ((q7.2 92 8) + 1)))) rfl ?_
                obtain ⟨q8, hq, h⟩ := Option.bind_eq_some_iff.mp h
                refine ec 36 200 [.inr (.inr 92), .inl 0] [] rfl (ev_Md_here 0 (gset q7.2 92 8 (wr ((q7.2 92 8) + 1))) q8.1 q8.2 hq) ?_
                show Ev 40 200 [some (.inr (.inr 92)), some (.inl q1.1), some (.inl (wr (q1.1 - 65))), some (.inl (wr (q7.1 - 65)))] [.inl q8.1] q8.2 _ _
                refine ev_runs 3 (200, [some (.inr (.inr 92)), some (.inl q1.1), some (.inl (wr (q1.1 - 65))), some (.inl (wr (q7.1 - 65)))], [.inl q8.1], q8.2) (207, [some (.inr (.inr 92)), some (.inl q1.1), some (.inl (wr (q1.1 - 65))), some (.inl (wr (q7.1 - 65)))], [.inr (.inl 122), .inr (.inl 97), .inr (.inl q8.1)], q8.2) rfl ?_
                refine ec 4 210 [.inr (.inl q8.1), .inr (.inl 97), .inr (.inl 122)] [] rfl (ev_Md_in q8.1 97 122 q8.2 _ rfl) ?_
                show Ev 40 210 [some (.inr (.inr 92)), some (.inl q1.1), some (.inl (wr (q1.1 - 65))), some (.inl (wr (q7.1 - 65)))] [.inl (Md_in q8.1 97 122)] q8.2 _ _
                by_cases hc : ¬ (Md_in q8.1 97 122) = 0
                · rw [if_pos hc] at h
                  refine es (215, [some (.inr (.inr 92)), some (.inl q1.1), some (.inl (wr (q1.1 - 65))), some (.inl (wr (q7.1 - 65)))], [], q8.2) (congrArg some (if_pos hc)) ?_
                  refine ev_runs 6 (215, [some (.inr (.inr 92)), some (.inl q1.1), some (.inl (wr (q1.1 - 65))), some (.inl (wr (q7.1 - 65)))], [], q8.2) (221, [some (.inr (.inr 92)), some (.inl q1.1), some (.inl (wr (q1.1 - 65))), some (.inl (wr (q7.1 - 65)))], [.inl 0, .inr (.inr 92), .inl (wr (q7.1 - 65)), .inl (wr (q1.1 - 65)), .inl 0, .inr (.inr 92)], q8.2) rfl ?_
                  obtain ⟨q9, hq, h⟩ := Option.bind_eq_some_iff.mp h
                  refine ec 36 224 [.inr (.inr 92), .inl 0] [.inl (wr (q7.1 - 65)), .inl (wr (q1.1 - 65)), .inl 0, .inr (.inr 92)] rfl (ev_Md_here 0 q8.2 q9.1 q9.2 hq) ?_
                  show Ev 40 224 [some (.inr (.inr 92)), some (.inl q1.1), some (.inl (wr (q1.1 - 65))), some (.inl (wr (q7.1 - 65)))] [.inl q9.1, .inl (wr (q7.1 - 65)), .inl (wr (q1.1 - 65)), .inl 0, .inr (.inr 92)] q9.2 _ _
                  refine ev_runs 2 (224, [some (.inr (.inr 92)), some (.inl q1.1), some (.inl (wr (q1.1 - 65))), some (.inl (wr (q7.1 - 65)))], [.inl q9.1, .inl (wr (q7.1 - 65)), .inl (wr (q1.1 - 65)), .inl 0, .inr (.inr 92)], q9.2) (227, [some (.inr (.inr 92)), some (.inl q1.1), some (.inl (wr (q1.1 - 65))), some (.inl (wr (q7.1 - 65)))], [.inl (wr (q9.1 - 97)), .inl (wr (q7.1 - 65)), .inl (wr (q1.1 - 65)), .inl 0, .inr (.inr 92)], q9.2) rfl ?_
                  obtain ⟨g10, hq, h⟩ := Option.bind_eq_some_iff.mp h
                  refine ec 37 230 [.inr (.inr 92), .inl 0, .inl (wr (q1.1 - 65)), .inl (wr (q7.1 - 65)), .inl (wr (q9.1 - 97))] [] rfl (ev_Md_act 0 (wr (q1.1 - 65)) (wr (q7.1 - 65)) (wr (q9.1 - 97)) q9.2 g10 hq) ?_
                  show Ev 40 230 [some (.inr (.inr 92)), some (.inl q1.1), some (.inl (wr (q1.1 - 65))), some (.inl (wr (q7.1 - 65)))] [] g10 _ _
                  refine ev_runs 25 (230, [some (.inr (.inr 92)), some (.inl q1.1), some (.inl (wr (q1.1 - 65))), some (.inl (wr (q7.1 - 65)))], [], g10) (267, [some (.inr (.inr 92)), some (.inl q1.1), some (.inl (wr (q1.1 - 65))), some (.inl (wr (q7.1 - 65)))], [.inl 1], (gset (gset (gset g10 92 8 (wr ((g10 92 8) + 1))) 92 17 (wr ((g10 92 17) + 1))) 92 18 (jor (g10 92 18) (jor (jshl 1 (wr (q1.1 - 65))) (jshl 1 (wr (q7.1 - 65))))))) rfl ?_
                  cases h
                  exact er rfl
                · rw [if_neg hc] at h
                  refine es (213, [some (.inr (.inr 92)), some (.inl q1.1), some (.inl (wr (q1.1 - 65))), some (.inl (wr (q7.1 - 65)))], [], q8.2) (congrArg some (if_neg hc)) ?_
                  refine ev_runs 1 (213, [some (.inr (.inr 92)), some (.inl q1.1), some (.inl (wr (q1.1 - 65))), some (.inl (wr (q7.1 - 65)))], [], q8.2) (214, [some (.inr (.inr 92)), some (.inl q1.1), some (.inl (wr (q1.1 - 65))), some (.inl (wr (q7.1 - 65)))], [.inl 0], q8.2) rfl ?_
                  cases h
                  exact er rfl
              · rw [if_neg hc] at h
                refine es (174, [some (.inr (.inr 92)), some (.inl q1.1), some (.inl (wr (q1.1 - 65))), none], [], q6.2) (congrArg some (if_neg hc)) ?_
                refine ev_runs 1 (174, [some (.inr (.inr 92)), some (.inl q1.1), some (.inl (wr (q1.1 - 65))), none], [], q6.2) (175, [some (.inr (.inr 92)), some (.inl q1.1), some (.inl (wr (q1.1 - 65))), none], [.inl 0], q6.2) rfl ?_
                cases h
                exact er rfl
          · rw [if_neg hc] at h
            refine es (145, [some (.inr (.inr 92)), some (.inl q1.1), some (.inl (wr (q1.1 - 65))), none], [], q4.2) (congrArg some (if_neg hc)) ?_
            refine ev_runs 1 (145, [some (.inr (.inr 92)), some (.inl q1.1), some (.inl (wr (q1.1 - 65))), none], [], q4.2) (146, [some (.inr (.inr 92)), some (.inl q1.1), some (.inl (wr (q1.1 - 65))), none], [.inl 0], q4.2) rfl ?_
            cases h
            exact er rfl
        · rw [if_neg hc] at h
          refine es (95, [some (.inr (.inr 92)), some (.inl q1.1), some (.inl (wr (q1.1 - 65))), none], [], q3.2) (congrArg some (if_neg hc)) ?_
          refine ev_runs 6 (95, [some (.inr (.inr 92)), some (.inl q1.1), some (.inl (wr (q1.1 - 65))), none], [], q3.2) (103, [some (.inr (.inr 92)), some (.inl q1.1), some (.inl (wr (q1.1 - 65))), none], [.inl (q3.2 92 16), .inl 1, .inl (wr (q1.1 - 65)), .inl 1, .inr (.inr 92)], q3.2) rfl ?_
          obtain ⟨q11, hq, h⟩ := Option.bind_eq_some_iff.mp h
          refine ec 38 106 [.inr (.inr 92), .inl 1, .inl (wr (q1.1 - 65)), .inl 1, .inl (q3.2 92 16)] [] rfl (ev_Md_opens 1 (wr (q1.1 - 65)) 1 (q3.2 92 16) q3.2 q11.1 q11.2 hq) ?_
          show Ev 40 106 [some (.inr (.inr 92)), some (.inl q1.1), some (.inl (wr (q1.1 - 65))), none] [.inl q11.1] q11.2 _ _
          by_cases hc : ¬ q11.1 = 0
          · rw [if_pos hc] at h
            refine es (111, [some (.inr (.inr 92)), some (.inl q1.1), some (.inl (wr (q1.1 - 65))), none], [], q11.2) (congrArg some (if_pos hc)) ?_
            refine ev_runs 15 (111, [some (.inr (.inr 92)), some (.inl q1.1), some (.inl (wr (q1.1 - 65))), none], [], q11.2) (134, [some (.inr (.inr 92)), some (.inl q1.1), some (.inl (wr (q1.1 - 65))), none], [.inl 1], (gset (gset q11.2 92 16 (wr ((q11.2 92 16) + 1))) 92 18 (jor (q11.2 92 18) (jshl 1 (wr (q1.1 - 65)))))) rfl ?_
            cases h
            exact er rfl
          · rw [if_neg hc] at h
            refine es (109, [some (.inr (.inr 92)), some (.inl q1.1), some (.inl (wr (q1.1 - 65))), none], [], q11.2) (congrArg some (if_neg hc)) ?_
            refine ev_runs 1 (109, [some (.inr (.inr 92)), some (.inl q1.1), some (.inl (wr (q1.1 - 65))), none], [], q11.2) (110, [some (.inr (.inr 92)), some (.inl q1.1), some (.inl (wr (q1.1 - 65))), none], [.inl 0], q11.2) rfl ?_
            cases h
            exact er rfl
      · rw [if_neg hc] at h
        refine es (68, [some (.inr (.inr 92)), some (.inl q1.1), none, none], [], q2.2) (congrArg some (if_neg hc)) ?_
        refine ev_runs 1 (68, [some (.inr (.inr 92)), some (.inl q1.1), none, none], [], q2.2) (69, [some (.inr (.inr 92)), some (.inl q1.1), none, none], [.inl 0], q2.2) rfl ?_
        cases h
        exact er rfl
    · rw [if_neg hc] at h
      refine es (38, [some (.inr (.inr 92)), some (.inl q1.1), none, none], [], q1.2) (congrArg some (if_neg hc)) ?_
      refine ev_runs 13 (38, [some (.inr (.inr 92)), some (.inl q1.1), none, none], [], q1.2) (56, [some (.inr (.inr 92)), some (.inl q1.1), none, none], [.inl 0, .inl (wr (q1.1 - 48)), .inl 0, .inl 3, .inr (.inr 92)], (gset q1.2 92 8 (wr ((q1.2 92 8) + 1)))) rfl ?_
      obtain ⟨q12, hq, h⟩ := Option.bind_eq_some_iff.mp h
      refine ec 38 59 [.inr (.inr 92), .inl 3, .inl 0, .inl (wr (q1.1 - 48)), .inl 0] [] rfl (ev_Md_opens 3 0 (wr (q1.1 - 48)) 0 (gset q1.2 92 8 (wr ((q1.2 92 8) + 1))) q12.1 q12.2 hq) ?_
      show Ev 40 59 [some (.inr (.inr 92)), some (.inl q1.1), none, none] [.inl q12.1] q12.2 _ _
      by_cases hc : q12.1 = 0 ∨ q12.1 = 1
      · rw [if_pos hc] at h
        cases h
        exact er (if_pos hc)
      · rw [if_neg hc] at h; cases h
  · rw [if_neg hc] at h
    refine es (12, [some (.inr (.inr 92)), some (.inl q1.1), none, none], [], q1.2) (congrArg some (if_neg hc)) ?_
    refine ev_runs 7 (12, [some (.inr (.inr 92)), some (.inl q1.1), none, none], [], q1.2) (23, [some (.inr (.inr 92)), some (.inl q1.1), none, none], [.inl 1], (gset q1.2 92 8 (wr ((q1.2 92 8) + 1)))) rfl ?_
    cases h
    exact er rfl
def Md_wayMore (g : Gx) : Option (Int × Gx) :=
  if (g 92 20) = 0 then
    some (0, g)
  else
    if 0 ≤ (wr ((g 92 20) - 1)) ∧ (wr ((g 92 20) - 1)) < 4 then
    if 0 ≤ (g 105 (wr ((g 92 20) - 1)).toNat) ∧ (g 105 (wr ((g 92 20) - 1)).toNat) < 170 then
    if ¬ (g 99 (g 105 (wr ((g 92 20) - 1)).toNat).toNat) = 1 then
      some (0, g)
    else
      if 0 ≤ (wr ((g 92 20) - 1)) ∧ (wr ((g 92 20) - 1)) < 4 then
      if 0 ≤ (g 105 (wr ((g 92 20) - 1)).toNat) ∧ (g 105 (wr ((g 92 20) - 1)).toNat) < 170 then
      if ¬ (g 101 (g 105 (wr ((g 92 20) - 1)).toNat).toNat) = 4 then
        if 0 ≤ (wr ((g 92 20) - 1)) ∧ (wr ((g 92 20) - 1)) < 4 then
        Option.bind (Md_act 2 0 0 (g 105 (wr ((g 92 20) - 1)).toNat) g) (fun g1 =>
        if 0 ≤ (g 105 (wr ((g 92 20) - 1)).toNat) ∧ (g 105 (wr ((g 92 20) - 1)).toNat) < 170 then
        if 0 ≤ (wr ((wr (4 * (g 105 (wr ((g 92 20) - 1)).toNat))) + (g1 101 (g 105 (wr ((g 92 20) - 1)).toNat).toNat))) ∧ (wr ((wr (4 * (g 105 (wr ((g 92 20) - 1)).toNat))) + (g1 101 (g 105 (wr ((g 92 20) - 1)).toNat).toNat))) < 680 then
        if 0 ≤ (g 105 (wr ((g 92 20) - 1)).toNat) ∧ (g 105 (wr ((g 92 20) - 1)).toNat) < 170 then
        if 0 ≤ (g 105 (wr ((g 92 20) - 1)).toNat) ∧ (g 105 (wr ((g 92 20) - 1)).toNat) < 170 then
        some (1, (gset (gset (gset g1 104 ((wr ((wr (4 * (g 105 (wr ((g 92 20) - 1)).toNat))) + (g1 101 (g 105 (wr ((g 92 20) - 1)).toNat).toNat))).toNat) (g1 92 9)) 101 ((g 105 (wr ((g 92 20) - 1)).toNat).toNat) (wr ((g1 101 (g 105 (wr ((g 92 20) - 1)).toNat).toNat) + 1))) 92 8 (wr ((g1 92 8) + 1))))
        else none
        else none
        else none
        else none)
        else none
      else
        some (0, g)
      else none
      else none
    else none
    else none
set_option maxRecDepth 100000 in
set_option maxHeartbeats 4000000 in
theorem ev_Md_wayMore (g : Gx) (r : Int) (g' : Gx) (h : Md_wayMore g = some (r, g')) : Ev 41 0 [some (.inr (.inr 92)), none] [] g (some (.inl r)) g' := by
  rw [Md_wayMore] at h
  refine ev_runs 2 (0, [some (.inr (.inr 92)), none], [], g) (4, [some (.inr (.inr 92)), none], [.inl (g 92 20)], g) rfl ?_
  by_cases hc : (g 92 20) = 0
  · rw [if_pos hc] at h
    refine es (47, [some (.inr (.inr 92)), none], [], g) (congrArg some (if_pos hc)) ?_
    refine ev_runs 1 (47, [some (.inr (.inr 92)), none], [], g) (48, [some (.inr (.inr 92)), none], [.inl 0], g) rfl ?_
    cases h
    exact er rfl
  · rw [if_neg hc] at h
    refine es (7, [some (.inr (.inr 92)), none], [], g) (congrArg some (if_neg hc)) ?_
    refine ev_runs 8 (7, [some (.inr (.inr 92)), none], [], g) (21, [some (.inr (.inr 92)), none], [.inl (wr ((g 92 20) - 1)), .inr (.inr 105), .inr (.inr 99)], g) rfl ?_
    by_cases hc : 0 ≤ (wr ((g 92 20) - 1)) ∧ (wr ((g 92 20) - 1)) < 4
    · rw [if_pos hc] at h
      refine es (22, [some (.inr (.inr 92)), none], [.inl (g 105 (wr ((g 92 20) - 1)).toNat), .inr (.inr 99)], g) (if_pos hc) ?_
      by_cases hc : 0 ≤ (g 105 (wr ((g 92 20) - 1)).toNat) ∧ (g 105 (wr ((g 92 20) - 1)).toNat) < 170
      · rw [if_pos hc] at h
        refine es (23, [some (.inr (.inr 92)), none], [.inl (g 99 (g 105 (wr ((g 92 20) - 1)).toNat).toNat)], g) (if_pos hc) ?_
        refine ev_runs 1 (23, [some (.inr (.inr 92)), none], [.inl (g 99 (g 105 (wr ((g 92 20) - 1)).toNat).toNat)], g) (24, [some (.inr (.inr 92)), none], [.inl 1, .inl (g 99 (g 105 (wr ((g 92 20) - 1)).toNat).toNat)], g) rfl ?_
        by_cases hc : ¬ (g 99 (g 105 (wr ((g 92 20) - 1)).toNat).toNat) = 1
        · rw [if_pos hc] at h
          refine es (47, [some (.inr (.inr 92)), none], [], g) (congrArg some (if_pos hc)) ?_
          refine ev_runs 1 (47, [some (.inr (.inr 92)), none], [], g) (48, [some (.inr (.inr 92)), none], [.inl 0], g) rfl ?_
          cases h
          exact er rfl
        · rw [if_neg hc] at h
          refine es (27, [some (.inr (.inr 92)), none], [], g) (congrArg some (if_neg hc)) ?_
          refine ev_runs 8 (27, [some (.inr (.inr 92)), none], [], g) (41, [some (.inr (.inr 92)), none], [.inl (wr ((g 92 20) - 1)), .inr (.inr 105), .inr (.inr 101)], g) rfl ?_
          by_cases hc : 0 ≤ (wr ((g 92 20) - 1)) ∧ (wr ((g 92 20) - 1)) < 4
          · rw [if_pos hc] at h
            refine es (42, [some (.inr (.inr 92)), none], [.inl (g 105 (wr ((g 92 20) - 1)).toNat), .inr (.inr 101)], g) (if_pos hc) ?_
            by_cases hc : 0 ≤ (g 105 (wr ((g 92 20) - 1)).toNat) ∧ (g 105 (wr ((g 92 20) - 1)).toNat) < 170
            · rw [if_pos hc] at h
              refine es (43, [some (.inr (.inr 92)), none], [.inl (g 101 (g 105 (wr ((g 92 20) - 1)).toNat).toNat)], g) (if_pos hc) ?_
              refine ev_runs 1 (43, [some (.inr (.inr 92)), none], [.inl (g 101 (g 105 (wr ((g 92 20) - 1)).toNat).toNat)], g) (44, [some (.inr (.inr 92)), none], [.inl 4, .inl (g 101 (g 105 (wr ((g 92 20) - 1)).toNat).toNat)], g) rfl ?_
              by_cases hc : ¬ (g 101 (g 105 (wr ((g 92 20) - 1)).toNat).toNat) = 4
              · rw [if_pos hc] at h
                refine es (49, [some (.inr (.inr 92)), none], [], g) (congrArg some (if_pos hc)) ?_
                refine ev_runs 6 (49, [some (.inr (.inr 92)), none], [], g) (59, [some (.inr (.inr 92)), none], [.inl (wr ((g 92 20) - 1)), .inr (.inr 105)], g) rfl ?_
                by_cases hc : 0 ≤ (wr ((g 92 20) - 1)) ∧ (wr ((g 92 20) - 1)) < 4
                · rw [if_pos hc] at h
                  refine es (60, [some (.inr (.inr 92)), none], [.inl (g 105 (wr ((g 92 20) - 1)).toNat)], g) (if_pos hc) ?_
                  refine ev_runs 6 (60, [some (.inr (.inr 92)), none], [.inl (g 105 (wr ((g 92 20) - 1)).toNat)], g) (66, [some (.inr (.inr 92)), some (.inl (g 105 (wr ((g 92 20) - 1)).toNat))], [.inl (g 105 (wr ((g 92 20) - 1)).toNat), .inl 0, .inl 0, .inl 2, .inr (.inr 92)], g) rfl ?_
                  obtain ⟨g1, hq, h⟩ := Option.bind_eq_some_iff.mp h
                  refine ec 37 69 [.inr (.inr 92), .inl 2, .inl 0, .inl 0, .inl (g 105 (wr ((g 92 20) - 1)).toNat)] [] rfl (ev_Md_act 2 0 0 (g 105 (wr ((g 92 20) - 1)).toNat) g g1 hq) ?_
                  show Ev 41 69 [some (.inr (.inr 92)), some (.inl (g 105 (wr ((g 92 20) - 1)).toNat))] [] g1 _ _
                  refine ev_runs 8 (69, [some (.inr (.inr 92)), some (.inl (g 105 (wr ((g 92 20) - 1)).toNat))], [], g1) (81, [some (.inr (.inr 92)), some (.inl (g 105 (wr ((g 92 20) - 1)).toNat))], [.inl (g 105 (wr ((g 92 20) - 1)).toNat), .inr (.inr 101), .inl (wr (4 * (g 105 (wr ((g 92 20) - 1)).toNat))), .inr (.inr 104)], g1) rfl ?_
                  by_cases hc : 0 ≤ (g 105 (wr ((g 92 20) - 1)).toNat) ∧ (g 105 (wr ((g 92 20) - 1)).toNat) < 170
                  · rw [if_pos hc] at h
                    refine es (82, [some (.inr (.inr 92)), some (.inl (g 105 (wr ((g 92 20) - 1)).toNat))], [.inl (g1 101 (g 105 (wr ((g 92 20) - 1)).toNat).toNat), .inl (wr (4 * (g 105 (wr ((g 92 20) - 1)).toNat))), .inr (.inr 104)], g1) (if_pos hc) ?_
                    refine ev_runs 3 (82, [some (.inr (.inr 92)), some (.inl (g 105 (wr ((g 92 20) - 1)).toNat))], [.inl (g1 101 (g 105 (wr ((g 92 20) - 1)).toNat).toNat), .inl (wr (4 * (g 105 (wr ((g 92 20) - 1)).toNat))), .inr (.inr 104)], g1) (87, [some (.inr (.inr 92)), some (.inl (g 105 (wr ((g 92 20) - 1)).toNat))], [.inl (g1 92 9), .inl (wr ((wr (4 * (g 105 (wr ((g 92 20) - 1)).toNat))) + (g1 101 (g 105 (wr ((g 92 20) - 1)).toNat).toNat))), .inr (.inr 104)], g1) rfl ?_
                    by_cases hc : 0 ≤ (wr ((wr (4 * (g 105 (wr ((g 92 20) - 1)).toNat))) + (g1 101 (g 105 (wr ((g 92 20) - 1)).toNat).toNat))) ∧ (wr ((wr (4 * (g 105 (wr ((g 92 20) - 1)).toNat))) + (g1 101 (g 105 (wr ((g 92 20) - 1)).toNat).toNat))) < 680
                    · rw [if_pos hc] at h
                      refine es (88, [some (.inr (.inr 92)), some (.inl (g 105 (wr ((g 92 20) - 1)).toNat))], [], (gset g1 104 ((wr ((wr (4 * (g 105 (wr ((g 92 20) - 1)).toNat))) + (g1 101 (g 105 (wr ((g 92 20) - 1)).toNat).toNat))).toNat) (g1 92 9))) (if_pos hc) ?_
                      refine ev_runs 4 (88, [some (.inr (.inr 92)), some (.inl (g 105 (wr ((g 92 20) - 1)).toNat))], [], (gset g1 104 ((wr ((wr (4 * (g 105 (wr ((g 92 20) - 1)).toNat))) + (g1 101 (g 105 (wr ((g 92 20) - 1)).toNat).toNat))).toNat) (g1 92 9))) (94, [some (.inr (.inr 92)), some (.inl (g 105 (wr ((g 92 20) - 1)).toNat))], [.inl (g 105 (wr ((g 92 20) - 1)).toNat), .inr (.inr 101), .inl (g 105 (wr ((g 92 20) - 1)).toNat), .inr (.inr 101)], (gset g1 104 ((wr ((wr (4 * (g 105 (wr ((g 92 20) - 1)).toNat))) + (g1 101 (g 105 (wr ((g 92 20) - 1)).toNat).toNat))).toNat) (g1 92 9))) rfl ?_
                      by_cases hc : 0 ≤ (g 105 (wr ((g 92 20) - 1)).toNat) ∧ (g 105 (wr ((g 92 20) - 1)).toNat) < 170
                      · rw [if_pos hc] at h
                        refine es (95, [some (.inr (.inr 92)), some (.inl (g 105 (wr ((g 92 20) - 1)).toNat))], [.inl (g1 101 (g 105 (wr ((g 92 20) - 1)).toNat).toNat), .inl (g 105 (wr ((g 92 20) - 1)).toNat), .inr (.inr 101)], (gset g1 104 ((wr ((wr (4 * (g 105 (wr ((g 92 20) - 1)).toNat))) + (g1 101 (g 105 (wr ((g 92 20) - 1)).toNat).toNat))).toNat) (g1 92 9))) (if_pos hc) ?_
                        refine ev_runs 2 (95, [some (.inr (.inr 92)), some (.inl (g 105 (wr ((g 92 20) - 1)).toNat))], [.inl (g1 101 (g 105 (wr ((g 92 20) - 1)).toNat).toNat), .inl (g 105 (wr ((g 92 20) - 1)).toNat), .inr (.inr 101)], (gset g1 104 ((wr ((wr (4 * (g 105 (wr ((g 92 20) - 1)).toNat))) + (g1 101 (g 105 (wr ((g 92 20) - 1)).toNat).toNat))).toNat) (g1 92 9))) (97, [some (.inr (.inr 92)), some (.inl (g 105 (wr ((g 92 20) - 1)).toNat))], [.inl (wr ((g1 101 (g 105 (wr ((g 92 20) - 1)).toNat).toNat) + 1)), .inl (g 105 (wr ((g 92 20) - 1)).toNat), .inr (.inr 101)], (gset g1 104 ((wr ((wr (4 * (g 105 (wr ((g 92 20) - 1)).toNat))) + (g1 101 (g 105 (wr ((g 92 20) - 1)).toNat).toNat))).toNat) (g1 92 9))) rfl ?_
                        by_cases hc : 0 ≤ (g 105 (wr ((g 92 20) - 1)).toNat) ∧ (g 105 (wr ((g 92 20) - 1)).toNat) < 170
                        · rw [if_pos hc] at h
                          refine es (98, [some (.inr (.inr 92)), some (.inl (g 105 (wr ((g 92 20) - 1)).toNat))], [], (gset (gset g1 104 ((wr ((wr (4 * (g 105 (wr ((g 92 20) - 1)).toNat))) + (g1 101 (g 105 (wr ((g 92 20) - 1)).toNat).toNat))).toNat) (g1 92 9)) 101 ((g 105 (wr ((g 92 20) - 1)).toNat).toNat) (wr ((g1 101 (g 105 (wr ((g 92 20) - 1)).toNat).toNat) + 1)))) (if_pos hc) ?_
                          refine ev_runs 7 (98, [some (.inr (.inr 92)), some (.inl (g 105 (wr ((g 92 20) - 1)).toNat))], [], (gset (gset g1 104 ((wr ((wr (4 * (g 105 (wr ((g 92 20) - 1)).toNat))) + (g1 101 (g 105 (wr ((g 92 20) - 1)).toNat).toNat))).toNat) (g1 92 9)) 101 ((g 105 (wr ((g 92 20) - 1)).toNat).toNat) (wr ((g1 101 (g 105 (wr ((g 92 20) - 1)).toNat).toNat) + 1)))) (109, [some (.inr (.inr 92)), some (.inl (g 105 (wr ((g 92 20) - 1)).toNat))], [.inl 1], (gset (gset (gset g1 104 ((wr ((wr (4 * (g 105 (wr ((g 92 20) - 1)).toNat))) + (g1 101 (g 105 (wr ((g 92 20) - 1)).toNat).toNat))).toNat) (g1 92 9)) 101 ((g 105 (wr ((g 92 20) - 1)).toNat).toNat) (wr ((g1 101 (g 105 (wr ((g 92 20) - 1)).toNat).toNat) + 1))) 92 8 (wr ((g1 92 8) + 1)))) rfl ?_
                          cases h
                          exact er rfl
                        · rw [if_neg hc] at h; cases h
                      · rw [if_neg hc] at h; cases h
                    · rw [if_neg hc] at h; cases h
                  · rw [if_neg hc] at h; cases h
                · rw [if_neg hc] at h; cases h
              · rw [if_neg hc] at h
                refine es (47, [some (.inr (.inr 92)), none], [], g) (congrArg some (if_neg hc)) ?_
                refine ev_runs 1 (47, [some (.inr (.inr 92)), none], [], g) (48, [some (.inr (.inr 92)), none], [.inl 0], g) rfl ?_
                cases h
                exact er rfl
            · rw [if_neg hc] at h; cases h
          · rw [if_neg hc] at h; cases h
      · rw [if_neg hc] at h; cases h
    · rw [if_neg hc] at h; cases h
def Md_closes (g : Gx) : Option (Int × Gx) :=
  if ¬ (g 92 20) = 0 then
    if 0 ≤ (wr ((g 92 20) - 1)) ∧ (wr ((g 92 20) - 1)) < 4 then
    if 0 ≤ (g 105 (wr ((g 92 20) - 1)).toNat) ∧ (g 105 (wr ((g 92 20) - 1)).toNat) < 170 then
    if ¬ (g 99 (g 105 (wr ((g 92 20) - 1)).toNat).toNat) = 1 then
      if 0 ≤ (g 105 (wr ((g 92 20) - 1)).toNat) ∧ (g 105 (wr ((g 92 20) - 1)).toNat) < 170 then
      if ¬ (g 99 (g 105 (wr ((g 92 20) - 1)).toNat).toNat) = 3 then
        if 0 ≤ (g 105 (wr ((g 92 20) - 1)).toNat) ∧ (g 105 (wr ((g 92 20) - 1)).toNat) < 170 then
        some (1, (gset (gset (gset g 103 ((g 105 (wr ((g 92 20) - 1)).toNat).toNat) (g 92 9)) 92 20 (wr ((g 92 20) - 1))) 92 8 (wr ((g 92 8) + 1))))
        else none
      else
        Option.bind (Md_act 4 0 0 (g 105 (wr ((g 92 20) - 1)).toNat) g) (fun g1 =>
        if 0 ≤ (g 105 (wr ((g 92 20) - 1)).toNat) ∧ (g 105 (wr ((g 92 20) - 1)).toNat) < 170 then
        some (1, (gset (gset (gset g1 103 ((g 105 (wr ((g 92 20) - 1)).toNat).toNat) (g1 92 9)) 92 20 (wr ((g1 92 20) - 1))) 92 8 (wr ((g1 92 8) + 1))))
        else none)
      else none
    else
      if 0 ≤ (g 105 (wr ((g 92 20) - 1)).toNat) ∧ (g 105 (wr ((g 92 20) - 1)).toNat) < 170 then
      if ¬ (g 101 (g 105 (wr ((g 92 20) - 1)).toNat).toNat) = 1 then
        if 0 ≤ (g 105 (wr ((g 92 20) - 1)).toNat) ∧ (g 105 (wr ((g 92 20) - 1)).toNat) < 170 then
        if ¬ (g 99 (g 105 (wr ((g 92 20) - 1)).toNat).toNat) = 3 then
          if 0 ≤ (g 105 (wr ((g 92 20) - 1)).toNat) ∧ (g 105 (wr ((g 92 20) - 1)).toNat) < 170 then
          some (1, (gset (gset (gset g 103 ((g 105 (wr ((g 92 20) - 1)).toNat).toNat) (g 92 9)) 92 20 (wr ((g 92 20) - 1))) 92 8 (wr ((g 92 8) + 1))))
          else none
        else
          Option.bind (Md_act 4 0 0 (g 105 (wr ((g 92 20) - 1)).toNat) g) (fun g2 =>
          if 0 ≤ (g 105 (wr ((g 92 20) - 1)).toNat) ∧ (g 105 (wr ((g 92 20) - 1)).toNat) < 170 then
          some (1, (gset (gset (gset g2 103 ((g 105 (wr ((g 92 20) - 1)).toNat).toNat) (g2 92 9)) 92 20 (wr ((g2 92 20) - 1))) 92 8 (wr ((g2 92 8) + 1))))
          else none)
        else none
      else
        some (0, g)
      else none
    else none
    else none
  else
    some (0, g)
set_option maxRecDepth 100000 in
set_option maxHeartbeats 4000000 in
theorem ev_Md_closes (g : Gx) (r : Int) (g' : Gx) (h : Md_closes g = some (r, g')) : Ev 42 0 [some (.inr (.inr 92)), none] [] g (some (.inl r)) g' := by
  rw [Md_closes] at h
  refine ev_runs 2 (0, [some (.inr (.inr 92)), none], [], g) (4, [some (.inr (.inr 92)), none], [.inl (g 92 20)], g) rfl ?_
  by_cases hc : ¬ (g 92 20) = 0
  · rw [if_pos hc] at h
    refine es (9, [some (.inr (.inr 92)), none], [], g) (congrArg some (if_pos hc)) ?_
    refine ev_runs 6 (9, [some (.inr (.inr 92)), none], [], g) (19, [some (.inr (.inr 92)), none], [.inl (wr ((g 92 20) - 1)), .inr (.inr 105)], g) rfl ?_
    by_cases hc : 0 ≤ (wr ((g 92 20) - 1)) ∧ (wr ((g 92 20) - 1)) < 4
    · rw [if_pos hc] at h
      refine es (20, [some (.inr (.inr 92)), none], [.inl (g 105 (wr ((g 92 20) - 1)).toNat)], g) (if_pos hc) ?_
      refine ev_runs 4 (20, [some (.inr (.inr 92)), none], [.inl (g 105 (wr ((g 92 20) - 1)).toNat)], g) (26, [some (.inr (.inr 92)), some (.inl (g 105 (wr ((g 92 20) - 1)).toNat))], [.inl (g 105 (wr ((g 92 20) - 1)).toNat), .inr (.inr 99)], g) rfl ?_
      by_cases hc : 0 ≤ (g 105 (wr ((g 92 20) - 1)).toNat) ∧ (g 105 (wr ((g 92 20) - 1)).toNat) < 170
      · rw [if_pos hc] at h
        refine es (27, [some (.inr (.inr 92)), some (.inl (g 105 (wr ((g 92 20) - 1)).toNat))], [.inl (g 99 (g 105 (wr ((g 92 20) - 1)).toNat).toNat)], g) (if_pos hc) ?_
        refine ev_runs 1 (27, [some (.inr (.inr 92)), some (.inl (g 105 (wr ((g 92 20) - 1)).toNat))], [.inl (g 99 (g 105 (wr ((g 92 20) - 1)).toNat).toNat)], g) (28, [some (.inr (.inr 92)), some (.inl (g 105 (wr ((g 92 20) - 1)).toNat))], [.inl 1, .inl (g 99 (g 105 (wr ((g 92 20) - 1)).toNat).toNat)], g) rfl ?_
        by_cases hc : ¬ (g 99 (g 105 (wr ((g 92 20) - 1)).toNat).toNat) = 1
        · rw [if_pos hc] at h
          refine es (43, [some (.inr (.inr 92)), some (.inl (g 105 (wr ((g 92 20) - 1)).toNat))], [], g) (congrArg some (if_pos hc)) ?_
          refine ev_runs 3 (43, [some (.inr (.inr 92)), some (.inl (g 105 (wr ((g 92 20) - 1)).toNat))], [], g) (48, [some (.inr (.inr 92)), some (.inl (g 105 (wr ((g 92 20) - 1)).toNat))], [.inl (g 105 (wr ((g 92 20) - 1)).toNat), .inr (.inr 99)], g) rfl ?_
          by_cases hc : 0 ≤ (g 105 (wr ((g 92 20) - 1)).toNat) ∧ (g 105 (wr ((g 92 20) - 1)).toNat) < 170
          · rw [if_pos hc] at h
            refine es (49, [some (.inr (.inr 92)), some (.inl (g 105 (wr ((g 92 20) - 1)).toNat))], [.inl (g 99 (g 105 (wr ((g 92 20) - 1)).toNat).toNat)], g) (if_pos hc) ?_
            refine ev_runs 1 (49, [some (.inr (.inr 92)), some (.inl (g 105 (wr ((g 92 20) - 1)).toNat))], [.inl (g 99 (g 105 (wr ((g 92 20) - 1)).toNat).toNat)], g) (50, [some (.inr (.inr 92)), some (.inl (g 105 (wr ((g 92 20) - 1)).toNat))], [.inl 3, .inl (g 99 (g 105 (wr ((g 92 20) - 1)).toNat).toNat)], g) rfl ?_
            by_cases hc : ¬ (g 99 (g 105 (wr ((g 92 20) - 1)).toNat).toNat) = 3
            · rw [if_pos hc] at h
              refine es (61, [some (.inr (.inr 92)), some (.inl (g 105 (wr ((g 92 20) - 1)).toNat))], [], g) (congrArg some (if_pos hc)) ?_
              refine ev_runs 5 (61, [some (.inr (.inr 92)), some (.inl (g 105 (wr ((g 92 20) - 1)).toNat))], [], g) (70, [some (.inr (.inr 92)), some (.inl (g 105 (wr ((g 92 20) - 1)).toNat))], [.inl (g 92 9), .inl (g 105 (wr ((g 92 20) - 1)).toNat), .inr (.inr 103)], g) rfl ?_
              by_cases hc : 0 ≤ (g 105 (wr ((g 92 20) - 1)).toNat) ∧ (g 105 (wr ((g 92 20) - 1)).toNat) < 170
              · rw [if_pos hc] at h
                refine es (71, [some (.inr (.inr 92)), some (.inl (g 105 (wr ((g 92 20) - 1)).toNat))], [], (gset g 103 ((g 105 (wr ((g 92 20) - 1)).toNat).toNat) (g 92 9))) (if_pos hc) ?_
                refine ev_runs 13 (71, [some (.inr (.inr 92)), some (.inl (g 105 (wr ((g 92 20) - 1)).toNat))], [], (gset g 103 ((g 105 (wr ((g 92 20) - 1)).toNat).toNat) (g 92 9))) (92, [some (.inr (.inr 92)), some (.inl (g 105 (wr ((g 92 20) - 1)).toNat))], [.inl 1], (gset (gset (gset g 103 ((g 105 (wr ((g 92 20) - 1)).toNat).toNat) (g 92 9)) 92 20 (wr ((g 92 20) - 1))) 92 8 (wr ((g 92 8) + 1)))) rfl ?_
                cases h
                exact er rfl
              · rw [if_neg hc] at h; cases h
            · rw [if_neg hc] at h
              refine es (53, [some (.inr (.inr 92)), some (.inl (g 105 (wr ((g 92 20) - 1)).toNat))], [], g) (congrArg some (if_neg hc)) ?_
              refine ev_runs 5 (53, [some (.inr (.inr 92)), some (.inl (g 105 (wr ((g 92 20) - 1)).toNat))], [], g) (58, [some (.inr (.inr 92)), some (.inl (g 105 (wr ((g 92 20) - 1)).toNat))], [.inl (g 105 (wr ((g 92 20) - 1)).toNat), .inl 0, .inl 0, .inl 4, .inr (.inr 92)], g) rfl ?_
              obtain ⟨g1, hq, h⟩ := Option.bind_eq_some_iff.mp h
              refine ec 37 61 [.inr (.inr 92), .inl 4, .inl 0, .inl 0, .inl (g 105 (wr ((g 92 20) - 1)).toNat)] [] rfl (ev_Md_act 4 0 0 (g 105 (wr ((g 92 20) - 1)).toNat) g g1 hq) ?_
              show Ev 42 61 [some (.inr (.inr 92)), some (.inl (g 105 (wr ((g 92 20) - 1)).toNat))] [] g1 _ _
              refine ev_runs 5 (61, [some (.inr (.inr 92)), some (.inl (g 105 (wr ((g 92 20) - 1)).toNat))], [], g1) (70, [some (.inr (.inr 92)), some (.inl (g 105 (wr ((g 92 20) - 1)).toNat))], [.inl (g1 92 9), .inl (g 105 (wr ((g 92 20) - 1)).toNat), .inr (.inr 103)], g1) rfl ?_
              by_cases hc : 0 ≤ (g 105 (wr ((g 92 20) - 1)).toNat) ∧ (g 105 (wr ((g 92 20) - 1)).toNat) < 170
              · rw [if_pos hc] at h
                refine es (71, [some (.inr (.inr 92)), some (.inl (g 105 (wr ((g 92 20) - 1)).toNat))], [], (gset g1 103 ((g 105 (wr ((g 92 20) - 1)).toNat).toNat) (g1 92 9))) (if_pos hc) ?_
                refine ev_runs 13 (71, [some (.inr (.inr 92)), some (.inl (g 105 (wr ((g 92 20) - 1)).toNat))], [], (gset g1 103 ((g 105 (wr ((g 92 20) - 1)).toNat).toNat) (g1 92 9))) (92, [some (.inr (.inr 92)), some (.inl (g 105 (wr ((g 92 20) - 1)).toNat))], [.inl 1], (gset (gset (gset g1 103 ((g 105 (wr ((g 92 20) - 1)).toNat).toNat) (g1 92 9)) 92 20 (wr ((g1 92 20) - 1))) 92 8 (wr ((g1 92 8) + 1)))) rfl ?_
                cases h
                exact er rfl
              · rw [if_neg hc] at h; cases h
          · rw [if_neg hc] at h; cases h
        · rw [if_neg hc] at h
          refine es (31, [some (.inr (.inr 92)), some (.inl (g 105 (wr ((g 92 20) - 1)).toNat))], [], g) (congrArg some (if_neg hc)) ?_
          refine ev_runs 3 (31, [some (.inr (.inr 92)), some (.inl (g 105 (wr ((g 92 20) - 1)).toNat))], [], g) (36, [some (.inr (.inr 92)), some (.inl (g 105 (wr ((g 92 20) - 1)).toNat))], [.inl (g 105 (wr ((g 92 20) - 1)).toNat), .inr (.inr 101)], g) rfl ?_
          by_cases hc : 0 ≤ (g 105 (wr ((g 92 20) - 1)).toNat) ∧ (g 105 (wr ((g 92 20) - 1)).toNat) < 170
          · rw [if_pos hc] at h
            refine es (37, [some (.inr (.inr 92)), some (.inl (g 105 (wr ((g 92 20) - 1)).toNat))], [.inl (g 101 (g 105 (wr ((g 92 20) - 1)).toNat).toNat)], g) (if_pos hc) ?_
            refine ev_runs 1 (37, [some (.inr (.inr 92)), some (.inl (g 105 (wr ((g 92 20) - 1)).toNat))], [.inl (g 101 (g 105 (wr ((g 92 20) - 1)).toNat).toNat)], g) (38, [some (.inr (.inr 92)), some (.inl (g 105 (wr ((g 92 20) - 1)).toNat))], [.inl 1, .inl (g 101 (g 105 (wr ((g 92 20) - 1)).toNat).toNat)], g) rfl ?_
            by_cases hc : ¬ (g 101 (g 105 (wr ((g 92 20) - 1)).toNat).toNat) = 1
            · rw [if_pos hc] at h
              refine es (43, [some (.inr (.inr 92)), some (.inl (g 105 (wr ((g 92 20) - 1)).toNat))], [], g) (congrArg some (if_pos hc)) ?_
              refine ev_runs 3 (43, [some (.inr (.inr 92)), some (.inl (g 105 (wr ((g 92 20) - 1)).toNat))], [], g) (48, [some (.inr (.inr 92)), some (.inl (g 105 (wr ((g 92 20) - 1)).toNat))], [.inl (g 105 (wr ((g 92 20) - 1)).toNat), .inr (.inr 99)], g) rfl ?_
              by_cases hc : 0 ≤ (g 105 (wr ((g 92 20) - 1)).toNat) ∧ (g 105 (wr ((g 92 20) - 1)).toNat) < 170
              · rw [if_pos hc] at h
                refine es (49, [some (.inr (.inr 92)), some (.inl (g 105 (wr ((g 92 20) - 1)).toNat))], [.inl (g 99 (g 105 (wr ((g 92 20) - 1)).toNat).toNat)], g) (if_pos hc) ?_
                refine ev_runs 1 (49, [some (.inr (.inr 92)), some (.inl (g 105 (wr ((g 92 20) - 1)).toNat))], [.inl (g 99 (g 105 (wr ((g 92 20) - 1)).toNat).toNat)], g) (50, [some (.inr (.inr 92)), some (.inl (g 105 (wr ((g 92 20) - 1)).toNat))], [.inl 3, .inl (g 99 (g 105 (wr ((g 92 20) - 1)).toNat).toNat)], g) rfl ?_
                by_cases hc : ¬ (g 99 (g 105 (wr ((g 92 20) - 1)).toNat).toNat) = 3
                · rw [if_pos hc] at h
                  refine es (61, [some (.inr (.inr 92)), some (.inl (g 105 (wr ((g 92 20) - 1)).toNat))], [], g) (congrArg some (if_pos hc)) ?_
                  refine ev_runs 5 (61, [some (.inr (.inr 92)), some (.inl (g 105 (wr ((g 92 20) - 1)).toNat))], [], g) (70, [some (.inr (.inr 92)), some (.inl (g 105 (wr ((g 92 20) - 1)).toNat))], [.inl (g 92 9), .inl (g 105 (wr ((g 92 20) - 1)).toNat), .inr (.inr 103)], g) rfl ?_
                  by_cases hc : 0 ≤ (g 105 (wr ((g 92 20) - 1)).toNat) ∧ (g 105 (wr ((g 92 20) - 1)).toNat) < 170
                  · rw [if_pos hc] at h
                    refine es (71, [some (.inr (.inr 92)), some (.inl (g 105 (wr ((g 92 20) - 1)).toNat))], [], (gset g 103 ((g 105 (wr ((g 92 20) - 1)).toNat).toNat) (g 92 9))) (if_pos hc) ?_
                    refine ev_runs 13 (71, [some (.inr (.inr 92)), some (.inl (g 105 (wr ((g 92 20) - 1)).toNat))], [], (gset g 103 ((g 105 (wr ((g 92 20) - 1)).toNat).toNat) (g 92 9))) (92, [some (.inr (.inr 92)), some (.inl (g 105 (wr ((g 92 20) - 1)).toNat))], [.inl 1], (gset (gset (gset g 103 ((g 105 (wr ((g 92 20) - 1)).toNat).toNat) (g 92 9)) 92 20 (wr ((g 92 20) - 1))) 92 8 (wr ((g 92 8) + 1)))) rfl ?_
                    cases h
                    exact er rfl
                  · rw [if_neg hc] at h; cases h
                · rw [if_neg hc] at h
                  refine es (53, [some (.inr (.inr 92)), some (.inl (g 105 (wr ((g 92 20) - 1)).toNat))], [], g) (congrArg some (if_neg hc)) ?_
                  refine ev_runs 5 (53, [some (.inr (.inr 92)), some (.inl (g 105 (wr ((g 92 20) - 1)).toNat))], [], g) (58, [some (.inr (.inr 92)), some (.inl (g 105 (wr ((g 92 20) - 1)).toNat))], [.inl (g 105 (wr ((g 92 20) - 1)).toNat), .inl 0, .inl 0, .inl 4, .inr (.inr 92)], g) rfl ?_
                  obtain ⟨g2, hq, h⟩ := Option.bind_eq_some_iff.mp h
                  refine ec 37 61 [.inr (.inr 92), .inl 4, .inl 0, .inl 0, .inl (g 105 (wr ((g 92 20) - 1)).toNat)] [] rfl (ev_Md_act 4 0 0 (g 105 (wr ((g 92 20) - 1)).toNat) g g2 hq) ?_
                  show Ev 42 61 [some (.inr (.inr 92)), some (.inl (g 105 (wr ((g 92 20) - 1)).toNat))] [] g2 _ _
                  refine ev_runs 5 (61, [some (.inr (.inr 92)), some (.inl (g 105 (wr ((g 92 20) - 1)).toNat))], [], g2) (70, [some (.inr (.inr 92)), some (.inl (g 105 (wr ((g 92 20) - 1)).toNat))], [.inl (g2 92 9), .inl (g 105 (wr ((g 92 20) - 1)).toNat), .inr (.inr 103)], g2) rfl ?_
                  by_cases hc : 0 ≤ (g 105 (wr ((g 92 20) - 1)).toNat) ∧ (g 105 (wr ((g 92 20) - 1)).toNat) < 170
                  · rw [if_pos hc] at h
                    refine es (71, [some (.inr (.inr 92)), some (.inl (g 105 (wr ((g 92 20) - 1)).toNat))], [], (gset g2 103 ((g 105 (wr ((g 92 20) - 1)).toNat).toNat) (g2 92 9))) (if_pos hc) ?_
                    refine ev_runs 13 (71, [some (.inr (.inr 92)), some (.inl (g 105 (wr ((g 92 20) - 1)).toNat))], [], (gset g2 103 ((g 105 (wr ((g 92 20) - 1)).toNat).toNat) (g2 92 9))) (92, [some (.inr (.inr 92)), some (.inl (g 105 (wr ((g 92 20) - 1)).toNat))], [.inl 1], (gset (gset (gset g2 103 ((g 105 (wr ((g 92 20) - 1)).toNat).toNat) (g2 92 9)) 92 20 (wr ((g2 92 20) - 1))) 92 8 (wr ((g2 92 8) + 1)))) rfl ?_
                    cases h
                    exact er rfl
                  · rw [if_neg hc] at h; cases h
              · rw [if_neg hc] at h; cases h
            · rw [if_neg hc] at h
              refine es (41, [some (.inr (.inr 92)), some (.inl (g 105 (wr ((g 92 20) - 1)).toNat))], [], g) (congrArg some (if_neg hc)) ?_
              refine ev_runs 1 (41, [some (.inr (.inr 92)), some (.inl (g 105 (wr ((g 92 20) - 1)).toNat))], [], g) (42, [some (.inr (.inr 92)), some (.inl (g 105 (wr ((g 92 20) - 1)).toNat))], [.inl 0], g) rfl ?_
              cases h
              exact er rfl
          · rw [if_neg hc] at h; cases h
      · rw [if_neg hc] at h; cases h
    · rw [if_neg hc] at h; cases h
  · rw [if_neg hc] at h
    refine es (7, [some (.inr (.inr 92)), none], [], g) (congrArg some (if_neg hc)) ?_
    refine ev_runs 1 (7, [some (.inr (.inr 92)), none], [], g) (8, [some (.inr (.inr 92)), none], [.inl 0], g) rfl ?_
    cases h
    exact er rfl
def Md_reads_l32 (K32_156 : Gx → Option (Int × Gx)) (K32_161 : Gx → Option (Int × Gx)) : Nat → Int → Gx → Option (Int × Gx)
  | 0, _, _ => none
  | n32 + 1, v1, g =>
    if ¬ v1 = 0 then
      if v1 = 0 then
        Option.bind (Md_here 0 g) (fun q1 =>
        if ¬ q1.1 = 44 then
          Option.bind (Md_here 0 q1.2) (fun q2 =>
          if ¬ q2.1 = 124 then
            Option.bind (Md_here 0 q2.2) (fun q3 =>
            if ¬ q3.1 = 41 then
              K32_156 q3.2
            else
              Option.bind (Md_closes q3.2) (fun q4 =>
              if ¬ q4.1 = 0 then
                Md_reads_l32 K32_156 K32_161 n32 v1 q4.2
              else
                K32_156 q4.2))
          else
            Option.bind (Md_wayMore q2.2) (fun q5 =>
            if ¬ q5.1 = 0 then
              Md_reads_l32 K32_156 K32_161 n32 1 q5.2
            else
              some ((q5.2 92 8), q5.2)))
        else
          Md_reads_l32 K32_156 K32_161 n32 1 (gset q1.2 92 8 (wr ((q1.2 92 8) + 1))))
      else
        Option.bind (Md_readsItem g) (fun q6 =>
        if ¬ q6.1 = 0 then
          if (q6.2 92 20) ≤ (g 92 20) then
            Md_reads_l32 K32_156 K32_161 n32 0 q6.2
          else
            Md_reads_l32 K32_156 K32_161 n32 1 q6.2
        else
          some ((q6.2 92 8), q6.2))
    else
      if (g 98 0) ≤ (g 92 8) then
        K32_161 g
      else
        if v1 = 0 then
          Option.bind (Md_here 0 g) (fun q7 =>
          if ¬ q7.1 = 44 then
            Option.bind (Md_here 0 q7.2) (fun q8 =>
            if ¬ q8.1 = 124 then
              Option.bind (Md_here 0 q8.2) (fun q9 =>
              if ¬ q9.1 = 41 then
                K32_156 q9.2
              else
                Option.bind (Md_closes q9.2) (fun q10 =>
                if ¬ q10.1 = 0 then
                  Md_reads_l32 K32_156 K32_161 n32 v1 q10.2
                else
                  K32_156 q10.2))
            else
              Option.bind (Md_wayMore q8.2) (fun q11 =>
              if ¬ q11.1 = 0 then
                Md_reads_l32 K32_156 K32_161 n32 1 q11.2
              else
                some ((q11.2 92 8), q11.2)))
          else
            Md_reads_l32 K32_156 K32_161 n32 1 (gset q7.2 92 8 (wr ((q7.2 92 8) + 1))))
        else
          Option.bind (Md_readsItem g) (fun q12 =>
          if ¬ q12.1 = 0 then
            if (q12.2 92 20) ≤ (g 92 20) then
              Md_reads_l32 K32_156 K32_161 n32 0 q12.2
            else
              Md_reads_l32 K32_156 K32_161 n32 1 q12.2
          else
            some ((q12.2 92 8), q12.2))
def Md_reads (g : Gx) : Option (Int × Gx) :=
  Md_reads_l32
    (fun g13 =>
      some ((g13 92 8), g13))
    (fun g14 =>
      if ¬ (g14 92 20) = 0 then
        some ((g14 92 8), g14)
      else
        some ((-1), g14))
    fu 1 (gset (gset (gset (gset (gset (gset g 92 8 0) 92 9 0) 92 16 0) 92 17 0) 92 18 0) 92 20 0)
set_option maxRecDepth 100000 in
set_option maxHeartbeats 4000000 in
theorem ev_Md_reads_l32 (K32_156 : Gx → Option (Int × Gx)) (K32_161 : Gx → Option (Int × Gx)) (hK32_156 : ∀ (g : Gx) (r : Int) (g' : Gx), K32_156 g = some (r, g') → Ev 43 156 [some (.inr (.inr 92)), none, none] [] g (some (.inl r)) g') (hK32_161 : ∀ (g : Gx) (r : Int) (g' : Gx), K32_161 g = some (r, g') → Ev 43 161 [some (.inr (.inr 92)), none, none] [] g (some (.inl r)) g') : ∀ (n32 : Nat) (v1 : Int) (g : Gx) (r : Int) (g' : Gx), Md_reads_l32 K32_156 K32_161 n32 v1 g = some (r, g') → Ev 43 32 [some (.inr (.inr 92)), some (.inl v1), none] [] g (some (.inl r)) g' := by
  intro n32
  induction n32 with
  | zero => intro v1 g r g' h; cases h
  | succ n32 ih32 =>
    intro v1 g r g' h
    rw [Md_reads_l32] at h
    refine ev_runs 1 (32, [some (.inr (.inr 92)), some (.inl v1), none], [], g) (33, [some (.inr (.inr 92)), some (.inl v1), none], [.inl v1], g) rfl ?_
    by_cases hc : ¬ v1 = 0
    · rw [if_pos hc] at h
      refine es (49, [some (.inr (.inr 92)), some (.inl v1), none], [], g) (congrArg some (if_pos hc)) ?_
      refine ev_runs 1 (49, [some (.inr (.inr 92)), some (.inl v1), none], [], g) (50, [some (.inr (.inr 92)), some (.inl v1), none], [.inl v1], g) rfl ?_
      by_cases hc : v1 = 0
      · rw [if_pos hc] at h
        refine es (87, [some (.inr (.inr 92)), some (.inl v1), none], [], g) (congrArg some (if_pos hc)) ?_
        refine ev_runs 2 (87, [some (.inr (.inr 92)), some (.inl v1), none], [], g) (89, [some (.inr (.inr 92)), some (.inl v1), none], [.inl 0, .inr (.inr 92)], g) rfl ?_
        obtain ⟨q1, hq, h⟩ := Option.bind_eq_some_iff.mp h
        refine ec 36 92 [.inr (.inr 92), .inl 0] [] rfl (ev_Md_here 0 g q1.1 q1.2 hq) ?_
        show Ev 43 92 [some (.inr (.inr 92)), some (.inl v1), none] [.inl q1.1] q1.2 _ _
        refine ev_runs 1 (92, [some (.inr (.inr 92)), some (.inl v1), none], [.inl q1.1], q1.2) (94, [some (.inr (.inr 92)), some (.inl v1), none], [.inl 44, .inl q1.1], q1.2) rfl ?_
        by_cases hc : ¬ q1.1 = 44
        · rw [if_pos hc] at h
          refine es (112, [some (.inr (.inr 92)), some (.inl v1), none], [], q1.2) (congrArg some (if_pos hc)) ?_
          refine ev_runs 2 (112, [some (.inr (.inr 92)), some (.inl v1), none], [], q1.2) (114, [some (.inr (.inr 92)), some (.inl v1), none], [.inl 0, .inr (.inr 92)], q1.2) rfl ?_
          obtain ⟨q2, hq, h⟩ := Option.bind_eq_some_iff.mp h
          refine ec 36 117 [.inr (.inr 92), .inl 0] [] rfl (ev_Md_here 0 q1.2 q2.1 q2.2 hq) ?_
          show Ev 43 117 [some (.inr (.inr 92)), some (.inl v1), none] [.inl q2.1] q2.2 _ _
          refine ev_runs 1 (117, [some (.inr (.inr 92)), some (.inl v1), none], [.inl q2.1], q2.2) (119, [some (.inr (.inr 92)), some (.inl v1), none], [.inl 124, .inl q2.1], q2.2) rfl ?_
          by_cases hc : ¬ q2.1 = 124
          · rw [if_pos hc] at h
            refine es (139, [some (.inr (.inr 92)), some (.inl v1), none], [], q2.2) (congrArg some (if_pos hc)) ?_
            refine ev_runs 2 (139, [some (.inr (.inr 92)), some (.inl v1), none], [], q2.2) (141, [some (.inr (.inr 92)), some (.inl v1), none], [.inl 0, .inr (.inr 92)], q2.2) rfl ?_
            obtain ⟨q3, hq, h⟩ := Option.bind_eq_some_iff.mp h
            refine ec 36 144 [.inr (.inr 92), .inl 0] [] rfl (ev_Md_here 0 q2.2 q3.1 q3.2 hq) ?_
            show Ev 43 144 [some (.inr (.inr 92)), some (.inl v1), none] [.inl q3.1] q3.2 _ _
            refine ev_runs 1 (144, [some (.inr (.inr 92)), some (.inl v1), none], [.inl q3.1], q3.2) (146, [some (.inr (.inr 92)), some (.inl v1), none], [.inl 41, .inl q3.1], q3.2) rfl ?_
            by_cases hc : ¬ q3.1 = 41
            · rw [if_pos hc] at h
              refine es (156, [some (.inr (.inr 92)), some (.inl v1), none], [], q3.2) (congrArg some (if_pos hc)) ?_
              exact ev_le (L := [some (.inr (.inr 92)), none, none]) (by simp [Lle]) (hK32_156 q3.2 r g' h)
            · rw [if_neg hc] at h
              refine es (149, [some (.inr (.inr 92)), some (.inl v1), none], [], q3.2) (congrArg some (if_neg hc)) ?_
              refine ev_runs 1 (149, [some (.inr (.inr 92)), some (.inl v1), none], [], q3.2) (150, [some (.inr (.inr 92)), some (.inl v1), none], [.inr (.inr 92)], q3.2) rfl ?_
              obtain ⟨q4, hq, h⟩ := Option.bind_eq_some_iff.mp h
              refine ec 42 153 [.inr (.inr 92)] [] rfl (ev_Md_closes q3.2 q4.1 q4.2 hq) ?_
              show Ev 43 153 [some (.inr (.inr 92)), some (.inl v1), none] [.inl q4.1] q4.2 _ _
              by_cases hc : ¬ q4.1 = 0
              · rw [if_pos hc] at h
                refine es (32, [some (.inr (.inr 92)), some (.inl v1), none], [], q4.2) (congrArg some (if_pos hc)) ?_
                exact ev_le (L := [some (.inr (.inr 92)), some (.inl v1), none]) (by simp [Lle]) (ih32 v1 q4.2 r g' h)
              · rw [if_neg hc] at h
                refine es (156, [some (.inr (.inr 92)), some (.inl v1), none], [], q4.2) (congrArg some (if_neg hc)) ?_
                exact ev_le (L := [some (.inr (.inr 92)), none, none]) (by simp [Lle]) (hK32_156 q4.2 r g' h)
          · rw [if_neg hc] at h
            refine es (122, [some (.inr (.inr 92)), some (.inl v1), none], [], q2.2) (congrArg some (if_neg hc)) ?_
            refine ev_runs 1 (122, [some (.inr (.inr 92)), some (.inl v1), none], [], q2.2) (123, [some (.inr (.inr 92)), some (.inl v1), none], [.inr (.inr 92)], q2.2) rfl ?_
            obtain ⟨q5, hq, h⟩ := Option.bind_eq_some_iff.mp h
            refine ec 41 126 [.inr (.inr 92)] [] rfl (ev_Md_wayMore q2.2 q5.1 q5.2 hq) ?_
            show Ev 43 126 [some (.inr (.inr 92)), some (.inl v1), none] [.inl q5.1] q5.2 _ _
            by_cases hc : ¬ q5.1 = 0
            · rw [if_pos hc] at h
              refine es (134, [some (.inr (.inr 92)), some (.inl v1), none], [], q5.2) (congrArg some (if_pos hc)) ?_
              refine ev_runs 3 (134, [some (.inr (.inr 92)), some (.inl v1), none], [], q5.2) (32, [some (.inr (.inr 92)), some (.inl 1), none], [], q5.2) rfl ?_
              exact ev_le (L := [some (.inr (.inr 92)), some (.inl 1), none]) (by simp [Lle]) (ih32 1 q5.2 r g' h)
            · rw [if_neg hc] at h
              refine es (129, [some (.inr (.inr 92)), some (.inl v1), none], [], q5.2) (congrArg some (if_neg hc)) ?_
              refine ev_runs 2 (129, [some (.inr (.inr 92)), some (.inl v1), none], [], q5.2) (133, [some (.inr (.inr 92)), some (.inl v1), none], [.inl (q5.2 92 8)], q5.2) rfl ?_
              cases h
              exact er rfl
        · rw [if_neg hc] at h
          refine es (97, [some (.inr (.inr 92)), some (.inl v1), none], [], q1.2) (congrArg some (if_neg hc)) ?_
          refine ev_runs 9 (97, [some (.inr (.inr 92)), some (.inl v1), none], [], q1.2) (32, [some (.inr (.inr 92)), some (.inl 1), none], [], (gset q1.2 92 8 (wr ((q1.2 92 8) + 1)))) rfl ?_
          exact ev_le (L := [some (.inr (.inr 92)), some (.inl 1), none]) (by simp [Lle]) (ih32 1 (gset q1.2 92 8 (wr ((q1.2 92 8) + 1))) r g' h)
      · rw [if_neg hc] at h
        refine es (53, [some (.inr (.inr 92)), some (.inl v1), none], [], g) (congrArg some (if_neg hc)) ?_
        refine ev_runs 4 (53, [some (.inr (.inr 92)), some (.inl v1), none], [], g) (59, [some (.inr (.inr 92)), some (.inl v1), some (.inl (g 92 20))], [.inr (.inr 92)], g) rfl ?_
        obtain ⟨q6, hq, h⟩ := Option.bind_eq_some_iff.mp h
        refine ec 40 62 [.inr (.inr 92)] [] rfl (ev_Md_readsItem g q6.1 q6.2 hq) ?_
        show Ev 43 62 [some (.inr (.inr 92)), some (.inl v1), some (.inl (g 92 20))] [.inl q6.1] q6.2 _ _
        by_cases hc : ¬ q6.1 = 0
        · rw [if_pos hc] at h
          refine es (70, [some (.inr (.inr 92)), some (.inl v1), some (.inl (g 92 20))], [], q6.2) (congrArg some (if_pos hc)) ?_
          refine ev_runs 3 (70, [some (.inr (.inr 92)), some (.inl v1), some (.inl (g 92 20))], [], q6.2) (75, [some (.inr (.inr 92)), some (.inl v1), some (.inl (g 92 20))], [.inl (g 92 20), .inl (q6.2 92 20)], q6.2) rfl ?_
          by_cases hc : (q6.2 92 20) ≤ (g 92 20)
          · rw [if_pos hc] at h
            refine es (82, [some (.inr (.inr 92)), some (.inl v1), some (.inl (g 92 20))], [], q6.2) (congrArg some (if_pos hc)) ?_
            refine ev_runs 3 (82, [some (.inr (.inr 92)), some (.inl v1), some (.inl (g 92 20))], [], q6.2) (32, [some (.inr (.inr 92)), some (.inl 0), some (.inl (g 92 20))], [], q6.2) rfl ?_
            exact ev_le (L := [some (.inr (.inr 92)), some (.inl 0), none]) (by simp [Lle]) (ih32 0 q6.2 r g' h)
          · rw [if_neg hc] at h
            refine es (78, [some (.inr (.inr 92)), some (.inl v1), some (.inl (g 92 20))], [], q6.2) (congrArg some (if_neg hc)) ?_
            refine ev_runs 4 (78, [some (.inr (.inr 92)), some (.inl v1), some (.inl (g 92 20))], [], q6.2) (32, [some (.inr (.inr 92)), some (.inl 1), some (.inl (g 92 20))], [], q6.2) rfl ?_
            exact ev_le (L := [some (.inr (.inr 92)), some (.inl 1), none]) (by simp [Lle]) (ih32 1 q6.2 r g' h)
        · rw [if_neg hc] at h
          refine es (65, [some (.inr (.inr 92)), some (.inl v1), some (.inl (g 92 20))], [], q6.2) (congrArg some (if_neg hc)) ?_
          refine ev_runs 2 (65, [some (.inr (.inr 92)), some (.inl v1), some (.inl (g 92 20))], [], q6.2) (69, [some (.inr (.inr 92)), some (.inl v1), some (.inl (g 92 20))], [.inl (q6.2 92 8)], q6.2) rfl ?_
          cases h
          exact er rfl
    · rw [if_neg hc] at h
      refine es (36, [some (.inr (.inr 92)), some (.inl v1), none], [], g) (congrArg some (if_neg hc)) ?_
      refine ev_runs 6 (36, [some (.inr (.inr 92)), some (.inl v1), none], [], g) (46, [some (.inr (.inr 92)), some (.inl v1), none], [.inl (g 98 0), .inl (g 92 8)], g) rfl ?_
      by_cases hc : (g 98 0) ≤ (g 92 8)
      · rw [if_pos hc] at h
        refine es (161, [some (.inr (.inr 92)), some (.inl v1), none], [], g) (congrArg some (if_pos hc)) ?_
        exact ev_le (L := [some (.inr (.inr 92)), none, none]) (by simp [Lle]) (hK32_161 g r g' h)
      · rw [if_neg hc] at h
        refine es (49, [some (.inr (.inr 92)), some (.inl v1), none], [], g) (congrArg some (if_neg hc)) ?_
        refine ev_runs 1 (49, [some (.inr (.inr 92)), some (.inl v1), none], [], g) (50, [some (.inr (.inr 92)), some (.inl v1), none], [.inl v1], g) rfl ?_
        by_cases hc : v1 = 0
        · rw [if_pos hc] at h
          refine es (87, [some (.inr (.inr 92)), some (.inl v1), none], [], g) (congrArg some (if_pos hc)) ?_
          refine ev_runs 2 (87, [some (.inr (.inr 92)), some (.inl v1), none], [], g) (89, [some (.inr (.inr 92)), some (.inl v1), none], [.inl 0, .inr (.inr 92)], g) rfl ?_
          obtain ⟨q7, hq, h⟩ := Option.bind_eq_some_iff.mp h
          refine ec 36 92 [.inr (.inr 92), .inl 0] [] rfl (ev_Md_here 0 g q7.1 q7.2 hq) ?_
          show Ev 43 92 [some (.inr (.inr 92)), some (.inl v1), none] [.inl q7.1] q7.2 _ _
          refine ev_runs 1 (92, [some (.inr (.inr 92)), some (.inl v1), none], [.inl q7.1], q7.2) (94, [some (.inr (.inr 92)), some (.inl v1), none], [.inl 44, .inl q7.1], q7.2) rfl ?_
          by_cases hc : ¬ q7.1 = 44
          · rw [if_pos hc] at h
            refine es (112, [some (.inr (.inr 92)), some (.inl v1), none], [], q7.2) (congrArg some (if_pos hc)) ?_
            refine ev_runs 2 (112, [some (.inr (.inr 92)), some (.inl v1), none], [], q7.2) (114, [some (.inr (.inr 92)), some (.inl v1), none], [.inl 0, .inr (.inr 92)], q7.2) rfl ?_
            obtain ⟨q8, hq, h⟩ := Option.bind_eq_some_iff.mp h
            refine ec 36 117 [.inr (.inr 92), .inl 0] [] rfl (ev_Md_here 0 q7.2 q8.1 q8.2 hq) ?_
            show Ev 43 117 [some (.inr (.inr 92)), some (.inl v1), none] [.inl q8.1] q8.2 _ _
            refine ev_runs 1 (117, [some (.inr (.inr 92)), some (.inl v1), none], [.inl q8.1], q8.2) (119, [some (.inr (.inr 92)), some (.inl v1), none], [.inl 124, .inl q8.1], q8.2) rfl ?_
            by_cases hc : ¬ q8.1 = 124
            · rw [if_pos hc] at h
              refine es (139, [some (.inr (.inr 92)), some (.inl v1), none], [], q8.2) (congrArg some (if_pos hc)) ?_
              refine ev_runs 2 (139, [some (.inr (.inr 92)), some (.inl v1), none], [], q8.2) (141, [some (.inr (.inr 92)), some (.inl v1), none], [.inl 0, .inr (.inr 92)], q8.2) rfl ?_
              obtain ⟨q9, hq, h⟩ := Option.bind_eq_some_iff.mp h
              refine ec 36 144 [.inr (.inr 92), .inl 0] [] rfl (ev_Md_here 0 q8.2 q9.1 q9.2 hq) ?_
              show Ev 43 144 [some (.inr (.inr 92)), some (.inl v1), none] [.inl q9.1] q9.2 _ _
              refine ev_runs 1 (144, [some (.inr (.inr 92)), some (.inl v1), none], [.inl q9.1], q9.2) (146, [some (.inr (.inr 92)), some (.inl v1), none], [.inl 41, .inl q9.1], q9.2) rfl ?_
              by_cases hc : ¬ q9.1 = 41
              · rw [if_pos hc] at h
                refine es (156, [some (.inr (.inr 92)), some (.inl v1), none], [], q9.2) (congrArg some (if_pos hc)) ?_
                exact ev_le (L := [some (.inr (.inr 92)), none, none]) (by simp [Lle]) (hK32_156 q9.2 r g' h)
              · rw [if_neg hc] at h
                refine es (149, [some (.inr (.inr 92)), some (.inl v1), none], [], q9.2) (congrArg some (if_neg hc)) ?_
                refine ev_runs 1 (149, [some (.inr (.inr 92)), some (.inl v1), none], [], q9.2) (150, [some (.inr (.inr 92)), some (.inl v1), none], [.inr (.inr 92)], q9.2) rfl ?_
                obtain ⟨q10, hq, h⟩ := Option.bind_eq_some_iff.mp h
                refine ec 42 153 [.inr (.inr 92)] [] rfl (ev_Md_closes q9.2 q10.1 q10.2 hq) ?_
                show Ev 43 153 [some (.inr (.inr 92)), some (.inl v1), none] [.inl q10.1] q10.2 _ _
                by_cases hc : ¬ q10.1 = 0
                · rw [if_pos hc] at h
                  refine es (32, [some (.inr (.inr 92)), some (.inl v1), none], [], q10.2) (congrArg some (if_pos hc)) ?_
                  exact ev_le (L := [some (.inr (.inr 92)), some (.inl v1), none]) (by simp [Lle]) (ih32 v1 q10.2 r g' h)
                · rw [if_neg hc] at h
                  refine es (156, [some (.inr (.inr 92)), some (.inl v1), none], [], q10.2) (congrArg some (if_neg hc)) ?_
                  exact ev_le (L := [some (.inr (.inr 92)), none, none]) (by simp [Lle]) (hK32_156 q10.2 r g' h)
            · rw [if_neg hc] at h
              refine es (122, [some (.inr (.inr 92)), some (.inl v1), none], [], q8.2) (congrArg some (if_neg hc)) ?_
              refine ev_runs 1 (122, [some (.inr (.inr 92)), some (.inl v1), none], [], q8.2) (123, [some (.inr (.inr 92)), some (.inl v1), none], [.inr (.inr 92)], q8.2) rfl ?_
              obtain ⟨q11, hq, h⟩ := Option.bind_eq_some_iff.mp h
              refine ec 41 126 [.inr (.inr 92)] [] rfl (ev_Md_wayMore q8.2 q11.1 q11.2 hq) ?_
              show Ev 43 126 [some (.inr (.inr 92)), some (.inl v1), none] [.inl q11.1] q11.2 _ _
              by_cases hc : ¬ q11.1 = 0
              · rw [if_pos hc] at h
                refine es (134, [some (.inr (.inr 92)), some (.inl v1), none], [], q11.2) (congrArg some (if_pos hc)) ?_
                refine ev_runs 3 (134, [some (.inr (.inr 92)), some (.inl v1), none], [], q11.2) (32, [some (.inr (.inr 92)), some (.inl 1), none], [], q11.2) rfl ?_
                exact ev_le (L := [some (.inr (.inr 92)), some (.inl 1), none]) (by simp [Lle]) (ih32 1 q11.2 r g' h)
              · rw [if_neg hc] at h
                refine es (129, [some (.inr (.inr 92)), some (.inl v1), none], [], q11.2) (congrArg some (if_neg hc)) ?_
                refine ev_runs 2 (129, [some (.inr (.inr 92)), some (.inl v1), none], [], q11.2) (133, [some (.inr (.inr 92)), some (.inl v1), none], [.inl (q11.2 92 8)], q11.2) rfl ?_
                cases h
                exact er rfl
          · rw [if_neg hc] at h
            refine es (97, [some (.inr (.inr 92)), some (.inl v1), none], [], q7.2) (congrArg some (if_neg hc)) ?_
            refine ev_runs 9 (97, [some (.inr (.inr 92)), some (.inl v1), none], [], q7.2) (32, [some (.inr (.inr 92)), some (.inl 1), none], [], (gset q7.2 92 8 (wr ((q7.2 92 8) + 1)))) rfl ?_
            exact ev_le (L := [some (.inr (.inr 92)), some (.inl 1), none]) (by simp [Lle]) (ih32 1 (gset q7.2 92 8 (wr ((q7.2 92 8) + 1))) r g' h)
        · rw [if_neg hc] at h
          refine es (53, [some (.inr (.inr 92)), some (.inl v1), none], [], g) (congrArg some (if_neg hc)) ?_
          refine ev_runs 4 (53, [some (.inr (.inr 92)), some (.inl v1), none], [], g) (59, [some (.inr (.inr 92)), some (.inl v1), some (.inl (g 92 20))], [.inr (.inr 92)], g) rfl ?_
          obtain ⟨q12, hq, h⟩ := Option.bind_eq_some_iff.mp h
          refine ec 40 62 [.inr (.inr 92)] [] rfl (ev_Md_readsItem g q12.1 q12.2 hq) ?_
          show Ev 43 62 [some (.inr (.inr 92)), some (.inl v1), some (.inl (g 92 20))] [.inl q12.1] q12.2 _ _
          by_cases hc : ¬ q12.1 = 0
          · rw [if_pos hc] at h
            refine es (70, [some (.inr (.inr 92)), some (.inl v1), some (.inl (g 92 20))], [], q12.2) (congrArg some (if_pos hc)) ?_
            refine ev_runs 3 (70, [some (.inr (.inr 92)), some (.inl v1), some (.inl (g 92 20))], [], q12.2) (75, [some (.inr (.inr 92)), some (.inl v1), some (.inl (g 92 20))], [.inl (g 92 20), .inl (q12.2 92 20)], q12.2) rfl ?_
            by_cases hc : (q12.2 92 20) ≤ (g 92 20)
            · rw [if_pos hc] at h
              refine es (82, [some (.inr (.inr 92)), some (.inl v1), some (.inl (g 92 20))], [], q12.2) (congrArg some (if_pos hc)) ?_
              refine ev_runs 3 (82, [some (.inr (.inr 92)), some (.inl v1), some (.inl (g 92 20))], [], q12.2) (32, [some (.inr (.inr 92)), some (.inl 0), some (.inl (g 92 20))], [], q12.2) rfl ?_
              exact ev_le (L := [some (.inr (.inr 92)), some (.inl 0), none]) (by simp [Lle]) (ih32 0 q12.2 r g' h)
            · rw [if_neg hc] at h
              refine es (78, [some (.inr (.inr 92)), some (.inl v1), some (.inl (g 92 20))], [], q12.2) (congrArg some (if_neg hc)) ?_
              refine ev_runs 4 (78, [some (.inr (.inr 92)), some (.inl v1), some (.inl (g 92 20))], [], q12.2) (32, [some (.inr (.inr 92)), some (.inl 1), some (.inl (g 92 20))], [], q12.2) rfl ?_
              exact ev_le (L := [some (.inr (.inr 92)), some (.inl 1), none]) (by simp [Lle]) (ih32 1 q12.2 r g' h)
          · rw [if_neg hc] at h
            refine es (65, [some (.inr (.inr 92)), some (.inl v1), some (.inl (g 92 20))], [], q12.2) (congrArg some (if_neg hc)) ?_
            refine ev_runs 2 (65, [some (.inr (.inr 92)), some (.inl v1), some (.inl (g 92 20))], [], q12.2) (69, [some (.inr (.inr 92)), some (.inl v1), some (.inl (g 92 20))], [.inl (q12.2 92 8)], q12.2) rfl ?_
            cases h
            exact er rfl
set_option maxRecDepth 100000 in
set_option maxHeartbeats 4000000 in
theorem ev_Md_reads (g : Gx) (r : Int) (g' : Gx) (h : Md_reads g = some (r, g')) : Ev 43 0 [some (.inr (.inr 92)), none, none] [] g (some (.inl r)) g' := by
  rw [Md_reads] at h
  refine ev_runs 20 (0, [some (.inr (.inr 92)), none, none], [], g) (32, [some (.inr (.inr 92)), some (.inl 1), none], [], (gset (gset (gset (gset (gset (gset g 92 8 0) 92 9 0) 92 16 0) 92 17 0) 92 18 0) 92 20 0)) rfl ?_
  refine ev_le (L := [some (.inr (.inr 92)), some (.inl 1), none]) (by simp [Lle]) ?_
  refine ev_Md_reads_l32 _ _ ?_ ?_ fu 1 (gset (gset (gset (gset (gset (gset g 92 8 0) 92 9 0) 92 16 0) 92 17 0) 92 18 0) 92 20 0) r g' h
  · intro g13 r g' h
    refine ev_runs 2 (156, [some (.inr (.inr 92)), none, none], [], g13) (160, [some (.inr (.inr 92)), none, none], [.inl (g13 92 8)], g13) rfl ?_
    cases h
    exact er rfl
  · intro g14 r g' h
    refine ev_runs 2 (161, [some (.inr (.inr 92)), none, none], [], g14) (165, [some (.inr (.inr 92)), none, none], [.inl (g14 92 20)], g14) rfl ?_
    by_cases hc : ¬ (g14 92 20) = 0
    · rw [if_pos hc] at h
      refine es (172, [some (.inr (.inr 92)), none, none], [], g14) (congrArg some (if_pos hc)) ?_
      refine ev_runs 2 (172, [some (.inr (.inr 92)), none, none], [], g14) (176, [some (.inr (.inr 92)), none, none], [.inl (g14 92 8)], g14) rfl ?_
      cases h
      exact er rfl
    · rw [if_neg hc] at h
      refine es (168, [some (.inr (.inr 92)), none, none], [], g14) (congrArg some (if_neg hc)) ?_
      refine ev_runs 2 (168, [some (.inr (.inr 92)), none, none], [], g14) (176, [some (.inr (.inr 92)), none, none], [.inl (-1)], g14) rfl ?_
      cases h
      exact er rfl
