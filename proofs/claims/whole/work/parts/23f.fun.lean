/-! Methods as functions, and that the small machine does them. Printed by wip/gen/gen_parts.py. -/
def Md_isSound_l26 (c1 : Int) (c2 : Int) (K26_124 : Gx → Option (Int × Gx)) : Nat → Int → Gx → Option (Int × Gx)
  | 0, _, _ => none
  | n26 + 1, v3, g =>
    if (g 92 26) ≤ v3 then
      K26_124 g
    else
      Option.bind (Md_unlike c1 c2 v3 g) (fun q2 =>
      if q2.1 = (-1) then
        Md_isSound_l26 c1 c2 K26_124 n26 (wr (v3 + 1)) q2.2
      else
        Option.bind (Md_parting c2 v3 q2.2) (fun q3 =>
        if q3.1 = c1 then
          Md_isSound_l26 c1 c2 K26_124 n26 (wr (v3 + 1)) q3.2
        else
          Option.bind (Md_lookAt c1 c2 q2.1 q3.2) (fun q4 =>
          if q4.1 < 20000 then
            some (0, (gset (gset (gset (gset q4.2 120 0 c1) 120 1 c2) 120 2 v3) 120 3 q2.1))
          else
            Option.bind (Md_lookAt c1 v3 q2.1 q4.2) (fun q5 =>
            if 20000 ≤ q5.1 then
              Md_isSound_l26 c1 c2 K26_124 n26 (wr (v3 + 1)) q5.2
            else
              some (0, (gset (gset (gset (gset q5.2 120 0 c1) 120 1 c2) 120 2 v3) 120 3 q2.1))))))
def Md_isSound_l14 (c1 : Int) (K14_130 : Gx → Option (Int × Gx)) : Nat → Int → Gx → Option (Int × Gx)
  | 0, _, _ => none
  | n14 + 1, v2, g =>
    if (g 92 26) ≤ v2 then
      K14_130 g
    else
      Md_isSound_l26 c1 v2
        (fun g6 =>
          Md_isSound_l14 c1 K14_130 n14 (wr (v2 + 1)) g6)
        fu (wr (v2 + 1)) g
def Md_isSound_l6 (K6_136 : Gx → Option (Int × Gx)) : Nat → Int → Gx → Option (Int × Gx)
  | 0, _, _ => none
  | n6 + 1, v1, g =>
    if 6 ≤ v1 then
      K6_136 g
    else
      Md_isSound_l14 v1
        (fun g7 =>
          Md_isSound_l6 K6_136 n6 (wr (v1 + 1)) g7)
        fu 0 g
def Md_isSound (g : Gx) : Option (Int × Gx) :=
  Option.bind (Md_findLooks g) (fun g1 =>
  Md_isSound_l6
    (fun g8 =>
      some (1, g8))
    fu 0 g1)
set_option maxRecDepth 100000 in
set_option maxHeartbeats 4000000 in
theorem ev_Md_isSound_l26 (c1 : Int) (c2 : Int) (K26_124 : Gx → Option (Int × Gx)) (hK26_124 : ∀ (g : Gx) (r : Int) (g' : Gx), K26_124 g = some (r, g') → Ev 126 124 [some (.inr (.inr 92)), some (.inl c1), some (.inl c2), none, none] [] g (some (.inl r)) g') : ∀ (n26 : Nat) (v3 : Int) (g : Gx) (r : Int) (g' : Gx), Md_isSound_l26 c1 c2 K26_124 n26 v3 g = some (r, g') → Ev 126 26 [some (.inr (.inr 92)), some (.inl c1), some (.inl c2), some (.inl v3), none] [] g (some (.inl r)) g' := by
  intro n26
  induction n26 with
  | zero => intro v3 g r g' h; cases h
  | succ n26 ih26 =>
    intro v3 g r g' h
    rw [Md_isSound_l26] at h
    refine ev_runs 3 (26, [some (.inr (.inr 92)), some (.inl c1), some (.inl c2), some (.inl v3), none], [], g) (31, [some (.inr (.inr 92)), some (.inl c1), some (.inl c2), some (.inl v3), none], [.inl (g 92 26), .inl v3], g) rfl ?_
    by_cases hc : (g 92 26) ≤ v3
    · rw [if_pos hc] at h
      refine es (124, [some (.inr (.inr 92)), some (.inl c1), some (.inl c2), some (.inl v3), none], [], g) (congrArg some (if_pos hc)) ?_
      exact ev_le (L := [some (.inr (.inr 92)), some (.inl c1), some (.inl c2), none, none]) (by simp [Lle]) (hK26_124 g r g' h)
    · rw [if_neg hc] at h
      refine es (34, [some (.inr (.inr 92)), some (.inl c1), some (.inl c2), some (.inl v3), none], [], g) (congrArg some (if_neg hc)) ?_
      refine ev_runs 4 (34, [some (.inr (.inr 92)), some (.inl c1), some (.inl c2), some (.inl v3), none], [], g) (38, [some (.inr (.inr 92)), some (.inl c1), some (.inl c2), some (.inl v3), none], [.inl v3, .inl c2, .inl c1, .inr (.inr 92)], g) rfl ?_
      obtain ⟨q2, hq, h⟩ := Option.bind_eq_some_iff.mp h
      refine ec 111 41 [.inr (.inr 92), .inl c1, .inl c2, .inl v3] [] rfl (ev_Md_unlike c1 c2 v3 g q2.1 q2.2 hq) ?_
      show Ev 126 41 [some (.inr (.inr 92)), some (.inl c1), some (.inl c2), some (.inl v3), none] [.inl q2.1] q2.2 _ _
      refine ev_runs 3 (41, [some (.inr (.inr 92)), some (.inl c1), some (.inl c2), some (.inl v3), none], [.inl q2.1], q2.2) (46, [some (.inr (.inr 92)), some (.inl c1), some (.inl c2), some (.inl v3), some (.inl q2.1)], [.inl (-1), .inl q2.1], q2.2) rfl ?_
      by_cases hc : q2.1 = (-1)
      · rw [if_pos hc] at h
        refine es (118, [some (.inr (.inr 92)), some (.inl c1), some (.inl c2), some (.inl v3), some (.inl q2.1)], [], q2.2) (congrArg some (if_pos hc)) ?_
        refine ev_runs 2 (118, [some (.inr (.inr 92)), some (.inl c1), some (.inl c2), some (.inl v3), some (.inl q2.1)], [], q2.2) (26, [some (.inr (.inr 92)), some (.inl c1), some (.inl c2), some (.inl (wr (v3 + 1))), some (.inl q2.1)], [], q2.2) rfl ?_
        exact ev_le (L := [some (.inr (.inr 92)), some (.inl c1), some (.inl c2), some (.inl (wr (v3 + 1))), none]) (by simp [Lle]) (ih26 (wr (v3 + 1)) q2.2 r g' h)
      · rw [if_neg hc] at h
        refine es (49, [some (.inr (.inr 92)), some (.inl c1), some (.inl c2), some (.inl v3), some (.inl q2.1)], [], q2.2) (congrArg some (if_neg hc)) ?_
        refine ev_runs 3 (49, [some (.inr (.inr 92)), some (.inl c1), some (.inl c2), some (.inl v3), some (.inl q2.1)], [], q2.2) (52, [some (.inr (.inr 92)), some (.inl c1), some (.inl c2), some (.inl v3), some (.inl q2.1)], [.inl v3, .inl c2, .inr (.inr 92)], q2.2) rfl ?_
        obtain ⟨q3, hq, h⟩ := Option.bind_eq_some_iff.mp h
        refine ec 116 55 [.inr (.inr 92), .inl c2, .inl v3] [] rfl (ev_Md_parting c2 v3 q2.2 q3.1 q3.2 hq) ?_
        show Ev 126 55 [some (.inr (.inr 92)), some (.inl c1), some (.inl c2), some (.inl v3), some (.inl q2.1)] [.inl q3.1] q3.2 _ _
        refine ev_runs 1 (55, [some (.inr (.inr 92)), some (.inl c1), some (.inl c2), some (.inl v3), some (.inl q2.1)], [.inl q3.1], q3.2) (56, [some (.inr (.inr 92)), some (.inl c1), some (.inl c2), some (.inl v3), some (.inl q2.1)], [.inl c1, .inl q3.1], q3.2) rfl ?_
        by_cases hc : q3.1 = c1
        · rw [if_pos hc] at h
          refine es (118, [some (.inr (.inr 92)), some (.inl c1), some (.inl c2), some (.inl v3), some (.inl q2.1)], [], q3.2) (congrArg some (if_pos hc)) ?_
          refine ev_runs 2 (118, [some (.inr (.inr 92)), some (.inl c1), some (.inl c2), some (.inl v3), some (.inl q2.1)], [], q3.2) (26, [some (.inr (.inr 92)), some (.inl c1), some (.inl c2), some (.inl (wr (v3 + 1))), some (.inl q2.1)], [], q3.2) rfl ?_
          exact ev_le (L := [some (.inr (.inr 92)), some (.inl c1), some (.inl c2), some (.inl (wr (v3 + 1))), none]) (by simp [Lle]) (ih26 (wr (v3 + 1)) q3.2 r g' h)
        · rw [if_neg hc] at h
          refine es (59, [some (.inr (.inr 92)), some (.inl c1), some (.inl c2), some (.inl v3), some (.inl q2.1)], [], q3.2) (congrArg some (if_neg hc)) ?_
          refine ev_runs 4 (59, [some (.inr (.inr 92)), some (.inl c1), some (.inl c2), some (.inl v3), some (.inl q2.1)], [], q3.2) (64, [some (.inr (.inr 92)), some (.inl c1), some (.inl c2), some (.inl v3), some (.inl q2.1)], [.inl q2.1, .inl c2, .inl c1, .inr (.inr 92)], q3.2) rfl ?_
          obtain ⟨q4, hq, h⟩ := Option.bind_eq_some_iff.mp h
          refine ec 102 67 [.inr (.inr 92), .inl c1, .inl c2, .inl q2.1] [] rfl (ev_Md_lookAt c1 c2 q2.1 q3.2 q4.1 q4.2 hq) ?_
          show Ev 126 67 [some (.inr (.inr 92)), some (.inl c1), some (.inl c2), some (.inl v3), some (.inl q2.1)] [.inl q4.1] q4.2 _ _
          refine ev_runs 1 (67, [some (.inr (.inr 92)), some (.inl c1), some (.inl c2), some (.inl v3), some (.inl q2.1)], [.inl q4.1], q4.2) (70, [some (.inr (.inr 92)), some (.inl c1), some (.inl c2), some (.inl v3), some (.inl q2.1)], [.inl 20000, .inl q4.1], q4.2) rfl ?_
          by_cases hc : q4.1 < 20000
          · rw [if_pos hc] at h
            refine es (87, [some (.inr (.inr 92)), some (.inl c1), some (.inl c2), some (.inl v3), some (.inl q2.1)], [], q4.2) (congrArg some (if_pos hc)) ?_
            refine ev_runs 21 (87, [some (.inr (.inr 92)), some (.inl c1), some (.inl c2), some (.inl v3), some (.inl q2.1)], [], q4.2) (117, [some (.inr (.inr 92)), some (.inl c1), some (.inl c2), some (.inl v3), some (.inl q2.1)], [.inl 0], (gset (gset (gset (gset q4.2 120 0 c1) 120 1 c2) 120 2 v3) 120 3 q2.1)) rfl ?_
            cases h
            exact er rfl
          · rw [if_neg hc] at h
            refine es (73, [some (.inr (.inr 92)), some (.inl c1), some (.inl c2), some (.inl v3), some (.inl q2.1)], [], q4.2) (congrArg some (if_neg hc)) ?_
            refine ev_runs 4 (73, [some (.inr (.inr 92)), some (.inl c1), some (.inl c2), some (.inl v3), some (.inl q2.1)], [], q4.2) (78, [some (.inr (.inr 92)), some (.inl c1), some (.inl c2), some (.inl v3), some (.inl q2.1)], [.inl q2.1, .inl v3, .inl c1, .inr (.inr 92)], q4.2) rfl ?_
            obtain ⟨q5, hq, h⟩ := Option.bind_eq_some_iff.mp h
            refine ec 102 81 [.inr (.inr 92), .inl c1, .inl v3, .inl q2.1] [] rfl (ev_Md_lookAt c1 v3 q2.1 q4.2 q5.1 q5.2 hq) ?_
            show Ev 126 81 [some (.inr (.inr 92)), some (.inl c1), some (.inl c2), some (.inl v3), some (.inl q2.1)] [.inl q5.1] q5.2 _ _
            refine ev_runs 1 (81, [some (.inr (.inr 92)), some (.inl c1), some (.inl c2), some (.inl v3), some (.inl q2.1)], [.inl q5.1], q5.2) (84, [some (.inr (.inr 92)), some (.inl c1), some (.inl c2), some (.inl v3), some (.inl q2.1)], [.inl 20000, .inl q5.1], q5.2) rfl ?_
            by_cases hc : 20000 ≤ q5.1
            · rw [if_pos hc] at h
              refine es (118, [some (.inr (.inr 92)), some (.inl c1), some (.inl c2), some (.inl v3), some (.inl q2.1)], [], q5.2) (congrArg some (if_pos hc)) ?_
              refine ev_runs 2 (118, [some (.inr (.inr 92)), some (.inl c1), some (.inl c2), some (.inl v3), some (.inl q2.1)], [], q5.2) (26, [some (.inr (.inr 92)), some (.inl c1), some (.inl c2), some (.inl (wr (v3 + 1))), some (.inl q2.1)], [], q5.2) rfl ?_
              exact ev_le (L := [some (.inr (.inr 92)), some (.inl c1), some (.inl c2), some (.inl (wr (v3 + 1))), none]) (by simp [Lle]) (ih26 (wr (v3 + 1)) q5.2 r g' h)
            · rw [if_neg hc] at h
              refine es (87, [some (.inr (.inr 92)), some (.inl c1), some (.inl c2), some (.inl v3), some (.inl q2.1)], [], q5.2) (congrArg some (if_neg hc)) ?_
              refine ev_runs 21 (87, [some (.inr (.inr 92)), some (.inl c1), some (.inl c2), some (.inl v3), some (.inl q2.1)], [], q5.2) (117, [some (.inr (.inr 92)), some (.inl c1), some (.inl c2), some (.inl v3), some (.inl q2.1)], [.inl 0], (gset (gset (gset (gset q5.2 120 0 c1) 120 1 c2) 120 2 v3) 120 3 q2.1)) rfl ?_
              cases h
              exact er rfl
set_option maxRecDepth 100000 in
set_option maxHeartbeats 4000000 in
theorem ev_Md_isSound_l14 (c1 : Int) (K14_130 : Gx → Option (Int × Gx)) (hK14_130 : ∀ (g : Gx) (r : Int) (g' : Gx), K14_130 g = some (r, g') → Ev 126 130 [some (.inr (.inr 92)), some (.inl c1), none, none, none] [] g (some (.inl r)) g') : ∀ (n14 : Nat) (v2 : Int) (g : Gx) (r : Int) (g' : Gx), Md_isSound_l14 c1 K14_130 n14 v2 g = some (r, g') → Ev 126 14 [some (.inr (.inr 92)), some (.inl c1), some (.inl v2), none, none] [] g (some (.inl r)) g' := by
  intro n14
  induction n14 with
  | zero => intro v2 g r g' h; cases h
  | succ n14 ih14 =>
    intro v2 g r g' h
    rw [Md_isSound_l14] at h
    refine ev_runs 3 (14, [some (.inr (.inr 92)), some (.inl c1), some (.inl v2), none, none], [], g) (19, [some (.inr (.inr 92)), some (.inl c1), some (.inl v2), none, none], [.inl (g 92 26), .inl v2], g) rfl ?_
    by_cases hc : (g 92 26) ≤ v2
    · rw [if_pos hc] at h
      refine es (130, [some (.inr (.inr 92)), some (.inl c1), some (.inl v2), none, none], [], g) (congrArg some (if_pos hc)) ?_
      exact ev_le (L := [some (.inr (.inr 92)), some (.inl c1), none, none, none]) (by simp [Lle]) (hK14_130 g r g' h)
    · rw [if_neg hc] at h
      refine es (22, [some (.inr (.inr 92)), some (.inl c1), some (.inl v2), none, none], [], g) (congrArg some (if_neg hc)) ?_
      refine ev_runs 4 (22, [some (.inr (.inr 92)), some (.inl c1), some (.inl v2), none, none], [], g) (26, [some (.inr (.inr 92)), some (.inl c1), some (.inl v2), some (.inl (wr (v2 + 1))), none], [], g) rfl ?_
      refine ev_le (L := [some (.inr (.inr 92)), some (.inl c1), some (.inl v2), some (.inl (wr (v2 + 1))), none]) (by simp [Lle]) ?_
      refine ev_Md_isSound_l26 c1 v2 _ ?_ fu (wr (v2 + 1)) g r g' h
      · intro g6 r g' h
        refine ev_runs 2 (124, [some (.inr (.inr 92)), some (.inl c1), some (.inl v2), none, none], [], g6) (14, [some (.inr (.inr 92)), some (.inl c1), some (.inl (wr (v2 + 1))), none, none], [], g6) rfl ?_
        exact ev_le (L := [some (.inr (.inr 92)), some (.inl c1), some (.inl (wr (v2 + 1))), none, none]) (by simp [Lle]) (ih14 (wr (v2 + 1)) g6 r g' h)
set_option maxRecDepth 100000 in
set_option maxHeartbeats 4000000 in
theorem ev_Md_isSound_l6 (K6_136 : Gx → Option (Int × Gx)) (hK6_136 : ∀ (g : Gx) (r : Int) (g' : Gx), K6_136 g = some (r, g') → Ev 126 136 [none, none, none, none, none] [] g (some (.inl r)) g') : ∀ (n6 : Nat) (v1 : Int) (g : Gx) (r : Int) (g' : Gx), Md_isSound_l6 K6_136 n6 v1 g = some (r, g') → Ev 126 6 [some (.inr (.inr 92)), some (.inl v1), none, none, none] [] g (some (.inl r)) g' := by
  intro n6
  induction n6 with
  | zero => intro v1 g r g' h; cases h
  | succ n6 ih6 =>
    intro v1 g r g' h
    rw [Md_isSound_l6] at h
    refine ev_runs 2 (6, [some (.inr (.inr 92)), some (.inl v1), none, none, none], [], g) (9, [some (.inr (.inr 92)), some (.inl v1), none, none, none], [.inl 6, .inl v1], g) rfl ?_
    by_cases hc : 6 ≤ v1
    · rw [if_pos hc] at h
      refine es (136, [some (.inr (.inr 92)), some (.inl v1), none, none, none], [], g) (congrArg some (if_pos hc)) ?_
      exact ev_le (L := [none, none, none, none, none]) (by simp [Lle]) (hK6_136 g r g' h)
    · rw [if_neg hc] at h
      refine es (12, [some (.inr (.inr 92)), some (.inl v1), none, none, none], [], g) (congrArg some (if_neg hc)) ?_
      refine ev_runs 2 (12, [some (.inr (.inr 92)), some (.inl v1), none, none, none], [], g) (14, [some (.inr (.inr 92)), some (.inl v1), some (.inl 0), none, none], [], g) rfl ?_
      refine ev_le (L := [some (.inr (.inr 92)), some (.inl v1), some (.inl 0), none, none]) (by simp [Lle]) ?_
      refine ev_Md_isSound_l14 v1 _ ?_ fu 0 g r g' h
      · intro g7 r g' h
        refine ev_runs 2 (130, [some (.inr (.inr 92)), some (.inl v1), none, none, none], [], g7) (6, [some (.inr (.inr 92)), some (.inl (wr (v1 + 1))), none, none, none], [], g7) rfl ?_
        exact ev_le (L := [some (.inr (.inr 92)), some (.inl (wr (v1 + 1))), none, none, none]) (by simp [Lle]) (ih6 (wr (v1 + 1)) g7 r g' h)
set_option maxRecDepth 100000 in
set_option maxHeartbeats 4000000 in
theorem ev_Md_isSound (g : Gx) (r : Int) (g' : Gx) (h : Md_isSound g = some (r, g')) : Ev 126 0 [some (.inr (.inr 92)), none, none, none, none] [] g (some (.inl r)) g' := by
  rw [Md_isSound] at h
  refine ev_runs 1 (0, [some (.inr (.inr 92)), none, none, none, none], [], g) (1, [some (.inr (.inr 92)), none, none, none, none], [.inr (.inr 92)], g) rfl ?_
  obtain ⟨g1, hq, h⟩ := Option.bind_eq_some_iff.mp h
  refine ec 101 4 [.inr (.inr 92)] [] rfl (ev_Md_findLooks g g1 hq) ?_
  show Ev 126 4 [some (.inr (.inr 92)), none, none, none, none] [] g1 _ _
  refine ev_runs 2 (4, [some (.inr (.inr 92)), none, none, none, none], [], g1) (6, [some (.inr (.inr 92)), some (.inl 0), none, none, none], [], g1) rfl ?_
  refine ev_le (L := [some (.inr (.inr 92)), some (.inl 0), none, none, none]) (by simp [Lle]) ?_
  refine ev_Md_isSound_l6 _ ?_ fu 0 g1 r g' h
  · intro g8 r g' h
    refine ev_runs 1 (136, [none, none, none, none, none], [], g8) (137, [none, none, none, none, none], [.inl 1], g8) rfl ?_
    cases h
    exact er rfl
def Md_sound (g : Gx) : Option (Int × Gx) :=
  Option.bind (Md_without g) (fun q1 =>
  if q1.1 = 0 then
    Option.bind (Md_isSound q1.2) (fun q2 =>
    if q2.1 = 0 then
      some (0, q2.2)
    else
      some (1, q2.2))
  else
    some (q1.1, q1.2))
set_option maxRecDepth 100000 in
set_option maxHeartbeats 4000000 in
theorem ev_Md_sound (g : Gx) (r : Int) (g' : Gx) (h : Md_sound g = some (r, g')) : Ev 127 0 [some (.inr (.inr 92)), none] [] g (some (.inl r)) g' := by
  rw [Md_sound] at h
  refine ev_runs 1 (0, [some (.inr (.inr 92)), none], [], g) (1, [some (.inr (.inr 92)), none], [.inr (.inr 92)], g) rfl ?_
  obtain ⟨q1, hq, h⟩ := Option.bind_eq_some_iff.mp h
  refine ec 81 4 [.inr (.inr 92)] [] rfl (ev_Md_without g q1.1 q1.2 hq) ?_
  show Ev 127 4 [some (.inr (.inr 92)), none] [.inl q1.1] q1.2 _ _
  refine ev_runs 2 (4, [some (.inr (.inr 92)), none], [.inl q1.1], q1.2) (6, [some (.inr (.inr 92)), some (.inl q1.1)], [.inl q1.1], q1.2) rfl ?_
  by_cases hc : q1.1 = 0
  · rw [if_pos hc] at h
    refine es (13, [some (.inr (.inr 92)), some (.inl q1.1)], [], q1.2) (congrArg some (if_pos hc)) ?_
    refine ev_runs 1 (13, [some (.inr (.inr 92)), some (.inl q1.1)], [], q1.2) (14, [some (.inr (.inr 92)), some (.inl q1.1)], [.inr (.inr 92)], q1.2) rfl ?_
    obtain ⟨q2, hq, h⟩ := Option.bind_eq_some_iff.mp h
    refine ec 126 17 [.inr (.inr 92)] [] rfl (ev_Md_isSound q1.2 q2.1 q2.2 hq) ?_
    show Ev 127 17 [some (.inr (.inr 92)), some (.inl q1.1)] [.inl q2.1] q2.2 _ _
    by_cases hc : q2.1 = 0
    · rw [if_pos hc] at h
      refine es (24, [some (.inr (.inr 92)), some (.inl q1.1)], [], q2.2) (congrArg some (if_pos hc)) ?_
      refine ev_runs 1 (24, [some (.inr (.inr 92)), some (.inl q1.1)], [], q2.2) (25, [some (.inr (.inr 92)), some (.inl q1.1)], [.inl 0], q2.2) rfl ?_
      cases h
      exact er rfl
    · rw [if_neg hc] at h
      refine es (20, [some (.inr (.inr 92)), some (.inl q1.1)], [], q2.2) (congrArg some (if_neg hc)) ?_
      refine ev_runs 2 (20, [some (.inr (.inr 92)), some (.inl q1.1)], [], q2.2) (25, [some (.inr (.inr 92)), some (.inl q1.1)], [.inl 1], q2.2) rfl ?_
      cases h
      exact er rfl
  · rw [if_neg hc] at h
    refine es (9, [some (.inr (.inr 92)), some (.inl q1.1)], [], q1.2) (congrArg some (if_neg hc)) ?_
    refine ev_runs 2 (9, [some (.inr (.inr 92)), some (.inl q1.1)], [], q1.2) (25, [some (.inr (.inr 92)), some (.inl q1.1)], [.inl q1.1], q1.2) rfl ?_
    cases h
    exact er rfl
def Kn_momentPart (a1 : Int) (g : Gx) : Option (Int × Gx) :=
  Option.bind (Kn_search g) (fun g1 =>
  some ((rat g1 57 4 a1), g1))
set_option maxRecDepth 100000 in
set_option maxHeartbeats 4000000 in
theorem ev_Kn_momentPart (a1 : Int) (g : Gx) (r : Int) (g' : Gx) (h : Kn_momentPart a1 g = some (r, g')) : Ev 128 0 [some (.inr (.inr 55)), some (.inl a1)] [] g (some (.inl r)) g' := by
  rw [Kn_momentPart] at h
  refine ev_runs 1 (0, [some (.inr (.inr 55)), some (.inl a1)], [], g) (1, [some (.inr (.inr 55)), some (.inl a1)], [.inr (.inr 55)], g) rfl ?_
  obtain ⟨g1, hq, h⟩ := Option.bind_eq_some_iff.mp h
  refine ec 123 4 [.inr (.inr 55)] [] rfl (ev_Kn_search g g1 hq) ?_
  show Ev 128 4 [some (.inr (.inr 55)), some (.inl a1)] [] g1 _ _
  refine ev_runs 3 (4, [some (.inr (.inr 55)), some (.inl a1)], [], g1) (9, [some (.inr (.inr 55)), some (.inl a1)], [.inl a1, .inr (.inr 56)], g1) rfl ?_
  refine ec 13 12 [.inr (.inr 56), .inl a1] [] rfl (ev_Row_at rfl rfl _ _) ?_
  show Ev 128 12 [some (.inr (.inr 55)), some (.inl a1)] [.inl (rat g1 57 4 a1)] g1 _ _
  cases h
  exact er rfl
def Op_moment (a1 : Int) (g : Gx) : Option (Int × Gx) :=
  if a1 < 0 then
    some ((-2), g)
  else
    if a1 ≤ 3 then
      Option.bind (Op_hindrance 0 g) (fun q1 =>
      if q1.1 = 0 then
        Option.bind (Kn_momentPart a1 q1.2) (fun q2 =>
        some (q2.1, q2.2))
      else
        some (q1.1, q1.2))
    else
      some ((-2), g)
set_option maxRecDepth 100000 in
set_option maxHeartbeats 4000000 in
theorem ev_Op_moment (a1 : Int) (g : Gx) (r : Int) (g' : Gx) (h : Op_moment a1 g = some (r, g')) : Ev 129 0 [some (.inr (.inr 0)), some (.inl a1), none] [] g (some (.inl r)) g' := by
  rw [Op_moment] at h
  refine ev_runs 1 (0, [some (.inr (.inr 0)), some (.inl a1), none], [], g) (1, [some (.inr (.inr 0)), some (.inl a1), none], [.inl a1], g) rfl ?_
  by_cases hc : a1 < 0
  · rw [if_pos hc] at h
    refine es (9, [some (.inr (.inr 0)), some (.inl a1), none], [], g) (congrArg some (if_pos hc)) ?_
    refine ev_runs 1 (9, [some (.inr (.inr 0)), some (.inl a1), none], [], g) (11, [some (.inr (.inr 0)), some (.inl a1), none], [.inl (-2)], g) rfl ?_
    cases h
    exact er rfl
  · rw [if_neg hc] at h
    refine es (4, [some (.inr (.inr 0)), some (.inl a1), none], [], g) (congrArg some (if_neg hc)) ?_
    refine ev_runs 2 (4, [some (.inr (.inr 0)), some (.inl a1), none], [], g) (6, [some (.inr (.inr 0)), some (.inl a1), none], [.inl 3, .inl a1], g) rfl ?_
    by_cases hc : a1 ≤ 3
    · rw [if_pos hc] at h
      refine es (12, [some (.inr (.inr 0)), some (.inl a1), none], [], g) (congrArg some (if_pos hc)) ?_
      refine ev_runs 2 (12, [some (.inr (.inr 0)), some (.inl a1), none], [], g) (14, [some (.inr (.inr 0)), some (.inl a1), none], [.inl 0, .inr (.inr 0)], g) rfl ?_
      obtain ⟨q1, hq, h⟩ := Option.bind_eq_some_iff.mp h
      refine ec 75 17 [.inr (.inr 0), .inl 0] [] rfl (ev_Op_hindrance 0 g q1.1 q1.2 hq) ?_
      show Ev 129 17 [some (.inr (.inr 0)), some (.inl a1), none] [.inl q1.1] q1.2 _ _
      refine ev_runs 2 (17, [some (.inr (.inr 0)), some (.inl a1), none], [.inl q1.1], q1.2) (19, [some (.inr (.inr 0)), some (.inl a1), some (.inl q1.1)], [.inl q1.1], q1.2) rfl ?_
      by_cases hc : q1.1 = 0
      · rw [if_pos hc] at h
        refine es (26, [some (.inr (.inr 0)), some (.inl a1), some (.inl q1.1)], [], q1.2) (congrArg some (if_pos hc)) ?_
        refine ev_runs 3 (26, [some (.inr (.inr 0)), some (.inl a1), some (.inl q1.1)], [], q1.2) (31, [some (.inr (.inr 0)), some (.inl a1), some (.inl q1.1)], [.inl a1, .inr (.inr 55)], q1.2) rfl ?_
        obtain ⟨q2, hq, h⟩ := Option.bind_eq_some_iff.mp h
        refine ec 128 34 [.inr (.inr 55), .inl a1] [] rfl (ev_Kn_momentPart a1 q1.2 q2.1 q2.2 hq) ?_
        show Ev 129 34 [some (.inr (.inr 0)), some (.inl a1), some (.inl q1.1)] [.inl q2.1] q2.2 _ _
        cases h
        exact er rfl
      · rw [if_neg hc] at h
        refine es (22, [some (.inr (.inr 0)), some (.inl a1), some (.inl q1.1)], [], q1.2) (congrArg some (if_neg hc)) ?_
        refine ev_runs 2 (22, [some (.inr (.inr 0)), some (.inl a1), some (.inl q1.1)], [], q1.2) (34, [some (.inr (.inr 0)), some (.inl a1), some (.inl q1.1)], [.inl q1.1], q1.2) rfl ?_
        cases h
        exact er rfl
    · rw [if_neg hc] at h
      refine es (9, [some (.inr (.inr 0)), some (.inl a1), none], [], g) (congrArg some (if_neg hc)) ?_
      refine ev_runs 1 (9, [some (.inr (.inr 0)), some (.inl a1), none], [], g) (11, [some (.inr (.inr 0)), some (.inl a1), none], [.inl (-2)], g) rfl ?_
      cases h
      exact er rfl
def Md_momentOf (a1 : Int) (g : Gx) : Option (Int × Gx) :=
  Option.bind (Md_without g) (fun q1 =>
  if q1.1 = 0 then
    Option.bind (Md_isSound q1.2) (fun q2 =>
    if q2.1 = 0 then
      if 0 ≤ a1 ∧ a1 < 4 then
      some ((q2.2 120 a1.toNat), q2.2)
      else none
    else
      some ((-1), q2.2))
  else
    some (q1.1, q1.2))
set_option maxRecDepth 100000 in
set_option maxHeartbeats 4000000 in
theorem ev_Md_momentOf (a1 : Int) (g : Gx) (r : Int) (g' : Gx) (h : Md_momentOf a1 g = some (r, g')) : Ev 130 0 [some (.inr (.inr 92)), some (.inl a1), none] [] g (some (.inl r)) g' := by
  rw [Md_momentOf] at h
  refine ev_runs 1 (0, [some (.inr (.inr 92)), some (.inl a1), none], [], g) (1, [some (.inr (.inr 92)), some (.inl a1), none], [.inr (.inr 92)], g) rfl ?_
  obtain ⟨q1, hq, h⟩ := Option.bind_eq_some_iff.mp h
  refine ec 81 4 [.inr (.inr 92)] [] rfl (ev_Md_without g q1.1 q1.2 hq) ?_
  show Ev 130 4 [some (.inr (.inr 92)), some (.inl a1), none] [.inl q1.1] q1.2 _ _
  refine ev_runs 2 (4, [some (.inr (.inr 92)), some (.inl a1), none], [.inl q1.1], q1.2) (6, [some (.inr (.inr 92)), some (.inl a1), some (.inl q1.1)], [.inl q1.1], q1.2) rfl ?_
  by_cases hc : q1.1 = 0
  · rw [if_pos hc] at h
    refine es (13, [some (.inr (.inr 92)), some (.inl a1), some (.inl q1.1)], [], q1.2) (congrArg some (if_pos hc)) ?_
    refine ev_runs 1 (13, [some (.inr (.inr 92)), some (.inl a1), some (.inl q1.1)], [], q1.2) (14, [some (.inr (.inr 92)), some (.inl a1), some (.inl q1.1)], [.inr (.inr 92)], q1.2) rfl ?_
    obtain ⟨q2, hq, h⟩ := Option.bind_eq_some_iff.mp h
    refine ec 126 17 [.inr (.inr 92)] [] rfl (ev_Md_isSound q1.2 q2.1 q2.2 hq) ?_
    show Ev 130 17 [some (.inr (.inr 92)), some (.inl a1), some (.inl q1.1)] [.inl q2.1] q2.2 _ _
    by_cases hc : q2.1 = 0
    · rw [if_pos hc] at h
      refine es (24, [some (.inr (.inr 92)), some (.inl a1), some (.inl q1.1)], [], q2.2) (congrArg some (if_pos hc)) ?_
      refine ev_runs 3 (24, [some (.inr (.inr 92)), some (.inl a1), some (.inl q1.1)], [], q2.2) (29, [some (.inr (.inr 92)), some (.inl a1), some (.inl q1.1)], [.inl a1, .inr (.inr 120)], q2.2) rfl ?_
      by_cases hc : 0 ≤ a1 ∧ a1 < 4
      · rw [if_pos hc] at h
        refine es (30, [some (.inr (.inr 92)), some (.inl a1), some (.inl q1.1)], [.inl (q2.2 120 a1.toNat)], q2.2) (if_pos hc) ?_
        cases h
        exact er rfl
      · rw [if_neg hc] at h; cases h
    · rw [if_neg hc] at h
      refine es (20, [some (.inr (.inr 92)), some (.inl a1), some (.inl q1.1)], [], q2.2) (congrArg some (if_neg hc)) ?_
      refine ev_runs 2 (20, [some (.inr (.inr 92)), some (.inl a1), some (.inl q1.1)], [], q2.2) (30, [some (.inr (.inr 92)), some (.inl a1), some (.inl q1.1)], [.inl (-1)], q2.2) rfl ?_
      cases h
      exact er rfl
  · rw [if_neg hc] at h
    refine es (9, [some (.inr (.inr 92)), some (.inl a1), some (.inl q1.1)], [], q1.2) (congrArg some (if_neg hc)) ?_
    refine ev_runs 2 (9, [some (.inr (.inr 92)), some (.inl a1), some (.inl q1.1)], [], q1.2) (30, [some (.inr (.inr 92)), some (.inl a1), some (.inl q1.1)], [.inl q1.1], q1.2) rfl ?_
    cases h
    exact er rfl
def Md_moment (a1 : Int) (g : Gx) : Option (Int × Gx) :=
  if (Md_in a1 0 3) = 0 then
    some ((-2), g)
  else
    Option.bind (Md_momentOf a1 g) (fun q1 =>
    some (q1.1, q1.2))
set_option maxRecDepth 100000 in
set_option maxHeartbeats 4000000 in
theorem ev_Md_moment (a1 : Int) (g : Gx) (r : Int) (g' : Gx) (h : Md_moment a1 g = some (r, g')) : Ev 131 0 [some (.inr (.inr 92)), some (.inl a1)] [] g (some (.inl r)) g' := by
  rw [Md_moment] at h
  refine ev_runs 4 (0, [some (.inr (.inr 92)), some (.inl a1)], [], g) (6, [some (.inr (.inr 92)), some (.inl a1)], [.inr (.inl 3), .inr (.inl 0), .inr (.inl a1)], g) rfl ?_
  refine ec 4 9 [.inr (.inl a1), .inr (.inl 0), .inr (.inl 3)] [] rfl (ev_Md_in a1 0 3 g _ rfl) ?_
  show Ev 131 9 [some (.inr (.inr 92)), some (.inl a1)] [.inl (Md_in a1 0 3)] g _ _
  by_cases hc : (Md_in a1 0 3) = 0
  · rw [if_pos hc] at h
    refine es (20, [some (.inr (.inr 92)), some (.inl a1)], [], g) (congrArg some (if_pos hc)) ?_
    refine ev_runs 1 (20, [some (.inr (.inr 92)), some (.inl a1)], [], g) (22, [some (.inr (.inr 92)), some (.inl a1)], [.inl (-2)], g) rfl ?_
    cases h
    exact er rfl
  · rw [if_neg hc] at h
    refine es (12, [some (.inr (.inr 92)), some (.inl a1)], [], g) (congrArg some (if_neg hc)) ?_
    refine ev_runs 2 (12, [some (.inr (.inr 92)), some (.inl a1)], [], g) (14, [some (.inr (.inr 92)), some (.inl a1)], [.inl a1, .inr (.inr 92)], g) rfl ?_
    obtain ⟨q1, hq, h⟩ := Option.bind_eq_some_iff.mp h
    refine ec 130 17 [.inr (.inr 92), .inl a1] [] rfl (ev_Md_momentOf a1 g q1.1 q1.2 hq) ?_
    show Ev 131 17 [some (.inr (.inr 92)), some (.inl a1)] [.inl q1.1] q1.2 _ _
    refine ev_runs 1 (17, [some (.inr (.inr 92)), some (.inl a1)], [.inl q1.1], q1.2) (22, [some (.inr (.inr 92)), some (.inl a1)], [.inl q1.1], q1.2) rfl ?_
    cases h
    exact er rfl
def Kn_findCandidates_l44 (c1 : Int) (c3 : Int) (c4 : Int) (c5 : Int) (K44_86 : Int → Gx → Option (Int × Gx)) : Nat → Int → Int → Gx → Option (Int × Gx)
  | 0, _, _, _ => none
  | n44 + 1, v2, v6, g =>
    if 6 ≤ v6 then
      K44_86 v2 g
    else
      if (Op_has c5 v6) = 0 then
        Kn_findCandidates_l44 c1 c3 c4 c5 K44_86 n44 v2 (wr (v6 + 1)) g
      else
        Kn_findCandidates_l44 c1 c3 c4 c5 K44_86 n44 (wr (v2 + 1)) (wr (v6 + 1)) (rset g 59 6 v2 (wr ((wr (c4 * 6)) + v6)))
def Kn_findCandidates_l17 (c1 : Int) (c3 : Int) (K17_92 : Int → Gx → Option (Int × Gx)) : Nat → Int → Int → Gx → Option (Int × Gx)
  | 0, _, _, _ => none
  | n17 + 1, v2, v4, g =>
    if c3 ≤ v4 then
      K17_92 v2 g
    else
      Kn_findCandidates_l44 c1 c3 v4 (St_toldOf v4 (jshl c1 (wr (v4 * 6))) g)
        (fun x1 g2 =>
          Kn_findCandidates_l17 c1 c3 K17_92 n17 x1 (wr (v4 + 1)) g2)
        fu v2 0 g
def Kn_findCandidates (a1 : Int) (g : Gx) : Option (Int × Gx) :=
  Kn_findCandidates_l17 a1 (imin 5 (St_choices g))
    (fun x3 g4 =>
      some (x3, g4))
    fu 0 0 g
set_option maxRecDepth 100000 in
set_option maxHeartbeats 4000000 in
theorem ev_Kn_findCandidates_l44 (c1 : Int) (c3 : Int) (c4 : Int) (c5 : Int) (K44_86 : Int → Gx → Option (Int × Gx)) (hK44_86 : ∀ (x2 : Int) (g : Gx) (r : Int) (g' : Gx), K44_86 x2 g = some (r, g') → Ev 132 86 [some (.inr (.inr 55)), some (.inl c1), some (.inl x2), some (.inl c3), some (.inl c4), none, none] [] g (some (.inl r)) g') : ∀ (n44 : Nat) (v2 v6 : Int) (g : Gx) (r : Int) (g' : Gx), Kn_findCandidates_l44 c1 c3 c4 c5 K44_86 n44 v2 v6 g = some (r, g') → Ev 132 44 [some (.inr (.inr 55)), some (.inl c1), some (.inl v2), some (.inl c3), some (.inl c4), some (.inl c5), some (.inl v6)] [] g (some (.inl r)) g' := by
  intro n44
  induction n44 with
  | zero => intro v2 v6 g r g' h; cases h
  | succ n44 ih44 =>
    intro v2 v6 g r g' h
    rw [Kn_findCandidates_l44] at h
    refine ev_runs 2 (44, [some (.inr (.inr 55)), some (.inl c1), some (.inl v2), some (.inl c3), some (.inl c4), some (.inl c5), some (.inl v6)], [], g) (48, [some (.inr (.inr 55)), some (.inl c1), some (.inl v2), some (.inl c3), some (.inl c4), some (.inl c5), some (.inl v6)], [.inl 6, .inl v6], g) rfl ?_
    by_cases hc : 6 ≤ v6
    · rw [if_pos hc] at h
      refine es (86, [some (.inr (.inr 55)), some (.inl c1), some (.inl v2), some (.inl c3), some (.inl c4), some (.inl c5), some (.inl v6)], [], g) (congrArg some (if_pos hc)) ?_
      exact ev_le (L := [some (.inr (.inr 55)), some (.inl c1), some (.inl v2), some (.inl c3), some (.inl c4), none, none]) (by simp [Lle]) (hK44_86 v2 g r g' h)
    · rw [if_neg hc] at h
      refine es (51, [some (.inr (.inr 55)), some (.inl c1), some (.inl v2), some (.inl c3), some (.inl c4), some (.inl c5), some (.inl v6)], [], g) (congrArg some (if_neg hc)) ?_
      refine ev_runs 2 (51, [some (.inr (.inr 55)), some (.inl c1), some (.inl v2), some (.inl c3), some (.inl c4), some (.inl c5), some (.inl v6)], [], g) (55, [some (.inr (.inr 55)), some (.inl c1), some (.inl v2), some (.inl c3), some (.inl c4), some (.inl c5), some (.inl v6)], [.inl v6, .inl c5], g) rfl ?_
      refine ec 64 58 [.inl c5, .inl v6] [] rfl (ev_Op_has c5 v6 g _ rfl) ?_
      show Ev 132 58 [some (.inr (.inr 55)), some (.inl c1), some (.inl v2), some (.inl c3), some (.inl c4), some (.inl c5), some (.inl v6)] [.inl (Op_has c5 v6)] g _ _
      by_cases hc : (Op_has c5 v6) = 0
      · rw [if_pos hc] at h
        refine es (80, [some (.inr (.inr 55)), some (.inl c1), some (.inl v2), some (.inl c3), some (.inl c4), some (.inl c5), some (.inl v6)], [], g) (congrArg some (if_pos hc)) ?_
        refine ev_runs 2 (80, [some (.inr (.inr 55)), some (.inl c1), some (.inl v2), some (.inl c3), some (.inl c4), some (.inl c5), some (.inl v6)], [], g) (44, [some (.inr (.inr 55)), some (.inl c1), some (.inl v2), some (.inl c3), some (.inl c4), some (.inl c5), some (.inl (wr (v6 + 1)))], [], g) rfl ?_
        exact ev_le (L := [some (.inr (.inr 55)), some (.inl c1), some (.inl v2), some (.inl c3), some (.inl c4), some (.inl c5), some (.inl (wr (v6 + 1)))]) (by simp [Lle]) (ih44 v2 (wr (v6 + 1)) g r g' h)
      · rw [if_neg hc] at h
        refine es (61, [some (.inr (.inr 55)), some (.inl c1), some (.inl v2), some (.inl c3), some (.inl c4), some (.inl c5), some (.inl v6)], [], g) (congrArg some (if_neg hc)) ?_
        refine ev_runs 8 (61, [some (.inr (.inr 55)), some (.inl c1), some (.inl v2), some (.inl c3), some (.inl c4), some (.inl c5), some (.inl v6)], [], g) (74, [some (.inr (.inr 55)), some (.inl c1), some (.inl v2), some (.inl c3), some (.inl c4), some (.inl c5), some (.inl v6)], [.inl (wr ((wr (c4 * 6)) + v6)), .inl v2, .inr (.inr 58)], g) rfl ?_
        refine ec 0 77 [.inr (.inr 58), .inl v2, .inl (wr ((wr (c4 * 6)) + v6))] [] rfl (ev_Row_set rfl rfl _ _ _) ?_
        show Ev 132 77 [some (.inr (.inr 55)), some (.inl c1), some (.inl v2), some (.inl c3), some (.inl c4), some (.inl c5), some (.inl v6)] [] (rset g 59 6 v2 (wr ((wr (c4 * 6)) + v6))) _ _
        refine ev_runs 3 (77, [some (.inr (.inr 55)), some (.inl c1), some (.inl v2), some (.inl c3), some (.inl c4), some (.inl c5), some (.inl v6)], [], (rset g 59 6 v2 (wr ((wr (c4 * 6)) + v6)))) (44, [some (.inr (.inr 55)), some (.inl c1), some (.inl (wr (v2 + 1))), some (.inl c3), some (.inl c4), some (.inl c5), some (.inl (wr (v6 + 1)))], [], (rset g 59 6 v2 (wr ((wr (c4 * 6)) + v6)))) rfl ?_
        exact ev_le (L := [some (.inr (.inr 55)), some (.inl c1), some (.inl (wr (v2 + 1))), some (.inl c3), some (.inl c4), some (.inl c5), some (.inl (wr (v6 + 1)))]) (by simp [Lle]) (ih44 (wr (v2 + 1)) (wr (v6 + 1)) (rset g 59 6 v2 (wr ((wr (c4 * 6)) + v6))) r g' h)
set_option maxRecDepth 100000 in
set_option maxHeartbeats 4000000 in
theorem ev_Kn_findCandidates_l17 (c1 : Int) (c3 : Int) (K17_92 : Int → Gx → Option (Int × Gx)) (hK17_92 : ∀ (x2 : Int) (g : Gx) (r : Int) (g' : Gx), K17_92 x2 g = some (r, g') → Ev 132 92 [none, none, some (.inl x2), none, none, none, none] [] g (some (.inl r)) g') : ∀ (n17 : Nat) (v2 v4 : Int) (g : Gx) (r : Int) (g' : Gx), Kn_findCandidates_l17 c1 c3 K17_92 n17 v2 v4 g = some (r, g') → Ev 132 17 [some (.inr (.inr 55)), some (.inl c1), some (.inl v2), some (.inl c3), some (.inl v4), none, none] [] g (some (.inl r)) g' := by
  intro n17
  induction n17 with
  | zero => intro v2 v4 g r g' h; cases h
  | succ n17 ih17 =>
    intro v2 v4 g r g' h
    rw [Kn_findCandidates_l17] at h
    refine ev_runs 2 (17, [some (.inr (.inr 55)), some (.inl c1), some (.inl v2), some (.inl c3), some (.inl v4), none, none], [], g) (20, [some (.inr (.inr 55)), some (.inl c1), some (.inl v2), some (.inl c3), some (.inl v4), none, none], [.inl c3, .inl v4], g) rfl ?_
    by_cases hc : c3 ≤ v4
    · rw [if_pos hc] at h
      refine es (92, [some (.inr (.inr 55)), some (.inl c1), some (.inl v2), some (.inl c3), some (.inl v4), none, none], [], g) (congrArg some (if_pos hc)) ?_
      exact ev_le (L := [none, none, some (.inl v2), none, none, none, none]) (by simp [Lle]) (hK17_92 v2 g r g' h)
    · rw [if_neg hc] at h
      refine es (23, [some (.inr (.inr 55)), some (.inl c1), some (.inl v2), some (.inl c3), some (.inl v4), none, none], [], g) (congrArg some (if_neg hc)) ?_
      refine ev_runs 8 (23, [some (.inr (.inr 55)), some (.inl c1), some (.inl v2), some (.inl c3), some (.inl v4), none, none], [], g) (36, [some (.inr (.inr 55)), some (.inl c1), some (.inl v2), some (.inl c3), some (.inl v4), none, none], [.inl (jshl c1 (wr (v4 * 6))), .inl v4, .inr (.inr 7)], g) rfl ?_
      refine ec 57 39 [.inr (.inr 7), .inl v4, .inl (jshl c1 (wr (v4 * 6)))] [] rfl (ev_St_toldOf v4 (jshl c1 (wr (v4 * 6))) g _ rfl) ?_
      show Ev 132 39 [some (.inr (.inr 55)), some (.inl c1), some (.inl v2), some (.inl c3), some (.inl v4), none, none] [.inl (St_toldOf v4 (jshl c1 (wr (v4 * 6))) g)] g _ _
      refine ev_runs 3 (39, [some (.inr (.inr 55)), some (.inl c1), some (.inl v2), some (.inl c3), some (.inl v4), none, none], [.inl (St_toldOf v4 (jshl c1 (wr (v4 * 6))) g)], g) (44, [some (.inr (.inr 55)), some (.inl c1), some (.inl v2), some (.inl c3), some (.inl v4), some (.inl (St_toldOf v4 (jshl c1 (wr (v4 * 6))) g)), some (.inl 0)], [], g) rfl ?_
      refine ev_le (L := [some (.inr (.inr 55)), some (.inl c1), some (.inl v2), some (.inl c3), some (.inl v4), some (.inl (St_toldOf v4 (jshl c1 (wr (v4 * 6))) g)), some (.inl 0)]) (by simp [Lle]) ?_
      refine ev_Kn_findCandidates_l44 c1 c3 v4 (St_toldOf v4 (jshl c1 (wr (v4 * 6))) g) _ ?_ fu v2 0 g r g' h
      · intro x1 g2 r g' h
        refine ev_runs 2 (86, [some (.inr (.inr 55)), some (.inl c1), some (.inl x1), some (.inl c3), some (.inl v4), none, none], [], g2) (17, [some (.inr (.inr 55)), some (.inl c1), some (.inl x1), some (.inl c3), some (.inl (wr (v4 + 1))), none, none], [], g2) rfl ?_
        exact ev_le (L := [some (.inr (.inr 55)), some (.inl c1), some (.inl x1), some (.inl c3), some (.inl (wr (v4 + 1))), none, none]) (by simp [Lle]) (ih17 x1 (wr (v4 + 1)) g2 r g' h)
set_option maxRecDepth 100000 in
set_option maxHeartbeats 4000000 in
theorem ev_Kn_findCandidates (a1 : Int) (g : Gx) (r : Int) (g' : Gx) (h : Kn_findCandidates a1 g = some (r, g')) : Ev 132 0 [some (.inr (.inr 55)), some (.inl a1), none, none, none, none, none] [] g (some (.inl r)) g' := by
  rw [Kn_findCandidates] at h
  refine ev_runs 5 (0, [some (.inr (.inr 55)), some (.inl a1), none, none, none, none, none], [], g) (7, [some (.inr (.inr 55)), some (.inl a1), some (.inl 0), none, none, none, none], [.inr (.inr 7), .inl 5], g) rfl ?_
  refine ec 46 10 [.inr (.inr 7)] [.inl 5] rfl (ev_St_choices g _ rfl) ?_
  show Ev 132 10 [some (.inr (.inr 55)), some (.inl a1), some (.inl 0), none, none, none, none] [.inl (St_choices g), .inl 5] g _ _
  refine ev_runs 4 (10, [some (.inr (.inr 55)), some (.inl a1), some (.inl 0), none, none, none, none], [.inl (St_choices g), .inl 5], g) (17, [some (.inr (.inr 55)), some (.inl a1), some (.inl 0), some (.inl (imin 5 (St_choices g))), some (.inl 0), none, none], [], g) rfl ?_
  refine ev_le (L := [some (.inr (.inr 55)), some (.inl a1), some (.inl 0), some (.inl (imin 5 (St_choices g))), some (.inl 0), none, none]) (by simp [Lle]) ?_
  refine ev_Kn_findCandidates_l17 a1 (imin 5 (St_choices g)) _ ?_ fu 0 0 g r g' h
  · intro x3 g4 r g' h
    refine ev_runs 1 (92, [none, none, some (.inl x3), none, none, none, none], [], g4) (93, [none, none, some (.inl x3), none, none, none, none], [.inl x3], g4) rfl ?_
    cases h
    exact er rfl
def Kn_bitsOf_l4 (c1 : Int) (K4_37 : Int → Gx → Option (Int × Gx)) : Nat → Int → Int → Gx → Option (Int × Gx)
  | 0, _, _, _ => none
  | n4 + 1, v2, v3, g =>
    if 6 ≤ v3 then
      K4_37 v2 g
    else
      if (Op_has c1 v3) = 0 then
        Kn_bitsOf_l4 c1 K4_37 n4 v2 (wr (v3 + 1)) g
      else
        Kn_bitsOf_l4 c1 K4_37 n4 (jor v2 (jshl 1 (rat g 59 6 v3))) (wr (v3 + 1)) g
def Kn_bitsOf (a1 : Int) (g : Gx) : Option (Int × Gx) :=
  Kn_bitsOf_l4 a1
    (fun x1 g2 =>
      some (x1, g2))
    fu 0 0 g
set_option maxRecDepth 100000 in
set_option maxHeartbeats 4000000 in
theorem ev_Kn_bitsOf_l4 (c1 : Int) (K4_37 : Int → Gx → Option (Int × Gx)) (hK4_37 : ∀ (x2 : Int) (g : Gx) (r : Int) (g' : Gx), K4_37 x2 g = some (r, g') → Ev 133 37 [none, none, some (.inl x2), none] [] g (some (.inl r)) g') : ∀ (n4 : Nat) (v2 v3 : Int) (g : Gx) (r : Int) (g' : Gx), Kn_bitsOf_l4 c1 K4_37 n4 v2 v3 g = some (r, g') → Ev 133 4 [some (.inr (.inr 55)), some (.inl c1), some (.inl v2), some (.inl v3)] [] g (some (.inl r)) g' := by
  intro n4
  induction n4 with
  | zero => intro v2 v3 g r g' h; cases h
  | succ n4 ih4 =>
    intro v2 v3 g r g' h
    rw [Kn_bitsOf_l4] at h
    refine ev_runs 2 (4, [some (.inr (.inr 55)), some (.inl c1), some (.inl v2), some (.inl v3)], [], g) (7, [some (.inr (.inr 55)), some (.inl c1), some (.inl v2), some (.inl v3)], [.inl 6, .inl v3], g) rfl ?_
    by_cases hc : 6 ≤ v3
    · rw [if_pos hc] at h
      refine es (37, [some (.inr (.inr 55)), some (.inl c1), some (.inl v2), some (.inl v3)], [], g) (congrArg some (if_pos hc)) ?_
      exact ev_le (L := [none, none, some (.inl v2), none]) (by simp [Lle]) (hK4_37 v2 g r g' h)
    · rw [if_neg hc] at h
      refine es (10, [some (.inr (.inr 55)), some (.inl c1), some (.inl v2), some (.inl v3)], [], g) (congrArg some (if_neg hc)) ?_
      refine ev_runs 2 (10, [some (.inr (.inr 55)), some (.inl c1), some (.inl v2), some (.inl v3)], [], g) (12, [some (.inr (.inr 55)), some (.inl c1), some (.inl v2), some (.inl v3)], [.inl v3, .inl c1], g) rfl ?_
      refine ec 64 15 [.inl c1, .inl v3] [] rfl (ev_Op_has c1 v3 g _ rfl) ?_
      show Ev 133 15 [some (.inr (.inr 55)), some (.inl c1), some (.inl v2), some (.inl v3)] [.inl (Op_has c1 v3)] g _ _
      by_cases hc : (Op_has c1 v3) = 0
      · rw [if_pos hc] at h
        refine es (31, [some (.inr (.inr 55)), some (.inl c1), some (.inl v2), some (.inl v3)], [], g) (congrArg some (if_pos hc)) ?_
        refine ev_runs 2 (31, [some (.inr (.inr 55)), some (.inl c1), some (.inl v2), some (.inl v3)], [], g) (4, [some (.inr (.inr 55)), some (.inl c1), some (.inl v2), some (.inl (wr (v3 + 1)))], [], g) rfl ?_
        exact ev_le (L := [some (.inr (.inr 55)), some (.inl c1), some (.inl v2), some (.inl (wr (v3 + 1)))]) (by simp [Lle]) (ih4 v2 (wr (v3 + 1)) g r g' h)
      · rw [if_neg hc] at h
        refine es (18, [some (.inr (.inr 55)), some (.inl c1), some (.inl v2), some (.inl v3)], [], g) (congrArg some (if_neg hc)) ?_
        refine ev_runs 5 (18, [some (.inr (.inr 55)), some (.inl c1), some (.inl v2), some (.inl v3)], [], g) (25, [some (.inr (.inr 55)), some (.inl c1), some (.inl v2), some (.inl v3)], [.inl v3, .inr (.inr 58), .inl 1, .inl v2], g) rfl ?_
        refine ec 13 28 [.inr (.inr 58), .inl v3] [.inl 1, .inl v2] rfl (ev_Row_at rfl rfl _ _) ?_
        show Ev 133 28 [some (.inr (.inr 55)), some (.inl c1), some (.inl v2), some (.inl v3)] [.inl (rat g 59 6 v3), .inl 1, .inl v2] g _ _
        refine ev_runs 5 (28, [some (.inr (.inr 55)), some (.inl c1), some (.inl v2), some (.inl v3)], [.inl (rat g 59 6 v3), .inl 1, .inl v2], g) (4, [some (.inr (.inr 55)), some (.inl c1), some (.inl (jor v2 (jshl 1 (rat g 59 6 v3)))), some (.inl (wr (v3 + 1)))], [], g) rfl ?_
        exact ev_le (L := [some (.inr (.inr 55)), some (.inl c1), some (.inl (jor v2 (jshl 1 (rat g 59 6 v3)))), some (.inl (wr (v3 + 1)))]) (by simp [Lle]) (ih4 (jor v2 (jshl 1 (rat g 59 6 v3))) (wr (v3 + 1)) g r g' h)
set_option maxRecDepth 100000 in
set_option maxHeartbeats 4000000 in
theorem ev_Kn_bitsOf (a1 : Int) (g : Gx) (r : Int) (g' : Gx) (h : Kn_bitsOf a1 g = some (r, g')) : Ev 133 0 [some (.inr (.inr 55)), some (.inl a1), none, none] [] g (some (.inl r)) g' := by
  rw [Kn_bitsOf] at h
  refine ev_runs 4 (0, [some (.inr (.inr 55)), some (.inl a1), none, none], [], g) (4, [some (.inr (.inr 55)), some (.inl a1), some (.inl 0), some (.inl 0)], [], g) rfl ?_
  refine ev_le (L := [some (.inr (.inr 55)), some (.inl a1), some (.inl 0), some (.inl 0)]) (by simp [Lle]) ?_
  refine ev_Kn_bitsOf_l4 a1 _ ?_ fu 0 0 g r g' h
  · intro x1 g2 r g' h
    refine ev_runs 1 (37, [none, none, some (.inl x1), none], [], g2) (38, [none, none, some (.inl x1), none], [.inl x1], g2) rfl ?_
    cases h
    exact er rfl
def Kn_leastOfSize_l2 (c1 : Int) (c2 : Int) (K2_60 : Gx → Option (Int × Gx)) : Nat → Int → Gx → Option (Int × Gx)
  | 0, _, _ => none
  | n2 + 1, v3, g =>
    if (jshl 1 c2) ≤ v3 then
      K2_60 g
    else
      if ¬ (Ji_bitCount v3) = c1 then
        Kn_leastOfSize_l2 c1 c2 K2_60 n2 (wr (v3 + 1)) g
      else
        Option.bind (Kn_bitsOf v3 g) (fun q1 =>
        Option.bind (Hi_make q1.1 q1.2) (fun q2 =>
        if q2.1 = 0 then
          Kn_leastOfSize_l2 c1 c2 K2_60 n2 (wr (v3 + 1)) q2.2
        else
          Option.bind (Kn_search q2.2) (fun g3 =>
          if ¬ (rat g3 57 4 0) = (-1) then
            Kn_leastOfSize_l2 c1 c2 K2_60 n2 (wr (v3 + 1)) g3
          else
            Option.bind (Kn_bitsOf v3 g3) (fun q4 =>
            some (q4.1, q4.2)))))
def Kn_leastOfSize (a1 a2 : Int) (g : Gx) : Option (Int × Gx) :=
  Kn_leastOfSize_l2 a1 a2
    (fun g5 =>
      some ((-1), g5))
    fu 0 g
set_option maxRecDepth 100000 in
set_option maxHeartbeats 4000000 in
theorem ev_Kn_leastOfSize_l2 (c1 : Int) (c2 : Int) (K2_60 : Gx → Option (Int × Gx)) (hK2_60 : ∀ (g : Gx) (r : Int) (g' : Gx), K2_60 g = some (r, g') → Ev 134 60 [none, none, none, none] [] g (some (.inl r)) g') : ∀ (n2 : Nat) (v3 : Int) (g : Gx) (r : Int) (g' : Gx), Kn_leastOfSize_l2 c1 c2 K2_60 n2 v3 g = some (r, g') → Ev 134 2 [some (.inr (.inr 55)), some (.inl c1), some (.inl c2), some (.inl v3)] [] g (some (.inl r)) g' := by
  intro n2
  induction n2 with
  | zero => intro v3 g r g' h; cases h
  | succ n2 ih2 =>
    intro v3 g r g' h
    rw [Kn_leastOfSize_l2] at h
    refine ev_runs 4 (2, [some (.inr (.inr 55)), some (.inl c1), some (.inl c2), some (.inl v3)], [], g) (6, [some (.inr (.inr 55)), some (.inl c1), some (.inl c2), some (.inl v3)], [.inl (jshl 1 c2), .inl v3], g) rfl ?_
    by_cases hc : (jshl 1 c2) ≤ v3
    · rw [if_pos hc] at h
      refine es (60, [some (.inr (.inr 55)), some (.inl c1), some (.inl c2), some (.inl v3)], [], g) (congrArg some (if_pos hc)) ?_
      exact ev_le (L := [none, none, none, none]) (by simp [Lle]) (hK2_60 g r g' h)
    · rw [if_neg hc] at h
      refine es (9, [some (.inr (.inr 55)), some (.inl c1), some (.inl c2), some (.inl v3)], [], g) (congrArg some (if_neg hc)) ?_
      refine ev_runs 1 (9, [some (.inr (.inr 55)), some (.inl c1), some (.inl c2), some (.inl v3)], [], g) (10, [some (.inr (.inr 55)), some (.inl c1), some (.inl c2), some (.inl v3)], [.inl v3], g) rfl ?_
      refine ec 58 13 [.inl v3] [] rfl (ev_Ji_bitCount v3 g _ rfl) ?_
      show Ev 134 13 [some (.inr (.inr 55)), some (.inl c1), some (.inl c2), some (.inl v3)] [.inl (Ji_bitCount v3)] g _ _
      refine ev_runs 1 (13, [some (.inr (.inr 55)), some (.inl c1), some (.inl c2), some (.inl v3)], [.inl (Ji_bitCount v3)], g) (14, [some (.inr (.inr 55)), some (.inl c1), some (.inl c2), some (.inl v3)], [.inl c1, .inl (Ji_bitCount v3)], g) rfl ?_
      by_cases hc : ¬ (Ji_bitCount v3) = c1
      · rw [if_pos hc] at h
        refine es (54, [some (.inr (.inr 55)), some (.inl c1), some (.inl c2), some (.inl v3)], [], g) (congrArg some (if_pos hc)) ?_
        refine ev_runs 2 (54, [some (.inr (.inr 55)), some (.inl c1), some (.inl c2), some (.inl v3)], [], g) (2, [some (.inr (.inr 55)), some (.inl c1), some (.inl c2), some (.inl (wr (v3 + 1)))], [], g) rfl ?_
        exact ev_le (L := [some (.inr (.inr 55)), some (.inl c1), some (.inl c2), some (.inl (wr (v3 + 1)))]) (by simp [Lle]) (ih2 (wr (v3 + 1)) g r g' h)
      · rw [if_neg hc] at h
        refine es (17, [some (.inr (.inr 55)), some (.inl c1), some (.inl c2), some (.inl v3)], [], g) (congrArg some (if_neg hc)) ?_
        refine ev_runs 4 (17, [some (.inr (.inr 55)), some (.inl c1), some (.inl c2), some (.inl v3)], [], g) (23, [some (.inr (.inr 55)), some (.inl c1), some (.inl c2), some (.inl v3)], [.inl v3, .inr (.inr 55), .inr (.inr 33)], g) rfl ?_
        obtain ⟨q1, hq, h⟩ := Option.bind_eq_some_iff.mp h
        refine ec 133 26 [.inr (.inr 55), .inl v3] [.inr (.inr 33)] rfl (ev_Kn_bitsOf v3 g q1.1 q1.2 hq) ?_
        show Ev 134 26 [some (.inr (.inr 55)), some (.inl c1), some (.inl c2), some (.inl v3)] [.inl q1.1, .inr (.inr 33)] q1.2 _ _
        obtain ⟨q2, hq, h⟩ := Option.bind_eq_some_iff.mp h
        refine ec 73 29 [.inr (.inr 33), .inl q1.1] [] rfl (ev_Hi_make q1.1 q1.2 q2.1 q2.2 hq) ?_
        show Ev 134 29 [some (.inr (.inr 55)), some (.inl c1), some (.inl c2), some (.inl v3)] [.inl q2.1] q2.2 _ _
        by_cases hc : q2.1 = 0
        · rw [if_pos hc] at h
          refine es (54, [some (.inr (.inr 55)), some (.inl c1), some (.inl c2), some (.inl v3)], [], q2.2) (congrArg some (if_pos hc)) ?_
          refine ev_runs 2 (54, [some (.inr (.inr 55)), some (.inl c1), some (.inl c2), some (.inl v3)], [], q2.2) (2, [some (.inr (.inr 55)), some (.inl c1), some (.inl c2), some (.inl (wr (v3 + 1)))], [], q2.2) rfl ?_
          exact ev_le (L := [some (.inr (.inr 55)), some (.inl c1), some (.inl c2), some (.inl (wr (v3 + 1)))]) (by simp [Lle]) (ih2 (wr (v3 + 1)) q2.2 r g' h)
        · rw [if_neg hc] at h
          refine es (32, [some (.inr (.inr 55)), some (.inl c1), some (.inl c2), some (.inl v3)], [], q2.2) (congrArg some (if_neg hc)) ?_
          refine ev_runs 1 (32, [some (.inr (.inr 55)), some (.inl c1), some (.inl c2), some (.inl v3)], [], q2.2) (33, [some (.inr (.inr 55)), some (.inl c1), some (.inl c2), some (.inl v3)], [.inr (.inr 55)], q2.2) rfl ?_
          obtain ⟨g3, hq, h⟩ := Option.bind_eq_some_iff.mp h
          refine ec 123 36 [.inr (.inr 55)] [] rfl (ev_Kn_search q2.2 g3 hq) ?_
          show Ev 134 36 [some (.inr (.inr 55)), some (.inl c1), some (.inl c2), some (.inl v3)] [] g3 _ _
          refine ev_runs 3 (36, [some (.inr (.inr 55)), some (.inl c1), some (.inl c2), some (.inl v3)], [], g3) (41, [some (.inr (.inr 55)), some (.inl c1), some (.inl c2), some (.inl v3)], [.inl 0, .inr (.inr 56)], g3) rfl ?_
          refine ec 13 44 [.inr (.inr 56), .inl 0] [] rfl (ev_Row_at rfl rfl _ _) ?_
          show Ev 134 44 [some (.inr (.inr 55)), some (.inl c1), some (.inl c2), some (.inl v3)] [.inl (rat g3 57 4 0)] g3 _ _
          refine ev_runs 1 (44, [some (.inr (.inr 55)), some (.inl c1), some (.inl c2), some (.inl v3)], [.inl (rat g3 57 4 0)], g3) (45, [some (.inr (.inr 55)), some (.inl c1), some (.inl c2), some (.inl v3)], [.inl (-1), .inl (rat g3 57 4 0)], g3) rfl ?_
          by_cases hc : ¬ (rat g3 57 4 0) = (-1)
          · rw [if_pos hc] at h
            refine es (54, [some (.inr (.inr 55)), some (.inl c1), some (.inl c2), some (.inl v3)], [], g3) (congrArg some (if_pos hc)) ?_
            refine ev_runs 2 (54, [some (.inr (.inr 55)), some (.inl c1), some (.inl c2), some (.inl v3)], [], g3) (2, [some (.inr (.inr 55)), some (.inl c1), some (.inl c2), some (.inl (wr (v3 + 1)))], [], g3) rfl ?_
            exact ev_le (L := [some (.inr (.inr 55)), some (.inl c1), some (.inl c2), some (.inl (wr (v3 + 1)))]) (by simp [Lle]) (ih2 (wr (v3 + 1)) g3 r g' h)
          · rw [if_neg hc] at h
            refine es (48, [some (.inr (.inr 55)), some (.inl c1), some (.inl c2), some (.inl v3)], [], g3) (congrArg some (if_neg hc)) ?_
            refine ev_runs 2 (48, [some (.inr (.inr 55)), some (.inl c1), some (.inl c2), some (.inl v3)], [], g3) (50, [some (.inr (.inr 55)), some (.inl c1), some (.inl c2), some (.inl v3)], [.inl v3, .inr (.inr 55)], g3) rfl ?_
            obtain ⟨q4, hq, h⟩ := Option.bind_eq_some_iff.mp h
            refine ec 133 53 [.inr (.inr 55), .inl v3] [] rfl (ev_Kn_bitsOf v3 g3 q4.1 q4.2 hq) ?_
            show Ev 134 53 [some (.inr (.inr 55)), some (.inl c1), some (.inl c2), some (.inl v3)] [.inl q4.1] q4.2 _ _
            cases h
            exact er rfl
set_option maxRecDepth 100000 in
set_option maxHeartbeats 4000000 in
theorem ev_Kn_leastOfSize (a1 a2 : Int) (g : Gx) (r : Int) (g' : Gx) (h : Kn_leastOfSize a1 a2 g = some (r, g')) : Ev 134 0 [some (.inr (.inr 55)), some (.inl a1), some (.inl a2), none] [] g (some (.inl r)) g' := by
  rw [Kn_leastOfSize] at h
  refine ev_runs 2 (0, [some (.inr (.inr 55)), some (.inl a1), some (.inl a2), none], [], g) (2, [some (.inr (.inr 55)), some (.inl a1), some (.inl a2), some (.inl 0)], [], g) rfl ?_
  refine ev_le (L := [some (.inr (.inr 55)), some (.inl a1), some (.inl a2), some (.inl 0)]) (by simp [Lle]) ?_
  refine ev_Kn_leastOfSize_l2 a1 a2 _ ?_ fu 0 g r g' h
  · intro g5 r g' h
    refine ev_runs 1 (60, [none, none, none, none], [], g5) (61, [none, none, none, none], [.inl (-1)], g5) rfl ?_
    cases h
    exact er rfl
def Kn_fewestTellings_l65 (c2 : Int) (K65_94 : Gx → Option (Int × Gx)) : Nat → Int → Gx → Option (Int × Gx)
  | 0, _, _ => none
  | n65 + 1, v3, g =>
    if c2 < v3 then
      K65_94 g
    else
      if ¬ (g 55 7) = (-1) then
        K65_94 g
      else
        Option.bind (Kn_leastOfSize v3 c2 g) (fun q2 =>
        Kn_fewestTellings_l65 c2 K65_94 n65 (wr (v3 + 1)) (gset q2.2 55 7 q2.1))
def Kn_fewestTellings (a1 : Int) (g : Gx) : Option (Int × Gx) :=
  if ¬ (g 55 6) = (St_version g) then
    Option.bind (Kn_findCandidates a1 (gset g 55 6 (St_version g))) (fun q1 =>
    if 6 < q1.1 then
      Kn_fewestTellings_l65 q1.1
        (fun g3 =>
          some ((g3 55 7), g3))
        fu 0 (gset q1.2 55 7 (-4))
    else
      Option.bind (St_isTooMuch 0 q1.2) (fun q4 =>
      if q4.1 = 0 then
        Kn_fewestTellings_l65 q1.1
          (fun g5 =>
            some ((g5 55 7), g5))
          fu 0 (gset q4.2 55 7 (-1))
      else
        Kn_fewestTellings_l65 q1.1
          (fun g6 =>
            some ((g6 55 7), g6))
          fu 0 (gset q4.2 55 7 (-4))))
  else
    some ((g 55 7), g)
set_option maxRecDepth 100000 in
set_option maxHeartbeats 4000000 in
theorem ev_Kn_fewestTellings_l65 (c2 : Int) (K65_94 : Gx → Option (Int × Gx)) (hK65_94 : ∀ (g : Gx) (r : Int) (g' : Gx), K65_94 g = some (r, g') → Ev 135 94 [some (.inr (.inr 55)), none, none, none] [] g (some (.inl r)) g') : ∀ (n65 : Nat) (v3 : Int) (g : Gx) (r : Int) (g' : Gx), Kn_fewestTellings_l65 c2 K65_94 n65 v3 g = some (r, g') → Ev 135 65 [some (.inr (.inr 55)), none, some (.inl c2), some (.inl v3)] [] g (some (.inl r)) g' := by
  intro n65
  induction n65 with
  | zero => intro v3 g r g' h; cases h
  | succ n65 ih65 =>
    intro v3 g r g' h
    rw [Kn_fewestTellings_l65] at h
    refine ev_runs 2 (65, [some (.inr (.inr 55)), none, some (.inl c2), some (.inl v3)], [], g) (67, [some (.inr (.inr 55)), none, some (.inl c2), some (.inl v3)], [.inl c2, .inl v3], g) rfl ?_
    by_cases hc : c2 < v3
    · rw [if_pos hc] at h
      refine es (94, [some (.inr (.inr 55)), none, some (.inl c2), some (.inl v3)], [], g) (congrArg some (if_pos hc)) ?_
      exact ev_le (L := [some (.inr (.inr 55)), none, none, none]) (by simp [Lle]) (hK65_94 g r g' h)
    · rw [if_neg hc] at h
      refine es (70, [some (.inr (.inr 55)), none, some (.inl c2), some (.inl v3)], [], g) (congrArg some (if_neg hc)) ?_
      refine ev_runs 3 (70, [some (.inr (.inr 55)), none, some (.inl c2), some (.inl v3)], [], g) (75, [some (.inr (.inr 55)), none, some (.inl c2), some (.inl v3)], [.inl (-1), .inl (g 55 7)], g) rfl ?_
      by_cases hc : ¬ (g 55 7) = (-1)
      · rw [if_pos hc] at h
        refine es (94, [some (.inr (.inr 55)), none, some (.inl c2), some (.inl v3)], [], g) (congrArg some (if_pos hc)) ?_
        exact ev_le (L := [some (.inr (.inr 55)), none, none, none]) (by simp [Lle]) (hK65_94 g r g' h)
      · rw [if_neg hc] at h
        refine es (78, [some (.inr (.inr 55)), none, some (.inl c2), some (.inl v3)], [], g) (congrArg some (if_neg hc)) ?_
        refine ev_runs 4 (78, [some (.inr (.inr 55)), none, some (.inl c2), some (.inl v3)], [], g) (82, [some (.inr (.inr 55)), none, some (.inl c2), some (.inl v3)], [.inl c2, .inl v3, .inr (.inr 55), .inr (.inr 55)], g) rfl ?_
        obtain ⟨q2, hq, h⟩ := Option.bind_eq_some_iff.mp h
        refine ec 134 85 [.inr (.inr 55), .inl v3, .inl c2] [.inr (.inr 55)] rfl (ev_Kn_leastOfSize v3 c2 g q2.1 q2.2 hq) ?_
        show Ev 135 85 [some (.inr (.inr 55)), none, some (.inl c2), some (.inl v3)] [.inl q2.1, .inr (.inr 55)] q2.2 _ _
        refine ev_runs 3 (85, [some (.inr (.inr 55)), none, some (.inl c2), some (.inl v3)], [.inl q2.1, .inr (.inr 55)], q2.2) (65, [some (.inr (.inr 55)), none, some (.inl c2), some (.inl (wr (v3 + 1)))], [], (gset q2.2 55 7 q2.1)) rfl ?_
        exact ev_le (L := [some (.inr (.inr 55)), none, some (.inl c2), some (.inl (wr (v3 + 1)))]) (by simp [Lle]) (ih65 (wr (v3 + 1)) (gset q2.2 55 7 q2.1) r g' h)
set_option maxRecDepth 100000 in
set_option maxHeartbeats 4000000 in
theorem ev_Kn_fewestTellings (a1 : Int) (g : Gx) (r : Int) (g' : Gx) (h : Kn_fewestTellings a1 g = some (r, g')) : Ev 135 0 [some (.inr (.inr 55)), some (.inl a1), none, none] [] g (some (.inl r)) g' := by
  rw [Kn_fewestTellings] at h
  refine ev_runs 4 (0, [some (.inr (.inr 55)), some (.inl a1), none, none], [], g) (8, [some (.inr (.inr 55)), some (.inl a1), none, none], [.inr (.inr 7), .inl (g 55 6)], g) rfl ?_
  refine ec 53 11 [.inr (.inr 7)] [.inl (g 55 6)] rfl (ev_St_version g _ rfl) ?_
  show Ev 135 11 [some (.inr (.inr 55)), some (.inl a1), none, none] [.inl (St_version g), .inl (g 55 6)] g _ _
  by_cases hc : ¬ (g 55 6) = (St_version g)
  · rw [if_pos hc] at h
    refine es (19, [some (.inr (.inr 55)), some (.inl a1), none, none], [], g) (congrArg some (if_pos hc)) ?_
    refine ev_runs 3 (19, [some (.inr (.inr 55)), some (.inl a1), none, none], [], g) (24, [some (.inr (.inr 55)), some (.inl a1), none, none], [.inr (.inr 7), .inr (.inr 55)], g) rfl ?_
    refine ec 53 27 [.inr (.inr 7)] [.inr (.inr 55)] rfl (ev_St_version g _ rfl) ?_
    show Ev 135 27 [some (.inr (.inr 55)), some (.inl a1), none, none] [.inl (St_version g), .inr (.inr 55)] g _ _
    refine ev_runs 3 (27, [some (.inr (.inr 55)), some (.inl a1), none, none], [.inl (St_version g), .inr (.inr 55)], g) (32, [some (.inr (.inr 55)), some (.inl a1), none, none], [.inl a1, .inr (.inr 55)], (gset g 55 6 (St_version g))) rfl ?_
    obtain ⟨q1, hq, h⟩ := Option.bind_eq_some_iff.mp h
    refine ec 132 35 [.inr (.inr 55), .inl a1] [] rfl (ev_Kn_findCandidates a1 (gset g 55 6 (St_version g)) q1.1 q1.2 hq) ?_
    show Ev 135 35 [some (.inr (.inr 55)), some (.inl a1), none, none] [.inl q1.1] q1.2 _ _
    refine ev_runs 4 (35, [some (.inr (.inr 55)), some (.inl a1), none, none], [.inl q1.1], q1.2) (40, [some (.inr (.inr 55)), some (.inl a1), some (.inl q1.1), none], [.inl 6, .inl q1.1, .inr (.inr 55)], q1.2) rfl ?_
    by_cases hc : 6 < q1.1
    · rw [if_pos hc] at h
      refine es (54, [some (.inr (.inr 55)), some (.inl a1), some (.inl q1.1), none], [.inr (.inr 55)], q1.2) (congrArg some (if_pos hc)) ?_
      refine ev_runs 5 (54, [some (.inr (.inr 55)), some (.inl a1), some (.inl q1.1), none], [.inr (.inr 55)], q1.2) (65, [some (.inr (.inr 55)), some (.inl a1), some (.inl q1.1), some (.inl 0)], [], (gset q1.2 55 7 (-4))) rfl ?_
      refine ev_le (L := [some (.inr (.inr 55)), none, some (.inl q1.1), some (.inl 0)]) (by simp [Lle]) ?_
      refine ev_Kn_fewestTellings_l65 q1.1 _ ?_ fu 0 (gset q1.2 55 7 (-4)) r g' h
      · intro g3 r g' h
        refine ev_runs 2 (94, [some (.inr (.inr 55)), none, none, none], [], g3) (98, [some (.inr (.inr 55)), none, none, none], [.inl (g3 55 7)], g3) rfl ?_
        cases h
        exact er rfl
    · rw [if_neg hc] at h
      refine es (43, [some (.inr (.inr 55)), some (.inl a1), some (.inl q1.1), none], [.inr (.inr 55)], q1.2) (congrArg some (if_neg hc)) ?_
      refine ev_runs 3 (43, [some (.inr (.inr 55)), some (.inl a1), some (.inl q1.1), none], [.inr (.inr 55)], q1.2) (48, [some (.inr (.inr 55)), some (.inl a1), some (.inl q1.1), none], [.inl 0, .inr (.inr 7), .inr (.inr 55)], q1.2) rfl ?_
      obtain ⟨q4, hq, h⟩ := Option.bind_eq_some_iff.mp h
      refine ec 60 51 [.inr (.inr 7), .inl 0] [.inr (.inr 55)] rfl (ev_St_isTooMuch 0 q1.2 q4.1 q4.2 hq) ?_
      show Ev 135 51 [some (.inr (.inr 55)), some (.inl a1), some (.inl q1.1), none] [.inl q4.1, .inr (.inr 55)] q4.2 _ _
      by_cases hc : q4.1 = 0
      · rw [if_pos hc] at h
        refine es (59, [some (.inr (.inr 55)), some (.inl a1), some (.inl q1.1), none], [.inr (.inr 55)], q4.2) (congrArg some (if_pos hc)) ?_
        refine ev_runs 4 (59, [some (.inr (.inr 55)), some (.inl a1), some (.inl q1.1), none], [.inr (.inr 55)], q4.2) (65, [some (.inr (.inr 55)), some (.inl a1), some (.inl q1.1), some (.inl 0)], [], (gset q4.2 55 7 (-1))) rfl ?_
        refine ev_le (L := [some (.inr (.inr 55)), none, some (.inl q1.1), some (.inl 0)]) (by simp [Lle]) ?_
        refine ev_Kn_fewestTellings_l65 q1.1 _ ?_ fu 0 (gset q4.2 55 7 (-1)) r g' h
        · intro g5 r g' h
          refine ev_runs 2 (94, [some (.inr (.inr 55)), none, none, none], [], g5) (98, [some (.inr (.inr 55)), none, none, none], [.inl (g5 55 7)], g5) rfl ?_
          cases h
          exact er rfl
      · rw [if_neg hc] at h
        refine es (54, [some (.inr (.inr 55)), some (.inl a1), some (.inl q1.1), none], [.inr (.inr 55)], q4.2) (congrArg some (if_neg hc)) ?_
        refine ev_runs 5 (54, [some (.inr (.inr 55)), some (.inl a1), some (.inl q1.1), none], [.inr (.inr 55)], q4.2) (65, [some (.inr (.inr 55)), some (.inl a1), some (.inl q1.1), some (.inl 0)], [], (gset q4.2 55 7 (-4))) rfl ?_
        refine ev_le (L := [some (.inr (.inr 55)), none, some (.inl q1.1), some (.inl 0)]) (by simp [Lle]) ?_
        refine ev_Kn_fewestTellings_l65 q1.1 _ ?_ fu 0 (gset q4.2 55 7 (-4)) r g' h
        · intro g6 r g' h
          refine ev_runs 2 (94, [some (.inr (.inr 55)), none, none, none], [], g6) (98, [some (.inr (.inr 55)), none, none, none], [.inl (g6 55 7)], g6) rfl ?_
          cases h
          exact er rfl
  · rw [if_neg hc] at h
    refine es (14, [some (.inr (.inr 55)), some (.inl a1), none, none], [], g) (congrArg some (if_neg hc)) ?_
    refine ev_runs 2 (14, [some (.inr (.inr 55)), some (.inl a1), none, none], [], g) (18, [some (.inr (.inr 55)), some (.inl a1), none, none], [.inl (g 55 7)], g) rfl ?_
    cases h
    exact er rfl
def Op_mended (g : Gx) : Option (Int × Gx) :=
  Option.bind (Pr_firstFault g) (fun q1 =>
  if q1.1 = (-1) then
    Option.bind (Kn_fewestTellings (Pr_used q1.2) q1.2) (fun q2 =>
    some (q2.1, q2.2))
  else
    some ((-3), q1.2))
set_option maxRecDepth 100000 in
set_option maxHeartbeats 4000000 in
theorem ev_Op_mended (g : Gx) (r : Int) (g' : Gx) (h : Op_mended g = some (r, g')) : Ev 136 0 [some (.inr (.inr 0))] [] g (some (.inl r)) g' := by
  rw [Op_mended] at h
  refine ev_runs 2 (0, [some (.inr (.inr 0))], [], g) (4, [some (.inr (.inr 0))], [.inr (.inr 28)], g) rfl ?_
  obtain ⟨q1, hq, h⟩ := Option.bind_eq_some_iff.mp h
  refine ec 32 7 [.inr (.inr 28)] [] rfl (ev_Pr_firstFault g q1.1 q1.2 hq) ?_
  show Ev 136 7 [some (.inr (.inr 0))] [.inl q1.1] q1.2 _ _
  refine ev_runs 1 (7, [some (.inr (.inr 0))], [.inl q1.1], q1.2) (8, [some (.inr (.inr 0))], [.inl (-1), .inl q1.1], q1.2) rfl ?_
  by_cases hc : q1.1 = (-1)
  · rw [if_pos hc] at h
    refine es (16, [some (.inr (.inr 0))], [], q1.2) (congrArg some (if_pos hc)) ?_
    refine ev_runs 4 (16, [some (.inr (.inr 0))], [], q1.2) (24, [some (.inr (.inr 0))], [.inr (.inr 28), .inr (.inr 55)], q1.2) rfl ?_
    refine ec 47 27 [.inr (.inr 28)] [.inr (.inr 55)] rfl (ev_Pr_used q1.2 _ rfl) ?_
    show Ev 136 27 [some (.inr (.inr 0))] [.inl (Pr_used q1.2), .inr (.inr 55)] q1.2 _ _
    obtain ⟨q2, hq, h⟩ := Option.bind_eq_some_iff.mp h
    refine ec 135 30 [.inr (.inr 55), .inl (Pr_used q1.2)] [] rfl (ev_Kn_fewestTellings (Pr_used q1.2) q1.2 q2.1 q2.2 hq) ?_
    show Ev 136 30 [some (.inr (.inr 0))] [.inl q2.1] q2.2 _ _
    cases h
    exact er rfl
  · rw [if_neg hc] at h
    refine es (11, [some (.inr (.inr 0))], [], q1.2) (congrArg some (if_neg hc)) ?_
    refine ev_runs 2 (11, [some (.inr (.inr 0))], [], q1.2) (30, [some (.inr (.inr 0))], [.inl (-3)], q1.2) rfl ?_
    cases h
    exact er rfl
def Md_ones_l4 (K4_20 : Int → Gx → Option (Int × Gx)) : Nat → Int → Int → Gx → Option (Int × Gx)
  | 0, _, _, _ => none
  | n4 + 1, v1, v2, g =>
    if v2 = 0 then
      K4_20 v1 g
    else
      Md_ones_l4 K4_20 n4 (wr (v1 + 1)) (jand v2 (wr (v2 - 1))) g
def Md_ones (a0 : Int) (g : Gx) : Option (Int × Gx) :=
  Md_ones_l4
    (fun x1 g2 =>
      some (x1, g2))
    fu 0 a0 g
set_option maxRecDepth 100000 in
set_option maxHeartbeats 4000000 in
theorem ev_Md_ones_l4 (K4_20 : Int → Gx → Option (Int × Gx)) (hK4_20 : ∀ (x1 : Int) (g : Gx) (r : Int) (g' : Gx), K4_20 x1 g = some (r, g') → Ev 137 20 [none, some (.inl x1), none] [] g (some (.inl r)) g') : ∀ (n4 : Nat) (v1 v2 : Int) (g : Gx) (r : Int) (g' : Gx), Md_ones_l4 K4_20 n4 v1 v2 g = some (r, g') → Ev 137 4 [none, some (.inl v1), some (.inl v2)] [] g (some (.inl r)) g' := by
  intro n4
  induction n4 with
  | zero => intro v1 v2 g r g' h; cases h
  | succ n4 ih4 =>
    intro v1 v2 g r g' h
    rw [Md_ones_l4] at h
    refine ev_runs 1 (4, [none, some (.inl v1), some (.inl v2)], [], g) (5, [none, some (.inl v1), some (.inl v2)], [.inl v2], g) rfl ?_
    by_cases hc : v2 = 0
    · rw [if_pos hc] at h
      refine es (20, [none, some (.inl v1), some (.inl v2)], [], g) (congrArg some (if_pos hc)) ?_
      exact ev_le (L := [none, some (.inl v1), none]) (by simp [Lle]) (hK4_20 v1 g r g' h)
    · rw [if_neg hc] at h
      refine es (8, [none, some (.inl v1), some (.inl v2)], [], g) (congrArg some (if_neg hc)) ?_
      refine ev_runs 8 (8, [none, some (.inl v1), some (.inl v2)], [], g) (4, [none, some (.inl (wr (v1 + 1))), some (.inl (jand v2 (wr (v2 - 1))))], [], g) rfl ?_
      exact ev_le (L := [none, some (.inl (wr (v1 + 1))), some (.inl (jand v2 (wr (v2 - 1))))]) (by simp [Lle]) (ih4 (wr (v1 + 1)) (jand v2 (wr (v2 - 1))) g r g' h)
set_option maxRecDepth 100000 in
set_option maxHeartbeats 4000000 in
theorem ev_Md_ones (a0 : Int) (g : Gx) (r : Int) (g' : Gx) (h : Md_ones a0 g = some (r, g')) : Ev 137 0 [some (.inl a0), none, none] [] g (some (.inl r)) g' := by
  rw [Md_ones] at h
  refine ev_runs 4 (0, [some (.inl a0), none, none], [], g) (4, [some (.inl a0), some (.inl 0), some (.inl a0)], [], g) rfl ?_
  refine ev_le (L := [none, some (.inl 0), some (.inl a0)]) (by simp [Lle]) ?_
  refine ev_Md_ones_l4 _ ?_ fu 0 a0 g r g' h
  · intro x1 g2 r g' h
    refine ev_runs 1 (20, [none, some (.inl x1), none], [], g2) (21, [none, some (.inl x1), none], [.inl x1], g2) rfl ?_
    cases h
    exact er rfl
def Md_mended_l36 (c2 : Int) (K36_110 : Int → Gx → Option (Int × Gx)) : Nat → Int → Int → Gx → Option (Int × Gx)
  | 0, _, _, _ => none
  | n36 + 1, v1, v3, g =>
    if 6 ≤ v3 then
      K36_110 v1 g
    else
      if 0 ≤ c2 ∧ c2 < 170 then
      if ¬ (g 99 c2.toNat) = 1 then
        K36_110 v1 g
      else
        if 0 ≤ c2 ∧ c2 < 170 then
        if 5 ≤ (g 102 c2.toNat) then
          K36_110 v1 g
        else
          if 0 ≤ c2 ∧ c2 < 170 then
          if v3 = (g 100 c2.toNat) then
            Md_mended_l36 c2 K36_110 n36 (jor v1 0) (wr (v3 + 1)) g
          else
            if ¬ (jand (jshr (g 92 18) v3) 1) = 1 then
              Md_mended_l36 c2 K36_110 n36 (jor v1 0) (wr (v3 + 1)) g
            else
              if 0 ≤ c2 ∧ c2 < 170 then
              Md_mended_l36 c2 K36_110 n36 (jor v1 (jshl 1 (wr ((wr (6 * (g 102 c2.toNat))) + v3)))) (wr (v3 + 1)) g
              else none
          else none
        else none
      else none
def Md_mended_l26 (K26_116 : Int → Gx → Option (Int × Gx)) : Nat → Int → Int → Gx → Option (Int × Gx)
  | 0, _, _, _ => none
  | n26 + 1, v1, v2, g =>
    if (g 92 9) ≤ v2 then
      K26_116 v1 g
    else
      Md_mended_l36 v2
        (fun x3 g4 =>
          Md_mended_l26 K26_116 n26 x3 (wr (v2 + 1)) g4)
        fu v1 0 g
def Md_mended_l135 (c1 : Int) (K135_193 : Int → Gx → Option (Int × Gx)) : Nat → Int → Int → Int → Gx → Option (Int × Gx)
  | 0, _, _, _, _ => none
  | n135 + 1, v2, v3, v4, g =>
    if v4 = 0 then
      K135_193 v2 g
    else
      if v2 = (-1) then
        Option.bind (Md_unfolds v3 g) (fun q8 =>
        if ¬ q8.1 = 0 then
          if (jand (wr (v3 - c1)) c1) = 0 then
            Md_mended_l135 c1 K135_193 n135 v2 (jand (wr (v3 - c1)) c1) 0 q8.2
          else
            Md_mended_l135 c1 K135_193 n135 v2 (jand (wr (v3 - c1)) c1) 1 q8.2
        else
          Option.bind (Md_isSound q8.2) (fun q9 =>
          lett (if q9.1 = 0 then v2 else v3) (fun y10 =>
          if (jand (wr (v3 - c1)) c1) = 0 then
            Md_mended_l135 c1 K135_193 n135 y10 (jand (wr (v3 - c1)) c1) 0 q9.2
          else
            Md_mended_l135 c1 K135_193 n135 y10 (jand (wr (v3 - c1)) c1) 1 q9.2)))
      else
        Option.bind (Md_ones v3 g) (fun q11 =>
        Option.bind (Md_ones v2 q11.2) (fun q12 =>
        if q12.1 ≤ q11.1 then
          if (jand (wr (v3 - c1)) c1) = 0 then
            Md_mended_l135 c1 K135_193 n135 v2 (jand (wr (v3 - c1)) c1) 0 q12.2
          else
            Md_mended_l135 c1 K135_193 n135 v2 (jand (wr (v3 - c1)) c1) 1 q12.2
        else
          Option.bind (Md_unfolds v3 q12.2) (fun q13 =>
          if ¬ q13.1 = 0 then
            if (jand (wr (v3 - c1)) c1) = 0 then
              Md_mended_l135 c1 K135_193 n135 v2 (jand (wr (v3 - c1)) c1) 0 q13.2
            else
              Md_mended_l135 c1 K135_193 n135 v2 (jand (wr (v3 - c1)) c1) 1 q13.2
          else
            Option.bind (Md_isSound q13.2) (fun q14 =>
            lett (if q14.1 = 0 then v2 else v3) (fun y15 =>
            if (jand (wr (v3 - c1)) c1) = 0 then
              Md_mended_l135 c1 K135_193 n135 y15 (jand (wr (v3 - c1)) c1) 0 q14.2
            else
              Md_mended_l135 c1 K135_193 n135 y15 (jand (wr (v3 - c1)) c1) 1 q14.2)))))
def Md_mended (g : Gx) : Option (Int × Gx) :=
  Option.bind (Md_reads g) (fun q1 =>
  if q1.1 = (-1) then
    Option.bind (Md_unfolds 0 q1.2) (fun q2 =>
    if q2.1 = 0 then
      Md_mended_l26
        (fun x5 g6 =>
          Option.bind (Md_ones x5 g6) (fun q7 =>
          if q7.1 ≤ 6 then
            Md_mended_l135 x5
              (fun x16 g17 =>
                some (x16, g17))
              fu (-1) 0 1 q7.2
          else
            some ((-4), q7.2)))
        fu 0 0 q2.2
    else
      some ((-4), q2.2))
  else
    some ((-3), q1.2))
set_option maxRecDepth 100000 in
set_option maxHeartbeats 4000000 in
theorem ev_Md_mended_l36 (c2 : Int) (K36_110 : Int → Gx → Option (Int × Gx)) (hK36_110 : ∀ (x1 : Int) (g : Gx) (r : Int) (g' : Gx), K36_110 x1 g = some (r, g') → Ev 138 110 [some (.inr (.inr 92)), some (.inl x1), some (.inl c2), none, none] [] g (some (.inl r)) g') : ∀ (n36 : Nat) (v1 v3 : Int) (g : Gx) (r : Int) (g' : Gx), Md_mended_l36 c2 K36_110 n36 v1 v3 g = some (r, g') → Ev 138 36 [some (.inr (.inr 92)), some (.inl v1), some (.inl c2), some (.inl v3), none] [] g (some (.inl r)) g' := by
  intro n36
  induction n36 with
  | zero => intro v1 v3 g r g' h; cases h
  | succ n36 ih36 =>
    intro v1 v3 g r g' h
    rw [Md_mended_l36] at h
    refine ev_runs 2 (36, [some (.inr (.inr 92)), some (.inl v1), some (.inl c2), some (.inl v3), none], [], g) (39, [some (.inr (.inr 92)), some (.inl v1), some (.inl c2), some (.inl v3), none], [.inl 6, .inl v3], g) rfl ?_
    by_cases hc : 6 ≤ v3
    · rw [if_pos hc] at h
      refine es (110, [some (.inr (.inr 92)), some (.inl v1), some (.inl c2), some (.inl v3), none], [], g) (congrArg some (if_pos hc)) ?_
      exact ev_le (L := [some (.inr (.inr 92)), some (.inl v1), some (.inl c2), none, none]) (by simp [Lle]) (hK36_110 v1 g r g' h)
    · rw [if_neg hc] at h
      refine es (42, [some (.inr (.inr 92)), some (.inl v1), some (.inl c2), some (.inl v3), none], [], g) (congrArg some (if_neg hc)) ?_
      refine ev_runs 3 (42, [some (.inr (.inr 92)), some (.inl v1), some (.inl c2), some (.inl v3), none], [], g) (47, [some (.inr (.inr 92)), some (.inl v1), some (.inl c2), some (.inl v3), none], [.inl c2, .inr (.inr 99)], g) rfl ?_
      by_cases hc : 0 ≤ c2 ∧ c2 < 170
      · rw [if_pos hc] at h
        refine es (48, [some (.inr (.inr 92)), some (.inl v1), some (.inl c2), some (.inl v3), none], [.inl (g 99 c2.toNat)], g) (if_pos hc) ?_
        refine ev_runs 1 (48, [some (.inr (.inr 92)), some (.inl v1), some (.inl c2), some (.inl v3), none], [.inl (g 99 c2.toNat)], g) (49, [some (.inr (.inr 92)), some (.inl v1), some (.inl c2), some (.inl v3), none], [.inl 1, .inl (g 99 c2.toNat)], g) rfl ?_
        by_cases hc : ¬ (g 99 c2.toNat) = 1
        · rw [if_pos hc] at h
          refine es (110, [some (.inr (.inr 92)), some (.inl v1), some (.inl c2), some (.inl v3), none], [], g) (congrArg some (if_pos hc)) ?_
          exact ev_le (L := [some (.inr (.inr 92)), some (.inl v1), some (.inl c2), none, none]) (by simp [Lle]) (hK36_110 v1 g r g' h)
        · rw [if_neg hc] at h
          refine es (52, [some (.inr (.inr 92)), some (.inl v1), some (.inl c2), some (.inl v3), none], [], g) (congrArg some (if_neg hc)) ?_
          refine ev_runs 3 (52, [some (.inr (.inr 92)), some (.inl v1), some (.inl c2), some (.inl v3), none], [], g) (57, [some (.inr (.inr 92)), some (.inl v1), some (.inl c2), some (.inl v3), none], [.inl c2, .inr (.inr 102)], g) rfl ?_
          by_cases hc : 0 ≤ c2 ∧ c2 < 170
          · rw [if_pos hc] at h
            refine es (58, [some (.inr (.inr 92)), some (.inl v1), some (.inl c2), some (.inl v3), none], [.inl (g 102 c2.toNat)], g) (if_pos hc) ?_
            refine ev_runs 1 (58, [some (.inr (.inr 92)), some (.inl v1), some (.inl c2), some (.inl v3), none], [.inl (g 102 c2.toNat)], g) (59, [some (.inr (.inr 92)), some (.inl v1), some (.inl c2), some (.inl v3), none], [.inl 5, .inl (g 102 c2.toNat)], g) rfl ?_
            by_cases hc : 5 ≤ (g 102 c2.toNat)
            · rw [if_pos hc] at h
              refine es (110, [some (.inr (.inr 92)), some (.inl v1), some (.inl c2), some (.inl v3), none], [], g) (congrArg some (if_pos hc)) ?_
              exact ev_le (L := [some (.inr (.inr 92)), some (.inl v1), some (.inl c2), none, none]) (by simp [Lle]) (hK36_110 v1 g r g' h)
            · rw [if_neg hc] at h
              refine es (62, [some (.inr (.inr 92)), some (.inl v1), some (.inl c2), some (.inl v3), none], [], g) (congrArg some (if_neg hc)) ?_
              refine ev_runs 5 (62, [some (.inr (.inr 92)), some (.inl v1), some (.inl c2), some (.inl v3), none], [], g) (69, [some (.inr (.inr 92)), some (.inl v1), some (.inl c2), some (.inl v3), none], [.inl c2, .inr (.inr 100), .inl v3, .inl v1], g) rfl ?_
              by_cases hc : 0 ≤ c2 ∧ c2 < 170
              · rw [if_pos hc] at h
                refine es (70, [some (.inr (.inr 92)), some (.inl v1), some (.inl c2), some (.inl v3), none], [.inl (g 100 c2.toNat), .inl v3, .inl v1], g) (if_pos hc) ?_
                by_cases hc : v3 = (g 100 c2.toNat)
                · rw [if_pos hc] at h
                  refine es (101, [some (.inr (.inr 92)), some (.inl v1), some (.inl c2), some (.inl v3), none], [.inl v1], g) (congrArg some (if_pos hc)) ?_
                  refine ev_runs 5 (101, [some (.inr (.inr 92)), some (.inl v1), some (.inl c2), some (.inl v3), none], [.inl v1], g) (36, [some (.inr (.inr 92)), some (.inl (jor v1 0)), some (.inl c2), some (.inl (wr (v3 + 1))), none], [], g) rfl ?_
                  exact ev_le (L := [some (.inr (.inr 92)), some (.inl (jor v1 0)), some (.inl c2), some (.inl (wr (v3 + 1))), none]) (by simp [Lle]) (ih36 (jor v1 0) (wr (v3 + 1)) g r g' h)
                · rw [if_neg hc] at h
                  refine es (73, [some (.inr (.inr 92)), some (.inl v1), some (.inl c2), some (.inl v3), none], [.inl v1], g) (congrArg some (if_neg hc)) ?_
                  refine ev_runs 7 (73, [some (.inr (.inr 92)), some (.inl v1), some (.inl c2), some (.inl v3), none], [.inl v1], g) (82, [some (.inr (.inr 92)), some (.inl v1), some (.inl c2), some (.inl v3), none], [.inl 1, .inl (jand (jshr (g 92 18) v3) 1), .inl v1], g) rfl ?_
                  by_cases hc : ¬ (jand (jshr (g 92 18) v3) 1) = 1
                  · rw [if_pos hc] at h
                    refine es (101, [some (.inr (.inr 92)), some (.inl v1), some (.inl c2), some (.inl v3), none], [.inl v1], g) (congrArg some (if_pos hc)) ?_
                    refine ev_runs 5 (101, [some (.inr (.inr 92)), some (.inl v1), some (.inl c2), some (.inl v3), none], [.inl v1], g) (36, [some (.inr (.inr 92)), some (.inl (jor v1 0)), some (.inl c2), some (.inl (wr (v3 + 1))), none], [], g) rfl ?_
                    exact ev_le (L := [some (.inr (.inr 92)), some (.inl (jor v1 0)), some (.inl c2), some (.inl (wr (v3 + 1))), none]) (by simp [Lle]) (ih36 (jor v1 0) (wr (v3 + 1)) g r g' h)
                  · rw [if_neg hc] at h
                    refine es (85, [some (.inr (.inr 92)), some (.inl v1), some (.inl c2), some (.inl v3), none], [.inl v1], g) (congrArg some (if_neg hc)) ?_
                    refine ev_runs 5 (85, [some (.inr (.inr 92)), some (.inl v1), some (.inl c2), some (.inl v3), none], [.inl v1], g) (93, [some (.inr (.inr 92)), some (.inl v1), some (.inl c2), some (.inl v3), none], [.inl c2, .inr (.inr 102), .inl 6, .inl 1, .inl v1], g) rfl ?_
                    by_cases hc : 0 ≤ c2 ∧ c2 < 170
                    · rw [if_pos hc] at h
                      refine es (94, [some (.inr (.inr 92)), some (.inl v1), some (.inl c2), some (.inl v3), none], [.inl (g 102 c2.toNat), .inl 6, .inl 1, .inl v1], g) (if_pos hc) ?_
                      refine ev_runs 9 (94, [some (.inr (.inr 92)), some (.inl v1), some (.inl c2), some (.inl v3), none], [.inl (g 102 c2.toNat), .inl 6, .inl 1, .inl v1], g) (36, [some (.inr (.inr 92)), some (.inl (jor v1 (jshl 1 (wr ((wr (6 * (g 102 c2.toNat))) + v3))))), some (.inl c2), some (.inl (wr (v3 + 1))), none], [], g) rfl ?_
                      exact ev_le (L := [some (.inr (.inr 92)), some (.inl (jor v1 (jshl 1 (wr ((wr (6 * (g 102 c2.toNat))) + v3))))), some (.inl c2), some (.inl (wr (v3 + 1))), none]) (by simp [Lle]) (ih36 (jor v1 (jshl 1 (wr ((wr (6 * (g 102 c2.toNat))) + v3)))) (wr (v3 + 1)) g r g' h)
                    · rw [if_neg hc] at h; cases h
              · rw [if_neg hc] at h; cases h
          · rw [if_neg hc] at h; cases h
      · rw [if_neg hc] at h; cases h
set_option maxRecDepth 100000 in
set_option maxHeartbeats 4000000 in
theorem ev_Md_mended_l26 (K26_116 : Int → Gx → Option (Int × Gx)) (hK26_116 : ∀ (x1 : Int) (g : Gx) (r : Int) (g' : Gx), K26_116 x1 g = some (r, g') → Ev 138 116 [some (.inr (.inr 92)), some (.inl x1), none, none, none] [] g (some (.inl r)) g') : ∀ (n26 : Nat) (v1 v2 : Int) (g : Gx) (r : Int) (g' : Gx), Md_mended_l26 K26_116 n26 v1 v2 g = some (r, g') → Ev 138 26 [some (.inr (.inr 92)), some (.inl v1), some (.inl v2), none, none] [] g (some (.inl r)) g' := by
  intro n26
  induction n26 with
  | zero => intro v1 v2 g r g' h; cases h
  | succ n26 ih26 =>
    intro v1 v2 g r g' h
    rw [Md_mended_l26] at h
    refine ev_runs 3 (26, [some (.inr (.inr 92)), some (.inl v1), some (.inl v2), none, none], [], g) (31, [some (.inr (.inr 92)), some (.inl v1), some (.inl v2), none, none], [.inl (g 92 9), .inl v2], g) rfl ?_
    by_cases hc : (g 92 9) ≤ v2
    · rw [if_pos hc] at h
      refine es (116, [some (.inr (.inr 92)), some (.inl v1), some (.inl v2), none, none], [], g) (congrArg some (if_pos hc)) ?_
      exact ev_le (L := [some (.inr (.inr 92)), some (.inl v1), none, none, none]) (by simp [Lle]) (hK26_116 v1 g r g' h)
    · rw [if_neg hc] at h
      refine es (34, [some (.inr (.inr 92)), some (.inl v1), some (.inl v2), none, none], [], g) (congrArg some (if_neg hc)) ?_
      refine ev_runs 2 (34, [some (.inr (.inr 92)), some (.inl v1), some (.inl v2), none, none], [], g) (36, [some (.inr (.inr 92)), some (.inl v1), some (.inl v2), some (.inl 0), none], [], g) rfl ?_
      refine ev_le (L := [some (.inr (.inr 92)), some (.inl v1), some (.inl v2), some (.inl 0), none]) (by simp [Lle]) ?_
      refine ev_Md_mended_l36 v2 _ ?_ fu v1 0 g r g' h
      · intro x3 g4 r g' h
        refine ev_runs 2 (110, [some (.inr (.inr 92)), some (.inl x3), some (.inl v2), none, none], [], g4) (26, [some (.inr (.inr 92)), some (.inl x3), some (.inl (wr (v2 + 1))), none, none], [], g4) rfl ?_
        exact ev_le (L := [some (.inr (.inr 92)), some (.inl x3), some (.inl (wr (v2 + 1))), none, none]) (by simp [Lle]) (ih26 x3 (wr (v2 + 1)) g4 r g' h)
set_option maxRecDepth 100000 in
set_option maxHeartbeats 4000000 in
theorem ev_Md_mended_l135 (c1 : Int) (K135_193 : Int → Gx → Option (Int × Gx)) (hK135_193 : ∀ (x2 : Int) (g : Gx) (r : Int) (g' : Gx), K135_193 x2 g = some (r, g') → Ev 138 193 [none, none, some (.inl x2), none, none] [] g (some (.inl r)) g') : ∀ (n135 : Nat) (v2 v3 v4 : Int) (g : Gx) (r : Int) (g' : Gx), Md_mended_l135 c1 K135_193 n135 v2 v3 v4 g = some (r, g') → Ev 138 135 [some (.inr (.inr 92)), some (.inl c1), some (.inl v2), some (.inl v3), some (.inl v4)] [] g (some (.inl r)) g' := by
  intro n135
  induction n135 with
  | zero => intro v2 v3 v4 g r g' h; cases h
  | succ n135 ih135 =>
    intro v2 v3 v4 g r g' h
    rw [Md_mended_l135] at h
    refine ev_runs 1 (135, [some (.inr (.inr 92)), some (.inl c1), some (.inl v2), some (.inl v3), some (.inl v4)], [], g) (137, [some (.inr (.inr 92)), some (.inl c1), some (.inl v2), some (.inl v3), some (.inl v4)], [.inl v4], g) rfl ?_
    by_cases hc : v4 = 0
    · rw [if_pos hc] at h
      refine es (193, [some (.inr (.inr 92)), some (.inl c1), some (.inl v2), some (.inl v3), some (.inl v4)], [], g) (congrArg some (if_pos hc)) ?_
      exact ev_le (L := [none, none, some (.inl v2), none, none]) (by simp [Lle]) (hK135_193 v2 g r g' h)
    · rw [if_neg hc] at h
      refine es (140, [some (.inr (.inr 92)), some (.inl c1), some (.inl v2), some (.inl v3), some (.inl v4)], [], g) (congrArg some (if_neg hc)) ?_
      refine ev_runs 2 (140, [some (.inr (.inr 92)), some (.inl c1), some (.inl v2), some (.inl v3), some (.inl v4)], [], g) (142, [some (.inr (.inr 92)), some (.inl c1), some (.inl v2), some (.inl v3), some (.inl v4)], [.inl (-1), .inl v2], g) rfl ?_
      by_cases hc : v2 = (-1)
      · rw [if_pos hc] at h
        refine es (156, [some (.inr (.inr 92)), some (.inl c1), some (.inl v2), some (.inl v3), some (.inl v4)], [], g) (congrArg some (if_pos hc)) ?_
        refine ev_runs 2 (156, [some (.inr (.inr 92)), some (.inl c1), some (.inl v2), some (.inl v3), some (.inl v4)], [], g) (158, [some (.inr (.inr 92)), some (.inl c1), some (.inl v2), some (.inl v3), some (.inl v4)], [.inl v3, .inr (.inr 92)], g) rfl ?_
        obtain ⟨q8, hq, h⟩ := Option.bind_eq_some_iff.mp h
        refine ec 80 161 [.inr (.inr 92), .inl v3] [] rfl (ev_Md_unfolds v3 g q8.1 q8.2 hq) ?_
        show Ev 138 161 [some (.inr (.inr 92)), some (.inl c1), some (.inl v2), some (.inl v3), some (.inl v4)] [.inl q8.1] q8.2 _ _
        by_cases hc : ¬ q8.1 = 0
        · rw [if_pos hc] at h
          refine es (173, [some (.inr (.inr 92)), some (.inl c1), some (.inl v2), some (.inl v3), some (.inl v4)], [], q8.2) (congrArg some (if_pos hc)) ?_
          refine ev_runs 7 (173, [some (.inr (.inr 92)), some (.inl c1), some (.inl v2), some (.inl v3), some (.inl v4)], [], q8.2) (180, [some (.inr (.inr 92)), some (.inl c1), some (.inl v2), some (.inl (jand (wr (v3 - c1)) c1)), some (.inl v4)], [.inl (jand (wr (v3 - c1)) c1)], q8.2) rfl ?_
          by_cases hc : (jand (wr (v3 - c1)) c1) = 0
          · rw [if_pos hc] at h
            refine es (187, [some (.inr (.inr 92)), some (.inl c1), some (.inl v2), some (.inl (jand (wr (v3 - c1)) c1)), some (.inl v4)], [], q8.2) (congrArg some (if_pos hc)) ?_
            refine ev_runs 3 (187, [some (.inr (.inr 92)), some (.inl c1), some (.inl v2), some (.inl (jand (wr (v3 - c1)) c1)), some (.inl v4)], [], q8.2) (135, [some (.inr (.inr 92)), some (.inl c1), some (.inl v2), some (.inl (jand (wr (v3 - c1)) c1)), some (.inl 0)], [], q8.2) rfl ?_
            exact ev_le (L := [some (.inr (.inr 92)), some (.inl c1), some (.inl v2), some (.inl (jand (wr (v3 - c1)) c1)), some (.inl 0)]) (by simp [Lle]) (ih135 v2 (jand (wr (v3 - c1)) c1) 0 q8.2 r g' h)
          · rw [if_neg hc] at h
            refine es (183, [some (.inr (.inr 92)), some (.inl c1), some (.inl v2), some (.inl (jand (wr (v3 - c1)) c1)), some (.inl v4)], [], q8.2) (congrArg some (if_neg hc)) ?_
            refine ev_runs 4 (183, [some (.inr (.inr 92)), some (.inl c1), some (.inl v2), some (.inl (jand (wr (v3 - c1)) c1)), some (.inl v4)], [], q8.2) (135, [some (.inr (.inr 92)), some (.inl c1), some (.inl v2), some (.inl (jand (wr (v3 - c1)) c1)), some (.inl 1)], [], q8.2) rfl ?_
            exact ev_le (L := [some (.inr (.inr 92)), some (.inl c1), some (.inl v2), some (.inl (jand (wr (v3 - c1)) c1)), some (.inl 1)]) (by simp [Lle]) (ih135 v2 (jand (wr (v3 - c1)) c1) 1 q8.2 r g' h)
        · rw [if_neg hc] at h
          refine es (164, [some (.inr (.inr 92)), some (.inl c1), some (.inl v2), some (.inl v3), some (.inl v4)], [], q8.2) (congrArg some (if_neg hc)) ?_
          refine ev_runs 1 (164, [some (.inr (.inr 92)), some (.inl c1), some (.inl v2), some (.inl v3), some (.inl v4)], [], q8.2) (165, [some (.inr (.inr 92)), some (.inl c1), some (.inl v2), some (.inl v3), some (.inl v4)], [.inr (.inr 92)], q8.2) rfl ?_
          obtain ⟨q9, hq, h⟩ := Option.bind_eq_some_iff.mp h
          refine ec 126 168 [.inr (.inr 92)] [] rfl (ev_Md_isSound q8.2 q9.1 q9.2 hq) ?_
          show Ev 138 168 [some (.inr (.inr 92)), some (.inl c1), some (.inl v2), some (.inl v3), some (.inl v4)] [.inl q9.1] q9.2 _ _
          obtain ⟨y10, hy10, h⟩ := lett_inv h
          have hjy10 : Ev 138 173 [some (.inr (.inr 92)), some (.inl c1), some (.inl y10), some (.inl v3), none] [] q9.2 (some (.inl r)) g' := by
            refine ev_runs 7 (173, [some (.inr (.inr 92)), some (.inl c1), some (.inl y10), some (.inl v3), none], [], q9.2) (180, [some (.inr (.inr 92)), some (.inl c1), some (.inl y10), some (.inl (jand (wr (v3 - c1)) c1)), none], [.inl (jand (wr (v3 - c1)) c1)], q9.2) rfl ?_
            by_cases hc : (jand (wr (v3 - c1)) c1) = 0
            · rw [if_pos hc] at h
              refine es (187, [some (.inr (.inr 92)), some (.inl c1), some (.inl y10), some (.inl (jand (wr (v3 - c1)) c1)), none], [], q9.2) (congrArg some (if_pos hc)) ?_
              refine ev_runs 3 (187, [some (.inr (.inr 92)), some (.inl c1), some (.inl y10), some (.inl (jand (wr (v3 - c1)) c1)), none], [], q9.2) (135, [some (.inr (.inr 92)), some (.inl c1), some (.inl y10), some (.inl (jand (wr (v3 - c1)) c1)), some (.inl 0)], [], q9.2) rfl ?_
              exact ev_le (L := [some (.inr (.inr 92)), some (.inl c1), some (.inl y10), some (.inl (jand (wr (v3 - c1)) c1)), some (.inl 0)]) (by simp [Lle]) (ih135 y10 (jand (wr (v3 - c1)) c1) 0 q9.2 r g' h)
            · rw [if_neg hc] at h
              refine es (183, [some (.inr (.inr 92)), some (.inl c1), some (.inl y10), some (.inl (jand (wr (v3 - c1)) c1)), none], [], q9.2) (congrArg some (if_neg hc)) ?_
              refine ev_runs 4 (183, [some (.inr (.inr 92)), some (.inl c1), some (.inl y10), some (.inl (jand (wr (v3 - c1)) c1)), none], [], q9.2) (135, [some (.inr (.inr 92)), some (.inl c1), some (.inl y10), some (.inl (jand (wr (v3 - c1)) c1)), some (.inl 1)], [], q9.2) rfl ?_
              exact ev_le (L := [some (.inr (.inr 92)), some (.inl c1), some (.inl y10), some (.inl (jand (wr (v3 - c1)) c1)), some (.inl 1)]) (by simp [Lle]) (ih135 y10 (jand (wr (v3 - c1)) c1) 1 q9.2 r g' h)
          by_cases hc : q9.1 = 0
          · rw [if_pos hc] at hy10
            refine es (173, [some (.inr (.inr 92)), some (.inl c1), some (.inl v2), some (.inl v3), some (.inl v4)], [], q9.2) (congrArg some (if_pos hc)) ?_
            rw [hy10] at hjy10
            exact ev_le (L := [some (.inr (.inr 92)), some (.inl c1), some (.inl v2), some (.inl v3), none]) (by simp [Lle]) hjy10
          · rw [if_neg hc] at hy10
            refine es (171, [some (.inr (.inr 92)), some (.inl c1), some (.inl v2), some (.inl v3), some (.inl v4)], [], q9.2) (congrArg some (if_neg hc)) ?_
            refine ev_runs 2 (171, [some (.inr (.inr 92)), some (.inl c1), some (.inl v2), some (.inl v3), some (.inl v4)], [], q9.2) (173, [some (.inr (.inr 92)), some (.inl c1), some (.inl v3), some (.inl v3), some (.inl v4)], [], q9.2) rfl ?_
            rw [hy10] at hjy10
            exact ev_le (L := [some (.inr (.inr 92)), some (.inl c1), some (.inl v3), some (.inl v3), none]) (by simp [Lle]) hjy10
      · rw [if_neg hc] at h
        refine es (145, [some (.inr (.inr 92)), some (.inl c1), some (.inl v2), some (.inl v3), some (.inl v4)], [], g) (congrArg some (if_neg hc)) ?_
        refine ev_runs 1 (145, [some (.inr (.inr 92)), some (.inl c1), some (.inl v2), some (.inl v3), some (.inl v4)], [], g) (146, [some (.inr (.inr 92)), some (.inl c1), some (.inl v2), some (.inl v3), some (.inl v4)], [.inl v3], g) rfl ?_
        obtain ⟨q11, hq, h⟩ := Option.bind_eq_some_iff.mp h
        refine ec 137 149 [.inl v3] [] rfl (ev_Md_ones v3 g q11.1 q11.2 hq) ?_
        show Ev 138 149 [some (.inr (.inr 92)), some (.inl c1), some (.inl v2), some (.inl v3), some (.inl v4)] [.inl q11.1] q11.2 _ _
        refine ev_runs 1 (149, [some (.inr (.inr 92)), some (.inl c1), some (.inl v2), some (.inl v3), some (.inl v4)], [.inl q11.1], q11.2) (150, [some (.inr (.inr 92)), some (.inl c1), some (.inl v2), some (.inl v3), some (.inl v4)], [.inl v2, .inl q11.1], q11.2) rfl ?_
        obtain ⟨q12, hq, h⟩ := Option.bind_eq_some_iff.mp h
        refine ec 137 153 [.inl v2] [.inl q11.1] rfl (ev_Md_ones v2 q11.2 q12.1 q12.2 hq) ?_
        show Ev 138 153 [some (.inr (.inr 92)), some (.inl c1), some (.inl v2), some (.inl v3), some (.inl v4)] [.inl q12.1, .inl q11.1] q12.2 _ _
        by_cases hc : q12.1 ≤ q11.1
        · rw [if_pos hc] at h
          refine es (173, [some (.inr (.inr 92)), some (.inl c1), some (.inl v2), some (.inl v3), some (.inl v4)], [], q12.2) (congrArg some (if_pos hc)) ?_
          refine ev_runs 7 (173, [some (.inr (.inr 92)), some (.inl c1), some (.inl v2), some (.inl v3), some (.inl v4)], [], q12.2) (180, [some (.inr (.inr 92)), some (.inl c1), some (.inl v2), some (.inl (jand (wr (v3 - c1)) c1)), some (.inl v4)], [.inl (jand (wr (v3 - c1)) c1)], q12.2) rfl ?_
          by_cases hc : (jand (wr (v3 - c1)) c1) = 0
          · rw [if_pos hc] at h
            refine es (187, [some (.inr (.inr 92)), some (.inl c1), some (.inl v2), some (.inl (jand (wr (v3 - c1)) c1)), some (.inl v4)], [], q12.2) (congrArg some (if_pos hc)) ?_
            refine ev_runs 3 (187, [some (.inr (.inr 92)), some (.inl c1), some (.inl v2), some (.inl (jand (wr (v3 - c1)) c1)), some (.inl v4)], [], q12.2) (135, [some (.inr (.inr 92)), some (.inl c1), some (.inl v2), some (.inl (jand (wr (v3 - c1)) c1)), some (.inl 0)], [], q12.2) rfl ?_
            exact ev_le (L := [some (.inr (.inr 92)), some (.inl c1), some (.inl v2), some (.inl (jand (wr (v3 - c1)) c1)), some (.inl 0)]) (by simp [Lle]) (ih135 v2 (jand (wr (v3 - c1)) c1) 0 q12.2 r g' h)
          · rw [if_neg hc] at h
            refine es (183, [some (.inr (.inr 92)), some (.inl c1), some (.inl v2), some (.inl (jand (wr (v3 - c1)) c1)), some (.inl v4)], [], q12.2) (congrArg some (if_neg hc)) ?_
            refine ev_runs 4 (183, [some (.inr (.inr 92)), some (.inl c1), some (.inl v2), some (.inl (jand (wr (v3 - c1)) c1)), some (.inl v4)], [], q12.2) (135, [some (.inr (.inr 92)), some (.inl c1), some (.inl v2), some (.inl (jand (wr (v3 - c1)) c1)), some (.inl 1)], [], q12.2) rfl ?_
            exact ev_le (L := [some (.inr (.inr 92)), some (.inl c1), some (.inl v2), some (.inl (jand (wr (v3 - c1)) c1)), some (.inl 1)]) (by simp [Lle]) (ih135 v2 (jand (wr (v3 - c1)) c1) 1 q12.2 r g' h)
        · rw [if_neg hc] at h
          refine es (156, [some (.inr (.inr 92)), some (.inl c1), some (.inl v2), some (.inl v3), some (.inl v4)], [], q12.2) (congrArg some (if_neg hc)) ?_
          refine ev_runs 2 (156, [some (.inr (.inr 92)), some (.inl c1), some (.inl v2), some (.inl v3), some (.inl v4)], [], q12.2) (158, [some (.inr (.inr 92)), some (.inl c1), some (.inl v2), some (.inl v3), some (.inl v4)], [.inl v3, .inr (.inr 92)], q12.2) rfl ?_
          obtain ⟨q13, hq, h⟩ := Option.bind_eq_some_iff.mp h
          refine ec 80 161 [.inr (.inr 92), .inl v3] [] rfl (ev_Md_unfolds v3 q12.2 q13.1 q13.2 hq) ?_
          show Ev 138 161 [some (.inr (.inr 92)), some (.inl c1), some (.inl v2), some (.inl v3), some (.inl v4)] [.inl q13.1] q13.2 _ _
          by_cases hc : ¬ q13.1 = 0
          · rw [if_pos hc] at h
            refine es (173, [some (.inr (.inr 92)), some (.inl c1), some (.inl v2), some (.inl v3), some (.inl v4)], [], q13.2) (congrArg some (if_pos hc)) ?_
            refine ev_runs 7 (173, [some (.inr (.inr 92)), some (.inl c1), some (.inl v2), some (.inl v3), some (.inl v4)], [], q13.2) (180, [some (.inr (.inr 92)), some (.inl c1), some (.inl v2), some (.inl (jand (wr (v3 - c1)) c1)), some (.inl v4)], [.inl (jand (wr (v3 - c1)) c1)], q13.2) rfl ?_
            by_cases hc : (jand (wr (v3 - c1)) c1) = 0
            · rw [if_pos hc] at h
              refine es (187, [some (.inr (.inr 92)), some (.inl c1), some (.inl v2), some (.inl (jand (wr (v3 - c1)) c1)), some (.inl v4)], [], q13.2) (congrArg some (if_pos hc)) ?_
              refine ev_runs 3 (187, [some (.inr (.inr 92)), some (.inl c1), some (.inl v2), some (.inl (jand (wr (v3 - c1)) c1)), some (.inl v4)], [], q13.2) (135, [some (.inr (.inr 92)), some (.inl c1), some (.inl v2), some (.inl (jand (wr (v3 - c1)) c1)), some (.inl 0)], [], q13.2) rfl ?_
              exact ev_le (L := [some (.inr (.inr 92)), some (.inl c1), some (.inl v2), some (.inl (jand (wr (v3 - c1)) c1)), some (.inl 0)]) (by simp [Lle]) (ih135 v2 (jand (wr (v3 - c1)) c1) 0 q13.2 r g' h)
            · rw [if_neg hc] at h
              refine es (183, [some (.inr (.inr 92)), some (.inl c1), some (.inl v2), some (.inl (jand (wr (v3 - c1)) c1)), some (.inl v4)], [], q13.2) (congrArg some (if_neg hc)) ?_
              refine ev_runs 4 (183, [some (.inr (.inr 92)), some (.inl c1), some (.inl v2), some (.inl (jand (wr (v3 - c1)) c1)), some (.inl v4)], [], q13.2) (135, [some (.inr (.inr 92)), some (.inl c1), some (.inl v2), some (.inl (jand (wr (v3 - c1)) c1)), some (.inl 1)], [], q13.2) rfl ?_
              exact ev_le (L := [some (.inr (.inr 92)), some (.inl c1), some (.inl v2), some (.inl (jand (wr (v3 - c1)) c1)), some (.inl 1)]) (by simp [Lle]) (ih135 v2 (jand (wr (v3 - c1)) c1) 1 q13.2 r g' h)
          · rw [if_neg hc] at h
            refine es (164, [some (.inr (.inr 92)), some (.inl c1), some (.inl v2), some (.inl v3), some (.inl v4)], [], q13.2) (congrArg some (if_neg hc)) ?_
            refine ev_runs 1 (164, [some (.inr (.inr 92)), some (.inl c1), some (.inl v2), some (.inl v3), some (.inl v4)], [], q13.2) (165, [some (.inr (.inr 92)), some (.inl c1), some (.inl v2), some (.inl v3), some (.inl v4)], [.inr (.inr 92)], q13.2) rfl ?_
            obtain ⟨q14, hq, h⟩ := Option.bind_eq_some_iff.mp h
            refine ec 126 168 [.inr (.inr 92)] [] rfl (ev_Md_isSound q13.2 q14.1 q14.2 hq) ?_
            show Ev 138 168 [some (.inr (.inr 92)), some (.inl c1), some (.inl v2), some (.inl v3), some (.inl v4)] [.inl q14.1] q14.2 _ _
            obtain ⟨y15, hy15, h⟩ := lett_inv h
            have hjy15 : Ev 138 173 [some (.inr (.inr 92)), some (.inl c1), some (.inl y15), some (.inl v3), none] [] q14.2 (some (.inl r)) g' := by
              refine ev_runs 7 (173, [some (.inr (.inr 92)), some (.inl c1), some (.inl y15), some (.inl v3), none], [], q14.2) (180, [some (.inr (.inr 92)), some (.inl c1), some (.inl y15), some (.inl (jand (wr (v3 - c1)) c1)), none], [.inl (jand (wr (v3 - c1)) c1)], q14.2) rfl ?_
              by_cases hc : (jand (wr (v3 - c1)) c1) = 0
              · rw [if_pos hc] at h
                refine es (187, [some (.inr (.inr 92)), some (.inl c1), some (.inl y15), some (.inl (jand (wr (v3 - c1)) c1)), none], [], q14.2) (congrArg some (if_pos hc)) ?_
                refine ev_runs 3 (187, [some (.inr (.inr 92)), some (.inl c1), some (.inl y15), some (.inl (jand (wr (v3 - c1)) c1)), none], [], q14.2) (135, [some (.inr (.inr 92)), some (.inl c1), some (.inl y15), some (.inl (jand (wr (v3 - c1)) c1)), some (.inl 0)], [], q14.2) rfl ?_
                exact ev_le (L := [some (.inr (.inr 92)), some (.inl c1), some (.inl y15), some (.inl (jand (wr (v3 - c1)) c1)), some (.inl 0)]) (by simp [Lle]) (ih135 y15 (jand (wr (v3 - c1)) c1) 0 q14.2 r g' h)
              · rw [if_neg hc] at h
                refine es (183, [some (.inr (.inr 92)), some (.inl c1), some (.inl y15), some (.inl (jand (wr (v3 - c1)) c1)), none], [], q14.2) (congrArg some (if_neg hc)) ?_
                refine ev_runs 4 (183, [some (.inr (.inr 92)), some (.inl c1), some (.inl y15), some (.inl (jand (wr (v3 - c1)) c1)), none], [], q14.2) (135, [some (.inr (.inr 92)), some (.inl c1), some (.inl y15), some (.inl (jand (wr (v3 - c1)) c1)), some (.inl 1)], [], q14.2) rfl ?_
                exact ev_le (L := [some (.inr (.inr 92)), some (.inl c1), some (.inl y15), some (.inl (jand (wr (v3 - c1)) c1)), some (.inl 1)]) (by simp [Lle]) (ih135 y15 (jand (wr (v3 - c1)) c1) 1 q14.2 r g' h)
            by_cases hc : q14.1 = 0
            · rw [if_pos hc] at hy15
              refine es (173, [some (.inr (.inr 92)), some (.inl c1), some (.inl v2), some (.inl v3), some (.inl v4)], [], q14.2) (congrArg some (if_pos hc)) ?_
              rw [hy15] at hjy15
              exact ev_le (L := [some (.inr (.inr 92)), some (.inl c1), some (.inl v2), some (.inl v3), none]) (by simp [Lle]) hjy15
            · rw [if_neg hc] at hy15
              refine es (171, [some (.inr (.inr 92)), some (.inl c1), some (.inl v2), some (.inl v3), some (.inl v4)], [], q14.2) (congrArg some (if_neg hc)) ?_
              refine ev_runs 2 (171, [some (.inr (.inr 92)), some (.inl c1), some (.inl v2), some (.inl v3), some (.inl v4)], [], q14.2) (173, [some (.inr (.inr 92)), some (.inl c1), some (.inl v3), some (.inl v3), some (.inl v4)], [], q14.2) rfl ?_
              rw [hy15] at hjy15
              exact ev_le (L := [some (.inr (.inr 92)), some (.inl c1), some (.inl v3), some (.inl v3), none]) (by simp [Lle]) hjy15
set_option maxRecDepth 100000 in
set_option maxHeartbeats 4000000 in
theorem ev_Md_mended (g : Gx) (r : Int) (g' : Gx) (h : Md_mended g = some (r, g')) : Ev 138 0 [some (.inr (.inr 92)), none, none, none, none] [] g (some (.inl r)) g' := by
  rw [Md_mended] at h
  refine ev_runs 1 (0, [some (.inr (.inr 92)), none, none, none, none], [], g) (1, [some (.inr (.inr 92)), none, none, none, none], [.inr (.inr 92)], g) rfl ?_
  obtain ⟨q1, hq, h⟩ := Option.bind_eq_some_iff.mp h
  refine ec 43 4 [.inr (.inr 92)] [] rfl (ev_Md_reads g q1.1 q1.2 hq) ?_
  show Ev 138 4 [some (.inr (.inr 92)), none, none, none, none] [.inl q1.1] q1.2 _ _
  refine ev_runs 1 (4, [some (.inr (.inr 92)), none, none, none, none], [.inl q1.1], q1.2) (5, [some (.inr (.inr 92)), none, none, none, none], [.inl (-1), .inl q1.1], q1.2) rfl ?_
  by_cases hc : q1.1 = (-1)
  · rw [if_pos hc] at h
    refine es (11, [some (.inr (.inr 92)), none, none, none, none], [], q1.2) (congrArg some (if_pos hc)) ?_
    refine ev_runs 2 (11, [some (.inr (.inr 92)), none, none, none, none], [], q1.2) (13, [some (.inr (.inr 92)), none, none, none, none], [.inl 0, .inr (.inr 92)], q1.2) rfl ?_
    obtain ⟨q2, hq, h⟩ := Option.bind_eq_some_iff.mp h
    refine ec 80 16 [.inr (.inr 92), .inl 0] [] rfl (ev_Md_unfolds 0 q1.2 q2.1 q2.2 hq) ?_
    show Ev 138 16 [some (.inr (.inr 92)), none, none, none, none] [.inl q2.1] q2.2 _ _
    by_cases hc : q2.1 = 0
    · rw [if_pos hc] at h
      refine es (22, [some (.inr (.inr 92)), none, none, none, none], [], q2.2) (congrArg some (if_pos hc)) ?_
      refine ev_runs 4 (22, [some (.inr (.inr 92)), none, none, none, none], [], q2.2) (26, [some (.inr (.inr 92)), some (.inl 0), some (.inl 0), none, none], [], q2.2) rfl ?_
      refine ev_le (L := [some (.inr (.inr 92)), some (.inl 0), some (.inl 0), none, none]) (by simp [Lle]) ?_
      refine ev_Md_mended_l26 _ ?_ fu 0 0 q2.2 r g' h
      · intro x5 g6 r g' h
        refine ev_runs 1 (116, [some (.inr (.inr 92)), some (.inl x5), none, none, none], [], g6) (117, [some (.inr (.inr 92)), some (.inl x5), none, none, none], [.inl x5], g6) rfl ?_
        obtain ⟨q7, hq, h⟩ := Option.bind_eq_some_iff.mp h
        refine ec 137 120 [.inl x5] [] rfl (ev_Md_ones x5 g6 q7.1 q7.2 hq) ?_
        show Ev 138 120 [some (.inr (.inr 92)), some (.inl x5), none, none, none] [.inl q7.1] q7.2 _ _
        refine ev_runs 1 (120, [some (.inr (.inr 92)), some (.inl x5), none, none, none], [.inl q7.1], q7.2) (122, [some (.inr (.inr 92)), some (.inl x5), none, none, none], [.inl 6, .inl q7.1], q7.2) rfl ?_
        by_cases hc : q7.1 ≤ 6
        · rw [if_pos hc] at h
          refine es (128, [some (.inr (.inr 92)), some (.inl x5), none, none, none], [], q7.2) (congrArg some (if_pos hc)) ?_
          refine ev_runs 6 (128, [some (.inr (.inr 92)), some (.inl x5), none, none, none], [], q7.2) (135, [some (.inr (.inr 92)), some (.inl x5), some (.inl (-1)), some (.inl 0), some (.inl 1)], [], q7.2) rfl ?_
          refine ev_le (L := [some (.inr (.inr 92)), some (.inl x5), some (.inl (-1)), some (.inl 0), some (.inl 1)]) (by simp [Lle]) ?_
          refine ev_Md_mended_l135 x5 _ ?_ fu (-1) 0 1 q7.2 r g' h
          · intro x16 g17 r g' h
            refine ev_runs 1 (193, [none, none, some (.inl x16), none, none], [], g17) (194, [none, none, some (.inl x16), none, none], [.inl x16], g17) rfl ?_
            cases h
            exact er rfl
        · rw [if_neg hc] at h
          refine es (125, [some (.inr (.inr 92)), some (.inl x5), none, none, none], [], q7.2) (congrArg some (if_neg hc)) ?_
          refine ev_runs 1 (125, [some (.inr (.inr 92)), some (.inl x5), none, none, none], [], q7.2) (127, [some (.inr (.inr 92)), some (.inl x5), none, none, none], [.inl (-4)], q7.2) rfl ?_
          cases h
          exact er rfl
    · rw [if_neg hc] at h
      refine es (19, [some (.inr (.inr 92)), none, none, none, none], [], q2.2) (congrArg some (if_neg hc)) ?_
      refine ev_runs 1 (19, [some (.inr (.inr 92)), none, none, none, none], [], q2.2) (21, [some (.inr (.inr 92)), none, none, none, none], [.inl (-4)], q2.2) rfl ?_
      cases h
      exact er rfl
  · rw [if_neg hc] at h
    refine es (8, [some (.inr (.inr 92)), none, none, none, none], [], q1.2) (congrArg some (if_neg hc)) ?_
    refine ev_runs 1 (8, [some (.inr (.inr 92)), none, none, none, none], [], q1.2) (10, [some (.inr (.inr 92)), none, none, none, none], [.inl (-3)], q1.2) rfl ?_
    cases h
    exact er rfl
def Rn_takesPart (a0 a1 : Int) : Int :=
  if (Op_sayer a1) = a0 then
    1
  else
    if ¬ (Op_getter a1) = a0 then
      0
    else
      1
set_option maxRecDepth 100000 in
set_option maxHeartbeats 4000000 in
theorem ev_Rn_takesPart (a0 a1 : Int) (g : Gx) (r : Int) (h : Rn_takesPart a0 a1 = r) : Ev 139 0 [some (.inl a0), some (.inl a1)] [] g (some (.inl r)) g := by
  rw [Rn_takesPart] at h
  refine ev_runs 1 (0, [some (.inl a0), some (.inl a1)], [], g) (1, [some (.inl a0), some (.inl a1)], [.inl a1], g) rfl ?_
  refine ec 92 4 [.inl a1] [] rfl (ev_Op_sayer a1 g _ rfl) ?_
  show Ev 139 4 [some (.inl a0), some (.inl a1)] [.inl (Op_sayer a1)] g _ _
  refine ev_runs 1 (4, [some (.inl a0), some (.inl a1)], [.inl (Op_sayer a1)], g) (5, [some (.inl a0), some (.inl a1)], [.inl a0, .inl (Op_sayer a1)], g) rfl ?_
  by_cases hc : (Op_sayer a1) = a0
  · rw [if_pos hc] at h
    refine es (16, [some (.inl a0), some (.inl a1)], [], g) (congrArg some (if_pos hc)) ?_
    refine ev_runs 2 (16, [some (.inl a0), some (.inl a1)], [], g) (21, [some (.inl a0), some (.inl a1)], [.inl 1], g) rfl ?_
    subst h
    exact er rfl
  · rw [if_neg hc] at h
    refine es (8, [some (.inl a0), some (.inl a1)], [], g) (congrArg some (if_neg hc)) ?_
    refine ev_runs 1 (8, [some (.inl a0), some (.inl a1)], [], g) (9, [some (.inl a0), some (.inl a1)], [.inl a1], g) rfl ?_
    refine ec 93 12 [.inl a1] [] rfl (ev_Op_getter a1 g _ rfl) ?_
    show Ev 139 12 [some (.inl a0), some (.inl a1)] [.inl (Op_getter a1)] g _ _
    refine ev_runs 1 (12, [some (.inl a0), some (.inl a1)], [.inl (Op_getter a1)], g) (13, [some (.inl a0), some (.inl a1)], [.inl a0, .inl (Op_getter a1)], g) rfl ?_
    by_cases hc : ¬ (Op_getter a1) = a0
    · rw [if_pos hc] at h
      refine es (20, [some (.inl a0), some (.inl a1)], [], g) (congrArg some (if_pos hc)) ?_
      refine ev_runs 1 (20, [some (.inl a0), some (.inl a1)], [], g) (21, [some (.inl a0), some (.inl a1)], [.inl 0], g) rfl ?_
      subst h
      exact er rfl
    · rw [if_neg hc] at h
      refine es (16, [some (.inl a0), some (.inl a1)], [], g) (congrArg some (if_neg hc)) ?_
      refine ev_runs 2 (16, [some (.inl a0), some (.inl a1)], [], g) (21, [some (.inl a0), some (.inl a1)], [.inl 1], g) rfl ?_
      subst h
      exact er rfl
theorem bo_Rn_takesPart (a0 a1 : Int) : (Rn_takesPart a0 a1) = 0 ∨ (Rn_takesPart a0 a1) = 1 := by
  simp only [Rn_takesPart, lett]
  (repeat' split) <;> first | exact Or.inl rfl | exact Or.inr rfl | exact Or.inl trivial | exact Or.inr trivial
def Rn_nextPlace_l3 (c1 : Int) (c2 : Int) (K3_39 : Int → Gx → Option (Int × Gx)) : Nat → Int → Gx → Option (Int × Gx)
  | 0, _, _ => none
  | n3 + 1, v4, g =>
    if (Hi_length c1 g) ≤ v4 then
      K3_39 v4 g
    else
      if ¬ (Rn_takesPart c2 (Hi_word c1 v4 g)) = 0 then
        K3_39 v4 g
      else
        Rn_nextPlace_l3 c1 c2 K3_39 n3 (wr (v4 + 1)) g
def Rn_nextPlace (a1 a2 a3 : Int) (g : Gx) : Option (Int × Gx) :=
  Rn_nextPlace_l3 a1 a2
    (fun x1 g2 =>
      some (x1, g2))
    fu a3 g
set_option maxRecDepth 100000 in
set_option maxHeartbeats 4000000 in
theorem ev_Rn_nextPlace_l3 (c1 : Int) (c2 : Int) (K3_39 : Int → Gx → Option (Int × Gx)) (hK3_39 : ∀ (x4 : Int) (g : Gx) (r : Int) (g' : Gx), K3_39 x4 g = some (r, g') → Ev 140 39 [none, none, none, none, some (.inl x4)] [] g (some (.inl r)) g') : ∀ (n3 : Nat) (v4 : Int) (g : Gx) (r : Int) (g' : Gx), Rn_nextPlace_l3 c1 c2 K3_39 n3 v4 g = some (r, g') → Ev 140 3 [some (.inr (.inr 60)), some (.inl c1), some (.inl c2), none, some (.inl v4)] [] g (some (.inl r)) g' := by
  intro n3
  induction n3 with
  | zero => intro v4 g r g' h; cases h
  | succ n3 ih3 =>
    intro v4 g r g' h
    rw [Rn_nextPlace_l3] at h
    refine ev_runs 4 (3, [some (.inr (.inr 60)), some (.inl c1), some (.inl c2), none, some (.inl v4)], [], g) (10, [some (.inr (.inr 60)), some (.inl c1), some (.inl c2), none, some (.inl v4)], [.inl c1, .inr (.inr 33), .inl v4], g) rfl ?_
    refine ec 84 13 [.inr (.inr 33), .inl c1] [.inl v4] rfl (ev_Hi_length c1 g _ rfl) ?_
    show Ev 140 13 [some (.inr (.inr 60)), some (.inl c1), some (.inl c2), none, some (.inl v4)] [.inl (Hi_length c1 g), .inl v4] g _ _
    by_cases hc : (Hi_length c1 g) ≤ v4
    · rw [if_pos hc] at h
      refine es (39, [some (.inr (.inr 60)), some (.inl c1), some (.inl c2), none, some (.inl v4)], [], g) (congrArg some (if_pos hc)) ?_
      exact ev_le (L := [none, none, none, none, some (.inl v4)]) (by simp [Lle]) (hK3_39 v4 g r g' h)
    · rw [if_neg hc] at h
      refine es (16, [some (.inr (.inr 60)), some (.inl c1), some (.inl c2), none, some (.inl v4)], [], g) (congrArg some (if_neg hc)) ?_
      refine ev_runs 5 (16, [some (.inr (.inr 60)), some (.inl c1), some (.inl c2), none, some (.inl v4)], [], g) (24, [some (.inr (.inr 60)), some (.inl c1), some (.inl c2), none, some (.inl v4)], [.inl v4, .inl c1, .inr (.inr 33), .inl c2], g) rfl ?_
      refine ec 85 27 [.inr (.inr 33), .inl c1, .inl v4] [.inl c2] rfl (ev_Hi_word c1 v4 g _ rfl) ?_
      show Ev 140 27 [some (.inr (.inr 60)), some (.inl c1), some (.inl c2), none, some (.inl v4)] [.inl (Hi_word c1 v4 g), .inl c2] g _ _
      refine ec 139 30 [.inl c2, .inl (Hi_word c1 v4 g)] [] rfl (ev_Rn_takesPart c2 (Hi_word c1 v4 g) g _ rfl) ?_
      show Ev 140 30 [some (.inr (.inr 60)), some (.inl c1), some (.inl c2), none, some (.inl v4)] [.inl (Rn_takesPart c2 (Hi_word c1 v4 g))] g _ _
      by_cases hc : ¬ (Rn_takesPart c2 (Hi_word c1 v4 g)) = 0
      · rw [if_pos hc] at h
        refine es (39, [some (.inr (.inr 60)), some (.inl c1), some (.inl c2), none, some (.inl v4)], [], g) (congrArg some (if_pos hc)) ?_
        exact ev_le (L := [none, none, none, none, some (.inl v4)]) (by simp [Lle]) (hK3_39 v4 g r g' h)
      · rw [if_neg hc] at h
        refine es (33, [some (.inr (.inr 60)), some (.inl c1), some (.inl c2), none, some (.inl v4)], [], g) (congrArg some (if_neg hc)) ?_
        refine ev_runs 2 (33, [some (.inr (.inr 60)), some (.inl c1), some (.inl c2), none, some (.inl v4)], [], g) (3, [some (.inr (.inr 60)), some (.inl c1), some (.inl c2), none, some (.inl (wr (v4 + 1)))], [], g) rfl ?_
        exact ev_le (L := [some (.inr (.inr 60)), some (.inl c1), some (.inl c2), none, some (.inl (wr (v4 + 1)))]) (by simp [Lle]) (ih3 (wr (v4 + 1)) g r g' h)
set_option maxRecDepth 100000 in
set_option maxHeartbeats 4000000 in
theorem ev_Rn_nextPlace (a1 a2 a3 : Int) (g : Gx) (r : Int) (g' : Gx) (h : Rn_nextPlace a1 a2 a3 g = some (r, g')) : Ev 140 0 [some (.inr (.inr 60)), some (.inl a1), some (.inl a2), some (.inl a3), none] [] g (some (.inl r)) g' := by
  rw [Rn_nextPlace] at h
  refine ev_runs 2 (0, [some (.inr (.inr 60)), some (.inl a1), some (.inl a2), some (.inl a3), none], [], g) (3, [some (.inr (.inr 60)), some (.inl a1), some (.inl a2), some (.inl a3), some (.inl a3)], [], g) rfl ?_
  refine ev_le (L := [some (.inr (.inr 60)), some (.inl a1), some (.inl a2), none, some (.inl a3)]) (by simp [Lle]) ?_
  refine ev_Rn_nextPlace_l3 a1 a2 _ ?_ fu a3 g r g' h
  · intro x1 g2 r g' h
    refine ev_runs 1 (39, [none, none, none, none, some (.inl x1)], [], g2) (41, [none, none, none, none, some (.inl x1)], [.inl x1], g2) rfl ?_
    cases h
    exact er rfl
def Rn_ableTalkers_l4 (c1 : Int) (K4_80 : Int → Gx → Option (Int × Gx)) : Nat → Int → Int → Gx → Option (Int × Gx)
  | 0, _, _, _ => none
  | n4 + 1, v2, v3, g =>
    if 6 ≤ v3 then
      K4_80 v2 g
    else
      if (Hi_length c1 g) ≤ (rat g 62 6 v3) then
        Rn_ableTalkers_l4 c1 K4_80 n4 v2 (wr (v3 + 1)) g
      else
        if (Op_sayer (Hi_word c1 (rat g 62 6 v3) g)) = v3 then
          Rn_ableTalkers_l4 c1 K4_80 n4 (jor v2 (jshl 1 v3)) (wr (v3 + 1)) g
        else
          if (rat g 62 6 (Op_sayer (Hi_word c1 (rat g 62 6 v3) g))) ≤ (rat g 62 6 v3) then
            Rn_ableTalkers_l4 c1 K4_80 n4 v2 (wr (v3 + 1)) g
          else
            Rn_ableTalkers_l4 c1 K4_80 n4 (jor v2 (jshl 1 v3)) (wr (v3 + 1)) g
def Rn_ableTalkers (a1 : Int) (g : Gx) : Option (Int × Gx) :=
  Rn_ableTalkers_l4 a1
    (fun x1 g2 =>
      some (x1, g2))
    fu 0 0 g
set_option maxRecDepth 100000 in
set_option maxHeartbeats 4000000 in
theorem ev_Rn_ableTalkers_l4 (c1 : Int) (K4_80 : Int → Gx → Option (Int × Gx)) (hK4_80 : ∀ (x2 : Int) (g : Gx) (r : Int) (g' : Gx), K4_80 x2 g = some (r, g') → Ev 141 80 [none, none, some (.inl x2), none, none, none] [] g (some (.inl r)) g') : ∀ (n4 : Nat) (v2 v3 : Int) (g : Gx) (r : Int) (g' : Gx), Rn_ableTalkers_l4 c1 K4_80 n4 v2 v3 g = some (r, g') → Ev 141 4 [some (.inr (.inr 60)), some (.inl c1), some (.inl v2), some (.inl v3), none, none] [] g (some (.inl r)) g' := by
  intro n4
  induction n4 with
  | zero => intro v2 v3 g r g' h; cases h
  | succ n4 ih4 =>
    intro v2 v3 g r g' h
    rw [Rn_ableTalkers_l4] at h
    refine ev_runs 2 (4, [some (.inr (.inr 60)), some (.inl c1), some (.inl v2), some (.inl v3), none, none], [], g) (7, [some (.inr (.inr 60)), some (.inl c1), some (.inl v2), some (.inl v3), none, none], [.inl 6, .inl v3], g) rfl ?_
    by_cases hc : 6 ≤ v3
    · rw [if_pos hc] at h
      refine es (80, [some (.inr (.inr 60)), some (.inl c1), some (.inl v2), some (.inl v3), none, none], [], g) (congrArg some (if_pos hc)) ?_
      exact ev_le (L := [none, none, some (.inl v2), none, none, none]) (by simp [Lle]) (hK4_80 v2 g r g' h)
    · rw [if_neg hc] at h
      refine es (10, [some (.inr (.inr 60)), some (.inl c1), some (.inl v2), some (.inl v3), none, none], [], g) (congrArg some (if_neg hc)) ?_
      refine ev_runs 3 (10, [some (.inr (.inr 60)), some (.inl c1), some (.inl v2), some (.inl v3), none, none], [], g) (15, [some (.inr (.inr 60)), some (.inl c1), some (.inl v2), some (.inl v3), none, none], [.inl v3, .inr (.inr 61)], g) rfl ?_
      refine ec 13 18 [.inr (.inr 61), .inl v3] [] rfl (ev_Row_at rfl rfl _ _) ?_
      show Ev 141 18 [some (.inr (.inr 60)), some (.inl c1), some (.inl v2), some (.inl v3), none, none] [.inl (rat g 62 6 v3)] g _ _
      refine ev_runs 5 (18, [some (.inr (.inr 60)), some (.inl c1), some (.inl v2), some (.inl v3), none, none], [.inl (rat g 62 6 v3)], g) (27, [some (.inr (.inr 60)), some (.inl c1), some (.inl v2), some (.inl v3), some (.inl (rat g 62 6 v3)), none], [.inl c1, .inr (.inr 33), .inl (rat g 62 6 v3)], g) rfl ?_
      refine ec 84 30 [.inr (.inr 33), .inl c1] [.inl (rat g 62 6 v3)] rfl (ev_Hi_length c1 g _ rfl) ?_
      show Ev 141 30 [some (.inr (.inr 60)), some (.inl c1), some (.inl v2), some (.inl v3), some (.inl (rat g 62 6 v3)), none] [.inl (Hi_length c1 g), .inl (rat g 62 6 v3)] g _ _
      by_cases hc : (Hi_length c1 g) ≤ (rat g 62 6 v3)
      · rw [if_pos hc] at h
        refine es (74, [some (.inr (.inr 60)), some (.inl c1), some (.inl v2), some (.inl v3), some (.inl (rat g 62 6 v3)), none], [], g) (congrArg some (if_pos hc)) ?_
        refine ev_runs 2 (74, [some (.inr (.inr 60)), some (.inl c1), some (.inl v2), some (.inl v3), some (.inl (rat g 62 6 v3)), none], [], g) (4, [some (.inr (.inr 60)), some (.inl c1), some (.inl v2), some (.inl (wr (v3 + 1))), some (.inl (rat g 62 6 v3)), none], [], g) rfl ?_
        exact ev_le (L := [some (.inr (.inr 60)), some (.inl c1), some (.inl v2), some (.inl (wr (v3 + 1))), none, none]) (by simp [Lle]) (ih4 v2 (wr (v3 + 1)) g r g' h)
      · rw [if_neg hc] at h
        refine es (33, [some (.inr (.inr 60)), some (.inl c1), some (.inl v2), some (.inl v3), some (.inl (rat g 62 6 v3)), none], [], g) (congrArg some (if_neg hc)) ?_
        refine ev_runs 4 (33, [some (.inr (.inr 60)), some (.inl c1), some (.inl v2), some (.inl v3), some (.inl (rat g 62 6 v3)), none], [], g) (40, [some (.inr (.inr 60)), some (.inl c1), some (.inl v2), some (.inl v3), some (.inl (rat g 62 6 v3)), none], [.inl (rat g 62 6 v3), .inl c1, .inr (.inr 33)], g) rfl ?_
        refine ec 85 43 [.inr (.inr 33), .inl c1, .inl (rat g 62 6 v3)] [] rfl (ev_Hi_word c1 (rat g 62 6 v3) g _ rfl) ?_
        show Ev 141 43 [some (.inr (.inr 60)), some (.inl c1), some (.inl v2), some (.inl v3), some (.inl (rat g 62 6 v3)), none] [.inl (Hi_word c1 (rat g 62 6 v3) g)] g _ _
        refine ec 92 46 [.inl (Hi_word c1 (rat g 62 6 v3) g)] [] rfl (ev_Op_sayer (Hi_word c1 (rat g 62 6 v3) g) g _ rfl) ?_
        show Ev 141 46 [some (.inr (.inr 60)), some (.inl c1), some (.inl v2), some (.inl v3), some (.inl (rat g 62 6 v3)), none] [.inl (Op_sayer (Hi_word c1 (rat g 62 6 v3) g))] g _ _
        refine ev_runs 3 (46, [some (.inr (.inr 60)), some (.inl c1), some (.inl v2), some (.inl v3), some (.inl (rat g 62 6 v3)), none], [.inl (Op_sayer (Hi_word c1 (rat g 62 6 v3) g))], g) (51, [some (.inr (.inr 60)), some (.inl c1), some (.inl v2), some (.inl v3), some (.inl (rat g 62 6 v3)), some (.inl (Op_sayer (Hi_word c1 (rat g 62 6 v3) g)))], [.inl v3, .inl (Op_sayer (Hi_word c1 (rat g 62 6 v3) g))], g) rfl ?_
        by_cases hc : (Op_sayer (Hi_word c1 (rat g 62 6 v3) g)) = v3
        · rw [if_pos hc] at h
          refine es (68, [some (.inr (.inr 60)), some (.inl c1), some (.inl v2), some (.inl v3), some (.inl (rat g 62 6 v3)), some (.inl (Op_sayer (Hi_word c1 (rat g 62 6 v3) g)))], [], g) (congrArg some (if_pos hc)) ?_
          refine ev_runs 8 (68, [some (.inr (.inr 60)), some (.inl c1), some (.inl v2), some (.inl v3), some (.inl (rat g 62 6 v3)), some (.inl (Op_sayer (Hi_word c1 (rat g 62 6 v3) g)))], [], g) (4, [some (.inr (.inr 60)), some (.inl c1), some (.inl (jor v2 (jshl 1 v3))), some (.inl (wr (v3 + 1))), some (.inl (rat g 62 6 v3)), some (.inl (Op_sayer (Hi_word c1 (rat g 62 6 v3) g)))], [], g) rfl ?_
          exact ev_le (L := [some (.inr (.inr 60)), some (.inl c1), some (.inl (jor v2 (jshl 1 v3))), some (.inl (wr (v3 + 1))), none, none]) (by simp [Lle]) (ih4 (jor v2 (jshl 1 v3)) (wr (v3 + 1)) g r g' h)
        · rw [if_neg hc] at h
          refine es (54, [some (.inr (.inr 60)), some (.inl c1), some (.inl v2), some (.inl v3), some (.inl (rat g 62 6 v3)), some (.inl (Op_sayer (Hi_word c1 (rat g 62 6 v3) g)))], [], g) (congrArg some (if_neg hc)) ?_
          refine ev_runs 3 (54, [some (.inr (.inr 60)), some (.inl c1), some (.inl v2), some (.inl v3), some (.inl (rat g 62 6 v3)), some (.inl (Op_sayer (Hi_word c1 (rat g 62 6 v3) g)))], [], g) (60, [some (.inr (.inr 60)), some (.inl c1), some (.inl v2), some (.inl v3), some (.inl (rat g 62 6 v3)), some (.inl (Op_sayer (Hi_word c1 (rat g 62 6 v3) g)))], [.inl (Op_sayer (Hi_word c1 (rat g 62 6 v3) g)), .inr (.inr 61)], g) rfl ?_
          refine ec 13 63 [.inr (.inr 61), .inl (Op_sayer (Hi_word c1 (rat g 62 6 v3) g))] [] rfl (ev_Row_at rfl rfl _ _) ?_
          show Ev 141 63 [some (.inr (.inr 60)), some (.inl c1), some (.inl v2), some (.inl v3), some (.inl (rat g 62 6 v3)), some (.inl (Op_sayer (Hi_word c1 (rat g 62 6 v3) g)))] [.inl (rat g 62 6 (Op_sayer (Hi_word c1 (rat g 62 6 v3) g)))] g _ _
          refine ev_runs 1 (63, [some (.inr (.inr 60)), some (.inl c1), some (.inl v2), some (.inl v3), some (.inl (rat g 62 6 v3)), some (.inl (Op_sayer (Hi_word c1 (rat g 62 6 v3) g)))], [.inl (rat g 62 6 (Op_sayer (Hi_word c1 (rat g 62 6 v3) g)))], g) (65, [some (.inr (.inr 60)), some (.inl c1), some (.inl v2), some (.inl v3), some (.inl (rat g 62 6 v3)), some (.inl (Op_sayer (Hi_word c1 (rat g 62 6 v3) g)))], [.inl (rat g 62 6 v3), .inl (rat g 62 6 (Op_sayer (Hi_word c1 (rat g 62 6 v3) g)))], g) rfl ?_
          by_cases hc : (rat g 62 6 (Op_sayer (Hi_word c1 (rat g 62 6 v3) g))) ≤ (rat g 62 6 v3)
          · rw [if_pos hc] at h
            refine es (74, [some (.inr (.inr 60)), some (.inl c1), some (.inl v2), some (.inl v3), some (.inl (rat g 62 6 v3)), some (.inl (Op_sayer (Hi_word c1 (rat g 62 6 v3) g)))], [], g) (congrArg some (if_pos hc)) ?_
            refine ev_runs 2 (74, [some (.inr (.inr 60)), some (.inl c1), some (.inl v2), some (.inl v3), some (.inl (rat g 62 6 v3)), some (.inl (Op_sayer (Hi_word c1 (rat g 62 6 v3) g)))], [], g) (4, [some (.inr (.inr 60)), some (.inl c1), some (.inl v2), some (.inl (wr (v3 + 1))), some (.inl (rat g 62 6 v3)), some (.inl (Op_sayer (Hi_word c1 (rat g 62 6 v3) g)))], [], g) rfl ?_
            exact ev_le (L := [some (.inr (.inr 60)), some (.inl c1), some (.inl v2), some (.inl (wr (v3 + 1))), none, none]) (by simp [Lle]) (ih4 v2 (wr (v3 + 1)) g r g' h)
          · rw [if_neg hc] at h
            refine es (68, [some (.inr (.inr 60)), some (.inl c1), some (.inl v2), some (.inl v3), some (.inl (rat g 62 6 v3)), some (.inl (Op_sayer (Hi_word c1 (rat g 62 6 v3) g)))], [], g) (congrArg some (if_neg hc)) ?_
            refine ev_runs 8 (68, [some (.inr (.inr 60)), some (.inl c1), some (.inl v2), some (.inl v3), some (.inl (rat g 62 6 v3)), some (.inl (Op_sayer (Hi_word c1 (rat g 62 6 v3) g)))], [], g) (4, [some (.inr (.inr 60)), some (.inl c1), some (.inl (jor v2 (jshl 1 v3))), some (.inl (wr (v3 + 1))), some (.inl (rat g 62 6 v3)), some (.inl (Op_sayer (Hi_word c1 (rat g 62 6 v3) g)))], [], g) rfl ?_
            exact ev_le (L := [some (.inr (.inr 60)), some (.inl c1), some (.inl (jor v2 (jshl 1 v3))), some (.inl (wr (v3 + 1))), none, none]) (by simp [Lle]) (ih4 (jor v2 (jshl 1 v3)) (wr (v3 + 1)) g r g' h)
set_option maxRecDepth 100000 in
set_option maxHeartbeats 4000000 in
theorem ev_Rn_ableTalkers (a1 : Int) (g : Gx) (r : Int) (g' : Gx) (h : Rn_ableTalkers a1 g = some (r, g')) : Ev 141 0 [some (.inr (.inr 60)), some (.inl a1), none, none, none, none] [] g (some (.inl r)) g' := by
  rw [Rn_ableTalkers] at h
  refine ev_runs 4 (0, [some (.inr (.inr 60)), some (.inl a1), none, none, none, none], [], g) (4, [some (.inr (.inr 60)), some (.inl a1), some (.inl 0), some (.inl 0), none, none], [], g) rfl ?_
  refine ev_le (L := [some (.inr (.inr 60)), some (.inl a1), some (.inl 0), some (.inl 0), none, none]) (by simp [Lle]) ?_
  refine ev_Rn_ableTalkers_l4 a1 _ ?_ fu 0 0 g r g' h
  · intro x1 g2 r g' h
    refine ev_runs 1 (80, [none, none, some (.inl x1), none, none, none], [], g2) (81, [none, none, some (.inl x1), none, none, none], [.inl x1], g2) rfl ?_
    cases h
    exact er rfl
def Rn_pick_l4 (c0 : Int) (K4_33 : Gx → Option (Int × Gx)) : Nat → Int → Int → Gx → Option (Int × Gx)
  | 0, _, _, _ => none
  | n4 + 1, v2, v3, g =>
    if 6 ≤ v3 then
      K4_33 g
    else
      if (Op_has c0 v3) = 0 then
        Rn_pick_l4 c0 K4_33 n4 v2 (wr (v3 + 1)) g
      else
        if ¬ v2 = 0 then
          Rn_pick_l4 c0 K4_33 n4 (wr (v2 + (-1))) (wr (v3 + 1)) g
        else
          some (v3, g)
def Rn_pick (a0 a1 : Int) (g : Gx) : Option (Int × Gx) :=
  Rn_pick_l4 a0
    (fun g1 =>
      some ((-1), g1))
    fu a1 0 g
set_option maxRecDepth 100000 in
set_option maxHeartbeats 4000000 in
theorem ev_Rn_pick_l4 (c0 : Int) (K4_33 : Gx → Option (Int × Gx)) (hK4_33 : ∀ (g : Gx) (r : Int) (g' : Gx), K4_33 g = some (r, g') → Ev 142 33 [none, none, none, none] [] g (some (.inl r)) g') : ∀ (n4 : Nat) (v2 v3 : Int) (g : Gx) (r : Int) (g' : Gx), Rn_pick_l4 c0 K4_33 n4 v2 v3 g = some (r, g') → Ev 142 4 [some (.inl c0), none, some (.inl v2), some (.inl v3)] [] g (some (.inl r)) g' := by
  intro n4
  induction n4 with
  | zero => intro v2 v3 g r g' h; cases h
  | succ n4 ih4 =>
    intro v2 v3 g r g' h
    rw [Rn_pick_l4] at h
    refine ev_runs 2 (4, [some (.inl c0), none, some (.inl v2), some (.inl v3)], [], g) (7, [some (.inl c0), none, some (.inl v2), some (.inl v3)], [.inl 6, .inl v3], g) rfl ?_
    by_cases hc : 6 ≤ v3
    · rw [if_pos hc] at h
      refine es (33, [some (.inl c0), none, some (.inl v2), some (.inl v3)], [], g) (congrArg some (if_pos hc)) ?_
      exact ev_le (L := [none, none, none, none]) (by simp [Lle]) (hK4_33 g r g' h)
    · rw [if_neg hc] at h
      refine es (10, [some (.inl c0), none, some (.inl v2), some (.inl v3)], [], g) (congrArg some (if_neg hc)) ?_
      refine ev_runs 2 (10, [some (.inl c0), none, some (.inl v2), some (.inl v3)], [], g) (12, [some (.inl c0), none, some (.inl v2), some (.inl v3)], [.inl v3, .inl c0], g) rfl ?_
      refine ec 64 15 [.inl c0, .inl v3] [] rfl (ev_Op_has c0 v3 g _ rfl) ?_
      show Ev 142 15 [some (.inl c0), none, some (.inl v2), some (.inl v3)] [.inl (Op_has c0 v3)] g _ _
      by_cases hc : (Op_has c0 v3) = 0
      · rw [if_pos hc] at h
        refine es (27, [some (.inl c0), none, some (.inl v2), some (.inl v3)], [], g) (congrArg some (if_pos hc)) ?_
        refine ev_runs 2 (27, [some (.inl c0), none, some (.inl v2), some (.inl v3)], [], g) (4, [some (.inl c0), none, some (.inl v2), some (.inl (wr (v3 + 1)))], [], g) rfl ?_
        exact ev_le (L := [some (.inl c0), none, some (.inl v2), some (.inl (wr (v3 + 1)))]) (by simp [Lle]) (ih4 v2 (wr (v3 + 1)) g r g' h)
      · rw [if_neg hc] at h
        refine es (18, [some (.inl c0), none, some (.inl v2), some (.inl v3)], [], g) (congrArg some (if_neg hc)) ?_
        refine ev_runs 1 (18, [some (.inl c0), none, some (.inl v2), some (.inl v3)], [], g) (19, [some (.inl c0), none, some (.inl v2), some (.inl v3)], [.inl v2], g) rfl ?_
        by_cases hc : ¬ v2 = 0
        · rw [if_pos hc] at h
          refine es (24, [some (.inl c0), none, some (.inl v2), some (.inl v3)], [], g) (congrArg some (if_pos hc)) ?_
          refine ev_runs 3 (24, [some (.inl c0), none, some (.inl v2), some (.inl v3)], [], g) (4, [some (.inl c0), none, some (.inl (wr (v2 + (-1)))), some (.inl (wr (v3 + 1)))], [], g) rfl ?_
          exact ev_le (L := [some (.inl c0), none, some (.inl (wr (v2 + (-1)))), some (.inl (wr (v3 + 1)))]) (by simp [Lle]) (ih4 (wr (v2 + (-1))) (wr (v3 + 1)) g r g' h)
        · rw [if_neg hc] at h
          refine es (22, [some (.inl c0), none, some (.inl v2), some (.inl v3)], [], g) (congrArg some (if_neg hc)) ?_
          refine ev_runs 1 (22, [some (.inl c0), none, some (.inl v2), some (.inl v3)], [], g) (23, [some (.inl c0), none, some (.inl v2), some (.inl v3)], [.inl v3], g) rfl ?_
          cases h
          exact er rfl
set_option maxRecDepth 100000 in
set_option maxHeartbeats 4000000 in
theorem ev_Rn_pick (a0 a1 : Int) (g : Gx) (r : Int) (g' : Gx) (h : Rn_pick a0 a1 g = some (r, g')) : Ev 142 0 [some (.inl a0), some (.inl a1), none, none] [] g (some (.inl r)) g' := by
  rw [Rn_pick] at h
  refine ev_runs 4 (0, [some (.inl a0), some (.inl a1), none, none], [], g) (4, [some (.inl a0), some (.inl a1), some (.inl a1), some (.inl 0)], [], g) rfl ?_
  refine ev_le (L := [some (.inl a0), none, some (.inl a1), some (.inl 0)]) (by simp [Lle]) ?_
  refine ev_Rn_pick_l4 a0 _ ?_ fu a1 0 g r g' h
  · intro g1 r g' h
    refine ev_runs 1 (33, [none, none, none, none], [], g1) (34, [none, none, none, none], [.inl (-1)], g1) rfl ?_
    cases h
    exact er rfl
def Rn_act (a1 a2 : Int) (g : Gx) : Option Gx :=
  lett (if ¬ (Op_sayer (Hi_word a1 (rat g 62 6 a2) g)) = a2 then (-1) else 1) (fun y1 =>
  Option.bind (Rn_nextPlace a1 a2 (wr ((rat g 62 6 a2) + 1)) (gset (radd g 64 36 (wr ((wr ((Op_sayer (Hi_word a1 (rat g 62 6 a2) g)) * 6)) + (Op_getter (Hi_word a1 (rat g 62 6 a2) g)))) y1) 60 6 (imax (g 60 6) (rat (radd g 64 36 (wr ((wr ((Op_sayer (Hi_word a1 (rat g 62 6 a2) g)) * 6)) + (Op_getter (Hi_word a1 (rat g 62 6 a2) g)))) y1) 64 36 (wr ((wr ((Op_sayer (Hi_word a1 (rat g 62 6 a2) g)) * 6)) + (Op_getter (Hi_word a1 (rat g 62 6 a2) g)))))))) (fun q2 =>
  some (rset q2.2 62 6 a2 q2.1)))
set_option maxRecDepth 100000 in
set_option maxHeartbeats 4000000 in
theorem ev_Rn_act (a1 a2 : Int) (g : Gx) (g' : Gx) (h : Rn_act a1 a2 g = some g') : Ev 143 0 [some (.inr (.inr 60)), some (.inl a1), some (.inl a2), none, none, none] [] g none g' := by
  rw [Rn_act] at h
  refine ev_runs 3 (0, [some (.inr (.inr 60)), some (.inl a1), some (.inl a2), none, none, none], [], g) (5, [some (.inr (.inr 60)), some (.inl a1), some (.inl a2), none, none, none], [.inl a2, .inr (.inr 61)], g) rfl ?_
  refine ec 13 8 [.inr (.inr 61), .inl a2] [] rfl (ev_Row_at rfl rfl _ _) ?_
  show Ev 143 8 [some (.inr (.inr 60)), some (.inl a1), some (.inl a2), none, none, none] [.inl (rat g 62 6 a2)] g _ _
  refine ev_runs 5 (8, [some (.inr (.inr 60)), some (.inl a1), some (.inl a2), none, none, none], [.inl (rat g 62 6 a2)], g) (15, [some (.inr (.inr 60)), some (.inl a1), some (.inl a2), some (.inl (rat g 62 6 a2)), none, none], [.inl (rat g 62 6 a2), .inl a1, .inr (.inr 33)], g) rfl ?_
  refine ec 85 18 [.inr (.inr 33), .inl a1, .inl (rat g 62 6 a2)] [] rfl (ev_Hi_word a1 (rat g 62 6 a2) g _ rfl) ?_
  show Ev 143 18 [some (.inr (.inr 60)), some (.inl a1), some (.inl a2), some (.inl (rat g 62 6 a2)), none, none] [.inl (Hi_word a1 (rat g 62 6 a2) g)] g _ _
  refine ev_runs 2 (18, [some (.inr (.inr 60)), some (.inl a1), some (.inl a2), some (.inl (rat g 62 6 a2)), none, none], [.inl (Hi_word a1 (rat g 62 6 a2) g)], g) (22, [some (.inr (.inr 60)), some (.inl a1), some (.inl a2), some (.inl (rat g 62 6 a2)), some (.inl (Hi_word a1 (rat g 62 6 a2) g)), none], [.inl (Hi_word a1 (rat g 62 6 a2) g)], g) rfl ?_
  refine ec 92 25 [.inl (Hi_word a1 (rat g 62 6 a2) g)] [] rfl (ev_Op_sayer (Hi_word a1 (rat g 62 6 a2) g) g _ rfl) ?_
  show Ev 143 25 [some (.inr (.inr 60)), some (.inl a1), some (.inl a2), some (.inl (rat g 62 6 a2)), some (.inl (Hi_word a1 (rat g 62 6 a2) g)), none] [.inl (Op_sayer (Hi_word a1 (rat g 62 6 a2) g))] g _ _
  refine ev_runs 3 (25, [some (.inr (.inr 60)), some (.inl a1), some (.inl a2), some (.inl (rat g 62 6 a2)), some (.inl (Hi_word a1 (rat g 62 6 a2) g)), none], [.inl (Op_sayer (Hi_word a1 (rat g 62 6 a2) g))], g) (30, [some (.inr (.inr 60)), some (.inl a1), some (.inl a2), some (.inl (rat g 62 6 a2)), some (.inl (Hi_word a1 (rat g 62 6 a2) g)), none], [.inl (Hi_word a1 (rat g 62 6 a2) g), .inl (wr ((Op_sayer (Hi_word a1 (rat g 62 6 a2) g)) * 6))], g) rfl ?_
  refine ec 93 33 [.inl (Hi_word a1 (rat g 62 6 a2) g)] [.inl (wr ((Op_sayer (Hi_word a1 (rat g 62 6 a2) g)) * 6))] rfl (ev_Op_getter (Hi_word a1 (rat g 62 6 a2) g) g _ rfl) ?_
  show Ev 143 33 [some (.inr (.inr 60)), some (.inl a1), some (.inl a2), some (.inl (rat g 62 6 a2)), some (.inl (Hi_word a1 (rat g 62 6 a2) g)), none] [.inl (Op_getter (Hi_word a1 (rat g 62 6 a2) g)), .inl (wr ((Op_sayer (Hi_word a1 (rat g 62 6 a2) g)) * 6))] g _ _
  refine ev_runs 6 (33, [some (.inr (.inr 60)), some (.inl a1), some (.inl a2), some (.inl (rat g 62 6 a2)), some (.inl (Hi_word a1 (rat g 62 6 a2) g)), none], [.inl (Op_getter (Hi_word a1 (rat g 62 6 a2) g)), .inl (wr ((Op_sayer (Hi_word a1 (rat g 62 6 a2) g)) * 6))], g) (44, [some (.inr (.inr 60)), some (.inl a1), some (.inl a2), some (.inl (rat g 62 6 a2)), some (.inl (Hi_word a1 (rat g 62 6 a2) g)), some (.inl (wr ((wr ((Op_sayer (Hi_word a1 (rat g 62 6 a2) g)) * 6)) + (Op_getter (Hi_word a1 (rat g 62 6 a2) g)))))], [.inl (Hi_word a1 (rat g 62 6 a2) g), .inl (wr ((wr ((Op_sayer (Hi_word a1 (rat g 62 6 a2) g)) * 6)) + (Op_getter (Hi_word a1 (rat g 62 6 a2) g)))), .inr (.inr 63)], g) rfl ?_
  refine ec 92 47 [.inl (Hi_word a1 (rat g 62 6 a2) g)] [.inl (wr ((wr ((Op_sayer (Hi_word a1 (rat g 62 6 a2) g)) * 6)) + (Op_getter (Hi_word a1 (rat g 62 6 a2) g)))), .inr (.inr 63)] rfl (ev_Op_sayer (Hi_word a1 (rat g 62 6 a2) g) g _ rfl) ?_
  show Ev 143 47 [some (.inr (.inr 60)), some (.inl a1), some (.inl a2), some (.inl (rat g 62 6 a2)), some (.inl (Hi_word a1 (rat g 62 6 a2) g)), some (.inl (wr ((wr ((Op_sayer (Hi_word a1 (rat g 62 6 a2) g)) * 6)) + (Op_getter (Hi_word a1 (rat g 62 6 a2) g)))))] [.inl (Op_sayer (Hi_word a1 (rat g 62 6 a2) g)), .inl (wr ((wr ((Op_sayer (Hi_word a1 (rat g 62 6 a2) g)) * 6)) + (Op_getter (Hi_word a1 (rat g 62 6 a2) g)))), .inr (.inr 63)] g _ _
  refine ev_runs 1 (47, [some (.inr (.inr 60)), some (.inl a1), some (.inl a2), some (.inl (rat g 62 6 a2)), some (.inl (Hi_word a1 (rat g 62 6 a2) g)), some (.inl (wr ((wr ((Op_sayer (Hi_word a1 (rat g 62 6 a2) g)) * 6)) + (Op_getter (Hi_word a1 (rat g 62 6 a2) g)))))], [.inl (Op_sayer (Hi_word a1 (rat g 62 6 a2) g)), .inl (wr ((wr ((Op_sayer (Hi_word a1 (rat g 62 6 a2) g)) * 6)) + (Op_getter (Hi_word a1 (rat g 62 6 a2) g)))), .inr (.inr 63)], g) (48, [some (.inr (.inr 60)), some (.inl a1), some (.inl a2), some (.inl (rat g 62 6 a2)), some (.inl (Hi_word a1 (rat g 62 6 a2) g)), some (.inl (wr ((wr ((Op_sayer (Hi_word a1 (rat g 62 6 a2) g)) * 6)) + (Op_getter (Hi_word a1 (rat g 62 6 a2) g)))))], [.inl a2, .inl (Op_sayer (Hi_word a1 (rat g 62 6 a2) g)), .inl (wr ((wr ((Op_sayer (Hi_word a1 (rat g 62 6 a2) g)) * 6)) + (Op_getter (Hi_word a1 (rat g 62 6 a2) g)))), .inr (.inr 63)], g) rfl ?_
  obtain ⟨y1, hy1, h⟩ := lett_inv h
  have hjy1 : Ev 143 56 [some (.inr (.inr 60)), some (.inl a1), some (.inl a2), some (.inl (rat g 62 6 a2)), none, some (.inl (wr ((wr ((Op_sayer (Hi_word a1 (rat g 62 6 a2) g)) * 6)) + (Op_getter (Hi_word a1 (rat g 62 6 a2) g)))))] [.inl y1, .inl (wr ((wr ((Op_sayer (Hi_word a1 (rat g 62 6 a2) g)) * 6)) + (Op_getter (Hi_word a1 (rat g 62 6 a2) g)))), .inr (.inr 63)] g none g' := by
    refine ec 22 59 [.inr (.inr 63), .inl (wr ((wr ((Op_sayer (Hi_word a1 (rat g 62 6 a2) g)) * 6)) + (Op_getter (Hi_word a1 (rat g 62 6 a2) g)))), .inl y1] [] rfl (ev_Row_add rfl rfl _ _ _) ?_
    show Ev 143 59 [some (.inr (.inr 60)), some (.inl a1), some (.inl a2), some (.inl (rat g 62 6 a2)), none, some (.inl (wr ((wr ((Op_sayer (Hi_word a1 (rat g 62 6 a2) g)) * 6)) + (Op_getter (Hi_word a1 (rat g 62 6 a2) g)))))] [] (radd g 64 36 (wr ((wr ((Op_sayer (Hi_word a1 (rat g 62 6 a2) g)) * 6)) + (Op_getter (Hi_word a1 (rat g 62 6 a2) g)))) y1) _ _
    refine ev_runs 6 (59, [some (.inr (.inr 60)), some (.inl a1), some (.inl a2), some (.inl (rat g 62 6 a2)), none, some (.inl (wr ((wr ((Op_sayer (Hi_word a1 (rat g 62 6 a2) g)) * 6)) + (Op_getter (Hi_word a1 (rat g 62 6 a2) g)))))], [], (radd g 64 36 (wr ((wr ((Op_sayer (Hi_word a1 (rat g 62 6 a2) g)) * 6)) + (Op_getter (Hi_word a1 (rat g 62 6 a2) g)))) y1)) (70, [some (.inr (.inr 60)), some (.inl a1), some (.inl a2), some (.inl (rat g 62 6 a2)), none, some (.inl (wr ((wr ((Op_sayer (Hi_word a1 (rat g 62 6 a2) g)) * 6)) + (Op_getter (Hi_word a1 (rat g 62 6 a2) g)))))], [.inl (wr ((wr ((Op_sayer (Hi_word a1 (rat g 62 6 a2) g)) * 6)) + (Op_getter (Hi_word a1 (rat g 62 6 a2) g)))), .inr (.inr 63), .inl (g 60 6), .inr (.inr 60)], (radd g 64 36 (wr ((wr ((Op_sayer (Hi_word a1 (rat g 62 6 a2) g)) * 6)) + (Op_getter (Hi_word a1 (rat g 62 6 a2) g)))) y1)) rfl ?_
    refine ec 13 73 [.inr (.inr 63), .inl (wr ((wr ((Op_sayer (Hi_word a1 (rat g 62 6 a2) g)) * 6)) + (Op_getter (Hi_word a1 (rat g 62 6 a2) g))))] [.inl (g 60 6), .inr (.inr 60)] rfl (ev_Row_at rfl rfl _ _) ?_
    show Ev 143 73 [some (.inr (.inr 60)), some (.inl a1), some (.inl a2), some (.inl (rat g 62 6 a2)), none, some (.inl (wr ((wr ((Op_sayer (Hi_word a1 (rat g 62 6 a2) g)) * 6)) + (Op_getter (Hi_word a1 (rat g 62 6 a2) g)))))] [.inl (rat (radd g 64 36 (wr ((wr ((Op_sayer (Hi_word a1 (rat g 62 6 a2) g)) * 6)) + (Op_getter (Hi_word a1 (rat g 62 6 a2) g)))) y1) 64 36 (wr ((wr ((Op_sayer (Hi_word a1 (rat g 62 6 a2) g)) * 6)) + (Op_getter (Hi_word a1 (rat g 62 6 a2) g))))), .inl (g 60 6), .inr (.inr 60)] (radd g 64 36 (wr ((wr ((Op_sayer (Hi_word a1 (rat g 62 6 a2) g)) * 6)) + (Op_getter (Hi_word a1 (rat g 62 6 a2) g)))) y1) _ _
    refine ev_runs 11 (73, [some (.inr (.inr 60)), some (.inl a1), some (.inl a2), some (.inl (rat g 62 6 a2)), none, some (.inl (wr ((wr ((Op_sayer (Hi_word a1 (rat g 62 6 a2) g)) * 6)) + (Op_getter (Hi_word a1 (rat g 62 6 a2) g)))))], [.inl (rat (radd g 64 36 (wr ((wr ((Op_sayer (Hi_word a1 (rat g 62 6 a2) g)) * 6)) + (Op_getter (Hi_word a1 (rat g 62 6 a2) g)))) y1) 64 36 (wr ((wr ((Op_sayer (Hi_word a1 (rat g 62 6 a2) g)) * 6)) + (Op_getter (Hi_word a1 (rat g 62 6 a2) g))))), .inl (g 60 6), .inr (.inr 60)], (radd g 64 36 (wr ((wr ((Op_sayer (Hi_word a1 (rat g 62 6 a2) g)) * 6)) + (Op_getter (Hi_word a1 (rat g 62 6 a2) g)))) y1)) (90, [some (.inr (.inr 60)), some (.inl a1), some (.inl a2), some (.inl (rat g 62 6 a2)), none, some (.inl (wr ((wr ((Op_sayer (Hi_word a1 (rat g 62 6 a2) g)) * 6)) + (Op_getter (Hi_word a1 (rat g 62 6 a2) g)))))], [.inl (wr ((rat g 62 6 a2) + 1)), .inl a2, .inl a1, .inr (.inr 60), .inl a2, .inr (.inr 61)], (gset (radd g 64 36 (wr ((wr ((Op_sayer (Hi_word a1 (rat g 62 6 a2) g)) * 6)) + (Op_getter (Hi_word a1 (rat g 62 6 a2) g)))) y1) 60 6 (imax (g 60 6) (rat (radd g 64 36 (wr ((wr ((Op_sayer (Hi_word a1 (rat g 62 6 a2) g)) * 6)) + (Op_getter (Hi_word a1 (rat g 62 6 a2) g)))) y1) 64 36 (wr ((wr ((Op_sayer (Hi_word a1 (rat g 62 6 a2) g)) * 6)) + (Op_getter (Hi_word a1 (rat g 62 6 a2) g)))))))) rfl ?_
    obtain ⟨q2, hq, h⟩ := Option.bind_eq_some_iff.mp h
    refine ec 140 93 [.inr (.inr 60), .inl a1, .inl a2, .inl (wr ((rat g 62 6 a2) + 1))] [.inl a2, .inr (.inr 61)] rfl (ev_Rn_nextPlace a1 a2 (wr ((rat g 62 6 a2) + 1)) (gset (radd g 64 36 (wr ((wr ((Op_sayer (Hi_word a1 (rat g 62 6 a2) g)) * 6)) + (Op_getter (Hi_word a1 (rat g 62 6 a2) g)))) y1) 60 6 (imax (g 60 6) (rat (radd g 64 36 (wr ((wr ((Op_sayer (Hi_word a1 (rat g 62 6 a2) g)) * 6)) + (Op_getter (Hi_word a1 (rat g 62 6 a2) g)))) y1) 64 36 (wr ((wr ((Op_sayer (Hi_word a1 (rat g 62 6 a2) g)) * 6)) + (Op_getter (Hi_word a1 (rat g 62 6 a2) g))))))) q2.1 q2.2 hq) ?_
    show Ev 143 93 [some (.inr (.inr 60)), some (.inl a1), some (.inl a2), some (.inl (rat g 62 6 a2)), none, some (.inl (wr ((wr ((Op_sayer (Hi_word a1 (rat g 62 6 a2) g)) * 6)) + (Op_getter (Hi_word a1 (rat g 62 6 a2) g)))))] [.inl q2.1, .inl a2, .inr (.inr 61)] q2.2 _ _
    refine ec 0 96 [.inr (.inr 61), .inl a2, .inl q2.1] [] rfl (ev_Row_set rfl rfl _ _ _) ?_
    show Ev 143 96 [some (.inr (.inr 60)), some (.inl a1), some (.inl a2), some (.inl (rat g 62 6 a2)), none, some (.inl (wr ((wr ((Op_sayer (Hi_word a1 (rat g 62 6 a2) g)) * 6)) + (Op_getter (Hi_word a1 (rat g 62 6 a2) g)))))] [] (rset q2.2 62 6 a2 q2.1) _ _
    cases h
    exact er rfl
  by_cases hc : ¬ (Op_sayer (Hi_word a1 (rat g 62 6 a2) g)) = a2
  · rw [if_pos hc] at hy1
    refine es (55, [some (.inr (.inr 60)), some (.inl a1), some (.inl a2), some (.inl (rat g 62 6 a2)), some (.inl (Hi_word a1 (rat g 62 6 a2) g)), some (.inl (wr ((wr ((Op_sayer (Hi_word a1 (rat g 62 6 a2) g)) * 6)) + (Op_getter (Hi_word a1 (rat g 62 6 a2) g)))))], [.inl (wr ((wr ((Op_sayer (Hi_word a1 (rat g 62 6 a2) g)) * 6)) + (Op_getter (Hi_word a1 (rat g 62 6 a2) g)))), .inr (.inr 63)], g) (congrArg some (if_pos hc)) ?_
    refine ev_runs 1 (55, [some (.inr (.inr 60)), some (.inl a1), some (.inl a2), some (.inl (rat g 62 6 a2)), some (.inl (Hi_word a1 (rat g 62 6 a2) g)), some (.inl (wr ((wr ((Op_sayer (Hi_word a1 (rat g 62 6 a2) g)) * 6)) + (Op_getter (Hi_word a1 (rat g 62 6 a2) g)))))], [.inl (wr ((wr ((Op_sayer (Hi_word a1 (rat g 62 6 a2) g)) * 6)) + (Op_getter (Hi_word a1 (rat g 62 6 a2) g)))), .inr (.inr 63)], g) (56, [some (.inr (.inr 60)), some (.inl a1), some (.inl a2), some (.inl (rat g 62 6 a2)), some (.inl (Hi_word a1 (rat g 62 6 a2) g)), some (.inl (wr ((wr ((Op_sayer (Hi_word a1 (rat g 62 6 a2) g)) * 6)) + (Op_getter (Hi_word a1 (rat g 62 6 a2) g)))))], [.inl (-1), .inl (wr ((wr ((Op_sayer (Hi_word a1 (rat g 62 6 a2) g)) * 6)) + (Op_getter (Hi_word a1 (rat g 62 6 a2) g)))), .inr (.inr 63)], g) rfl ?_
    rw [hy1] at hjy1
    exact ev_le (L := [some (.inr (.inr 60)), some (.inl a1), some (.inl a2), some (.inl (rat g 62 6 a2)), none, some (.inl (wr ((wr ((Op_sayer (Hi_word a1 (rat g 62 6 a2) g)) * 6)) + (Op_getter (Hi_word a1 (rat g 62 6 a2) g)))))]) (by simp [Lle]) hjy1
  · rw [if_neg hc] at hy1
    refine es (51, [some (.inr (.inr 60)), some (.inl a1), some (.inl a2), some (.inl (rat g 62 6 a2)), some (.inl (Hi_word a1 (rat g 62 6 a2) g)), some (.inl (wr ((wr ((Op_sayer (Hi_word a1 (rat g 62 6 a2) g)) * 6)) + (Op_getter (Hi_word a1 (rat g 62 6 a2) g)))))], [.inl (wr ((wr ((Op_sayer (Hi_word a1 (rat g 62 6 a2) g)) * 6)) + (Op_getter (Hi_word a1 (rat g 62 6 a2) g)))), .inr (.inr 63)], g) (congrArg some (if_neg hc)) ?_
    refine ev_runs 2 (51, [some (.inr (.inr 60)), some (.inl a1), some (.inl a2), some (.inl (rat g 62 6 a2)), some (.inl (Hi_word a1 (rat g 62 6 a2) g)), some (.inl (wr ((wr ((Op_sayer (Hi_word a1 (rat g 62 6 a2) g)) * 6)) + (Op_getter (Hi_word a1 (rat g 62 6 a2) g)))))], [.inl (wr ((wr ((Op_sayer (Hi_word a1 (rat g 62 6 a2) g)) * 6)) + (Op_getter (Hi_word a1 (rat g 62 6 a2) g)))), .inr (.inr 63)], g) (56, [some (.inr (.inr 60)), some (.inl a1), some (.inl a2), some (.inl (rat g 62 6 a2)), some (.inl (Hi_word a1 (rat g 62 6 a2) g)), some (.inl (wr ((wr ((Op_sayer (Hi_word a1 (rat g 62 6 a2) g)) * 6)) + (Op_getter (Hi_word a1 (rat g 62 6 a2) g)))))], [.inl 1, .inl (wr ((wr ((Op_sayer (Hi_word a1 (rat g 62 6 a2) g)) * 6)) + (Op_getter (Hi_word a1 (rat g 62 6 a2) g)))), .inr (.inr 63)], g) rfl ?_
    rw [hy1] at hjy1
    exact ev_le (L := [some (.inr (.inr 60)), some (.inl a1), some (.inl a2), some (.inl (rat g 62 6 a2)), none, some (.inl (wr ((wr ((Op_sayer (Hi_word a1 (rat g 62 6 a2) g)) * 6)) + (Op_getter (Hi_word a1 (rat g 62 6 a2) g)))))]) (by simp [Lle]) hjy1
def Rn_goByLots_l20 (c1 : Int) (c2 : Int) (K20_47 : Gx → Option Gx) : Nat → Int → Gx → Option Gx
  | 0, _, _ => none
  | n20 + 1, v3, g =>
    if 6 ≤ v3 then
      K20_47 g
    else
      Option.bind (Rn_nextPlace c1 v3 0 g) (fun q1 =>
      Rn_goByLots_l20 c1 c2 K20_47 n20 (wr (v3 + 1)) (rset q1.2 62 6 v3 q1.1))
def Rn_goByLots_l49 (c1 : Int) (K49_136 : Gx → Option Gx) : Nat → Int → Gx → Option Gx
  | 0, _, _ => none
  | n49 + 1, v3, g =>
    if 48 ≤ (g 60 5) then
      K49_136 g
    else
      Option.bind (Rn_ableTalkers c1 g) (fun q3 =>
      if ¬ (Ji_bitCount q3.1) = 0 then
        if (Ji_bitCount q3.1) = 0 then none else
        Option.bind (Rn_pick q3.1 (jrem (jushr (wr ((wr (1103515245 * v3)) + 12345)) 16) (Ji_bitCount q3.1)) q3.2) (fun q4 =>
        Option.bind (Rn_act c1 q4.1 q4.2) (fun g5 =>
        Rn_goByLots_l49 c1 K49_136 n49 (wr ((wr (1103515245 * v3)) + 12345)) (gset (rset g5 66 48 (g5 60 5) q4.1) 60 5 (wr ((g5 60 5) + 1)))))
      else
        K49_136 q3.2)
def Rn_goByLots (a1 a2 : Int) (g : Gx) : Option Gx :=
  Rn_goByLots_l20 a1 a2
    (fun g2 =>
      Rn_goByLots_l49 a1
        (fun g6 =>
          some g6)
        fu a2 g2)
    fu 0 (rfill (gset (gset g 60 5 0) 60 6 0) 64 36 0)
set_option maxRecDepth 100000 in
set_option maxHeartbeats 4000000 in
theorem ev_Rn_goByLots_l20 (c1 : Int) (c2 : Int) (K20_47 : Gx → Option Gx) (hK20_47 : ∀ (g : Gx) (g' : Gx), K20_47 g = some g' → Ev 144 47 [some (.inr (.inr 60)), some (.inl c1), some (.inl c2), none, none, none, none] [] g none g') : ∀ (n20 : Nat) (v3 : Int) (g : Gx) (g' : Gx), Rn_goByLots_l20 c1 c2 K20_47 n20 v3 g = some g' → Ev 144 20 [some (.inr (.inr 60)), some (.inl c1), some (.inl c2), some (.inl v3), none, none, none] [] g none g' := by
  intro n20
  induction n20 with
  | zero => intro v3 g g' h; cases h
  | succ n20 ih20 =>
    intro v3 g g' h
    rw [Rn_goByLots_l20] at h
    refine ev_runs 2 (20, [some (.inr (.inr 60)), some (.inl c1), some (.inl c2), some (.inl v3), none, none, none], [], g) (23, [some (.inr (.inr 60)), some (.inl c1), some (.inl c2), some (.inl v3), none, none, none], [.inl 6, .inl v3], g) rfl ?_
    by_cases hc : 6 ≤ v3
    · rw [if_pos hc] at h
      refine es (47, [some (.inr (.inr 60)), some (.inl c1), some (.inl c2), some (.inl v3), none, none, none], [], g) (congrArg some (if_pos hc)) ?_
      exact ev_le (L := [some (.inr (.inr 60)), some (.inl c1), some (.inl c2), none, none, none, none]) (by simp [Lle]) (hK20_47 g g' h)
    · rw [if_neg hc] at h
      refine es (26, [some (.inr (.inr 60)), some (.inl c1), some (.inl c2), some (.inl v3), none, none, none], [], g) (congrArg some (if_neg hc)) ?_
      refine ev_runs 7 (26, [some (.inr (.inr 60)), some (.inl c1), some (.inl c2), some (.inl v3), none, none, none], [], g) (35, [some (.inr (.inr 60)), some (.inl c1), some (.inl c2), some (.inl v3), none, none, none], [.inl 0, .inl v3, .inl c1, .inr (.inr 60), .inl v3, .inr (.inr 61)], g) rfl ?_
      obtain ⟨q1, hq, h⟩ := Option.bind_eq_some_iff.mp h
      refine ec 140 38 [.inr (.inr 60), .inl c1, .inl v3, .inl 0] [.inl v3, .inr (.inr 61)] rfl (ev_Rn_nextPlace c1 v3 0 g q1.1 q1.2 hq) ?_
      show Ev 144 38 [some (.inr (.inr 60)), some (.inl c1), some (.inl c2), some (.inl v3), none, none, none] [.inl q1.1, .inl v3, .inr (.inr 61)] q1.2 _ _
      refine ec 0 41 [.inr (.inr 61), .inl v3, .inl q1.1] [] rfl (ev_Row_set rfl rfl _ _ _) ?_
      show Ev 144 41 [some (.inr (.inr 60)), some (.inl c1), some (.inl c2), some (.inl v3), none, none, none] [] (rset q1.2 62 6 v3 q1.1) _ _
      refine ev_runs 2 (41, [some (.inr (.inr 60)), some (.inl c1), some (.inl c2), some (.inl v3), none, none, none], [], (rset q1.2 62 6 v3 q1.1)) (20, [some (.inr (.inr 60)), some (.inl c1), some (.inl c2), some (.inl (wr (v3 + 1))), none, none, none], [], (rset q1.2 62 6 v3 q1.1)) rfl ?_
      exact ev_le (L := [some (.inr (.inr 60)), some (.inl c1), some (.inl c2), some (.inl (wr (v3 + 1))), none, none, none]) (by simp [Lle]) (ih20 (wr (v3 + 1)) (rset q1.2 62 6 v3 q1.1) g' h)
set_option maxRecDepth 100000 in
set_option maxHeartbeats 4000000 in
theorem ev_Rn_goByLots_l49 (c1 : Int) (K49_136 : Gx → Option Gx) (hK49_136 : ∀ (g : Gx) (g' : Gx), K49_136 g = some g' → Ev 144 136 [none, none, none, none, none, none, none] [] g none g') : ∀ (n49 : Nat) (v3 : Int) (g : Gx) (g' : Gx), Rn_goByLots_l49 c1 K49_136 n49 v3 g = some g' → Ev 144 49 [some (.inr (.inr 60)), some (.inl c1), none, some (.inl v3), none, none, none] [] g none g' := by
  intro n49
  induction n49 with
  | zero => intro v3 g g' h; cases h
  | succ n49 ih49 =>
    intro v3 g g' h
    rw [Rn_goByLots_l49] at h
    refine ev_runs 3 (49, [some (.inr (.inr 60)), some (.inl c1), none, some (.inl v3), none, none, none], [], g) (55, [some (.inr (.inr 60)), some (.inl c1), none, some (.inl v3), none, none, none], [.inl 48, .inl (g 60 5)], g) rfl ?_
    by_cases hc : 48 ≤ (g 60 5)
    · rw [if_pos hc] at h
      refine es (136, [some (.inr (.inr 60)), some (.inl c1), none, some (.inl v3), none, none, none], [], g) (congrArg some (if_pos hc)) ?_
      exact ev_le (L := [none, none, none, none, none, none, none]) (by simp [Lle]) (hK49_136 g g' h)
    · rw [if_neg hc] at h
      refine es (58, [some (.inr (.inr 60)), some (.inl c1), none, some (.inl v3), none, none, none], [], g) (congrArg some (if_neg hc)) ?_
      refine ev_runs 2 (58, [some (.inr (.inr 60)), some (.inl c1), none, some (.inl v3), none, none, none], [], g) (60, [some (.inr (.inr 60)), some (.inl c1), none, some (.inl v3), none, none, none], [.inl c1, .inr (.inr 60)], g) rfl ?_
      obtain ⟨q3, hq, h⟩ := Option.bind_eq_some_iff.mp h
      refine ec 141 63 [.inr (.inr 60), .inl c1] [] rfl (ev_Rn_ableTalkers c1 g q3.1 q3.2 hq) ?_
      show Ev 144 63 [some (.inr (.inr 60)), some (.inl c1), none, some (.inl v3), none, none, none] [.inl q3.1] q3.2 _ _
      refine ev_runs 2 (63, [some (.inr (.inr 60)), some (.inl c1), none, some (.inl v3), none, none, none], [.inl q3.1], q3.2) (67, [some (.inr (.inr 60)), some (.inl c1), none, some (.inl v3), some (.inl q3.1), none, none], [.inl q3.1], q3.2) rfl ?_
      refine ec 58 70 [.inl q3.1] [] rfl (ev_Ji_bitCount q3.1 q3.2 _ rfl) ?_
      show Ev 144 70 [some (.inr (.inr 60)), some (.inl c1), none, some (.inl v3), some (.inl q3.1), none, none] [.inl (Ji_bitCount q3.1)] q3.2 _ _
      refine ev_runs 2 (70, [some (.inr (.inr 60)), some (.inl c1), none, some (.inl v3), some (.inl q3.1), none, none], [.inl (Ji_bitCount q3.1)], q3.2) (74, [some (.inr (.inr 60)), some (.inl c1), none, some (.inl v3), some (.inl q3.1), some (.inl (Ji_bitCount q3.1)), none], [.inl (Ji_bitCount q3.1)], q3.2) rfl ?_
      by_cases hc : ¬ (Ji_bitCount q3.1) = 0
      · rw [if_pos hc] at h
        refine es (80, [some (.inr (.inr 60)), some (.inl c1), none, some (.inl v3), some (.inl q3.1), some (.inl (Ji_bitCount q3.1)), none], [], q3.2) (congrArg some (if_pos hc)) ?_
        refine ev_runs 11 (80, [some (.inr (.inr 60)), some (.inl c1), none, some (.inl v3), some (.inl q3.1), some (.inl (Ji_bitCount q3.1)), none], [], q3.2) (97, [some (.inr (.inr 60)), some (.inl c1), none, some (.inl (wr ((wr (1103515245 * v3)) + 12345))), some (.inl q3.1), some (.inl (Ji_bitCount q3.1)), none], [.inl (Ji_bitCount q3.1), .inl (jushr (wr ((wr (1103515245 * v3)) + 12345)) 16), .inl q3.1], q3.2) rfl ?_
        by_cases hc : (Ji_bitCount q3.1) = 0
        · rw [if_pos hc] at h; cases h
        · rw [if_neg hc] at h
          refine es (98, [some (.inr (.inr 60)), some (.inl c1), none, some (.inl (wr ((wr (1103515245 * v3)) + 12345))), some (.inl q3.1), some (.inl (Ji_bitCount q3.1)), none], [.inl (jrem (jushr (wr ((wr (1103515245 * v3)) + 12345)) 16) (Ji_bitCount q3.1)), .inl q3.1], q3.2) (if_neg hc) ?_
          obtain ⟨q4, hq, h⟩ := Option.bind_eq_some_iff.mp h
          refine ec 142 101 [.inl q3.1, .inl (jrem (jushr (wr ((wr (1103515245 * v3)) + 12345)) 16) (Ji_bitCount q3.1))] [] rfl (ev_Rn_pick q3.1 (jrem (jushr (wr ((wr (1103515245 * v3)) + 12345)) 16) (Ji_bitCount q3.1)) q3.2 q4.1 q4.2 hq) ?_
          show Ev 144 101 [some (.inr (.inr 60)), some (.inl c1), none, some (.inl (wr ((wr (1103515245 * v3)) + 12345))), some (.inl q3.1), some (.inl (Ji_bitCount q3.1)), none] [.inl q4.1] q4.2 _ _
          refine ev_runs 4 (101, [some (.inr (.inr 60)), some (.inl c1), none, some (.inl (wr ((wr (1103515245 * v3)) + 12345))), some (.inl q3.1), some (.inl (Ji_bitCount q3.1)), none], [.inl q4.1], q4.2) (107, [some (.inr (.inr 60)), some (.inl c1), none, some (.inl (wr ((wr (1103515245 * v3)) + 12345))), some (.inl q3.1), some (.inl (Ji_bitCount q3.1)), some (.inl q4.1)], [.inl q4.1, .inl c1, .inr (.inr 60)], q4.2) rfl ?_
          obtain ⟨g5, hq, h⟩ := Option.bind_eq_some_iff.mp h
          refine ec 143 110 [.inr (.inr 60), .inl c1, .inl q4.1] [] rfl (ev_Rn_act c1 q4.1 q4.2 g5 hq) ?_
          show Ev 144 110 [some (.inr (.inr 60)), some (.inl c1), none, some (.inl (wr ((wr (1103515245 * v3)) + 12345))), some (.inl q3.1), some (.inl (Ji_bitCount q3.1)), some (.inl q4.1)] [] g5 _ _
          refine ev_runs 5 (110, [some (.inr (.inr 60)), some (.inl c1), none, some (.inl (wr ((wr (1103515245 * v3)) + 12345))), some (.inl q3.1), some (.inl (Ji_bitCount q3.1)), some (.inl q4.1)], [], g5) (120, [some (.inr (.inr 60)), some (.inl c1), none, some (.inl (wr ((wr (1103515245 * v3)) + 12345))), some (.inl q3.1), some (.inl (Ji_bitCount q3.1)), some (.inl q4.1)], [.inl q4.1, .inl (g5 60 5), .inr (.inr 65)], g5) rfl ?_
          refine ec 0 123 [.inr (.inr 65), .inl (g5 60 5), .inl q4.1] [] rfl (ev_Row_set rfl rfl _ _ _) ?_
          show Ev 144 123 [some (.inr (.inr 60)), some (.inl c1), none, some (.inl (wr ((wr (1103515245 * v3)) + 12345))), some (.inl q3.1), some (.inl (Ji_bitCount q3.1)), some (.inl q4.1)] [] (rset g5 66 48 (g5 60 5) q4.1) _ _
          refine ev_runs 7 (123, [some (.inr (.inr 60)), some (.inl c1), none, some (.inl (wr ((wr (1103515245 * v3)) + 12345))), some (.inl q3.1), some (.inl (Ji_bitCount q3.1)), some (.inl q4.1)], [], (rset g5 66 48 (g5 60 5) q4.1)) (49, [some (.inr (.inr 60)), some (.inl c1), none, some (.inl (wr ((wr (1103515245 * v3)) + 12345))), some (.inl q3.1), some (.inl (Ji_bitCount q3.1)), some (.inl q4.1)], [], (gset (rset g5 66 48 (g5 60 5) q4.1) 60 5 (wr ((g5 60 5) + 1)))) rfl ?_
          exact ev_le (L := [some (.inr (.inr 60)), some (.inl c1), none, some (.inl (wr ((wr (1103515245 * v3)) + 12345))), none, none, none]) (by simp [Lle]) (ih49 (wr ((wr (1103515245 * v3)) + 12345)) (gset (rset g5 66 48 (g5 60 5) q4.1) 60 5 (wr ((g5 60 5) + 1))) g' h)
      · rw [if_neg hc] at h
        refine es (77, [some (.inr (.inr 60)), some (.inl c1), none, some (.inl v3), some (.inl q3.1), some (.inl (Ji_bitCount q3.1)), none], [], q3.2) (congrArg some (if_neg hc)) ?_
        refine ev_runs 1 (77, [some (.inr (.inr 60)), some (.inl c1), none, some (.inl v3), some (.inl q3.1), some (.inl (Ji_bitCount q3.1)), none], [], q3.2) (136, [some (.inr (.inr 60)), some (.inl c1), none, some (.inl v3), some (.inl q3.1), some (.inl (Ji_bitCount q3.1)), none], [], q3.2) rfl ?_
        exact ev_le (L := [none, none, none, none, none, none, none]) (by simp [Lle]) (hK49_136 q3.2 g' h)
set_option maxRecDepth 100000 in
set_option maxHeartbeats 4000000 in
theorem ev_Rn_goByLots (a1 a2 : Int) (g : Gx) (g' : Gx) (h : Rn_goByLots a1 a2 g = some g') : Ev 144 0 [some (.inr (.inr 60)), some (.inl a1), some (.inl a2), none, none, none, none] [] g none g' := by
  rw [Rn_goByLots] at h
  refine ev_runs 9 (0, [some (.inr (.inr 60)), some (.inl a1), some (.inl a2), none, none, none, none], [], g) (15, [some (.inr (.inr 60)), some (.inl a1), some (.inl a2), none, none, none, none], [.inl 0, .inr (.inr 63)], (gset (gset g 60 5 0) 60 6 0)) rfl ?_
  refine ec 119 18 [.inr (.inr 63), .inl 0] [] rfl (ev_Row_fill rfl rfl (by decide) _ _) ?_
  show Ev 144 18 [some (.inr (.inr 60)), some (.inl a1), some (.inl a2), none, none, none, none] [] (rfill (gset (gset g 60 5 0) 60 6 0) 64 36 0) _ _
  refine ev_runs 2 (18, [some (.inr (.inr 60)), some (.inl a1), some (.inl a2), none, none, none, none], [], (rfill (gset (gset g 60 5 0) 60 6 0) 64 36 0)) (20, [some (.inr (.inr 60)), some (.inl a1), some (.inl a2), some (.inl 0), none, none, none], [], (rfill (gset (gset g 60 5 0) 60 6 0) 64 36 0)) rfl ?_
  refine ev_le (L := [some (.inr (.inr 60)), some (.inl a1), some (.inl a2), some (.inl 0), none, none, none]) (by simp [Lle]) ?_
  refine ev_Rn_goByLots_l20 a1 a2 _ ?_ fu 0 (rfill (gset (gset g 60 5 0) 60 6 0) 64 36 0) g' h
  · intro g2 g' h
    refine ev_runs 2 (47, [some (.inr (.inr 60)), some (.inl a1), some (.inl a2), none, none, none, none], [], g2) (49, [some (.inr (.inr 60)), some (.inl a1), some (.inl a2), some (.inl a2), none, none, none], [], g2) rfl ?_
    refine ev_le (L := [some (.inr (.inr 60)), some (.inl a1), none, some (.inl a2), none, none, none]) (by simp [Lle]) ?_
    refine ev_Rn_goByLots_l49 a1 _ ?_ fu a2 g2 g' h
    · intro g6 g' h
      cases h
      exact er rfl
def Rn_stepCount (g : Gx) : Int :=
  (g 60 5)
set_option maxRecDepth 100000 in
set_option maxHeartbeats 4000000 in
theorem ev_Rn_stepCount (g : Gx) (r : Int) (h : Rn_stepCount g = r) : Ev 145 0 [some (.inr (.inr 60))] [] g (some (.inl r)) g := by
  rw [Rn_stepCount] at h
  refine ev_runs 2 (0, [some (.inr (.inr 60))], [], g) (4, [some (.inr (.inr 60))], [.inl (g 60 5)], g) rfl ?_
  subst h
  exact er rfl
def Rn_longestQueue (g : Gx) : Int :=
  (g 60 6)
set_option maxRecDepth 100000 in
set_option maxHeartbeats 4000000 in
theorem ev_Rn_longestQueue (g : Gx) (r : Int) (h : Rn_longestQueue g = r) : Ev 146 0 [some (.inr (.inr 60))] [] g (some (.inl r)) g := by
  rw [Rn_longestQueue] at h
  refine ev_runs 2 (0, [some (.inr (.inr 60))], [], g) (4, [some (.inr (.inr 60))], [.inl (g 60 6)], g) rfl ?_
  subst h
  exact er rfl
def Op_run (a1 a2 a3 : Int) (g : Gx) : Option (Int × Gx) :=
  if (Op_isHistory a1) = 0 then
    some ((-2), g)
  else
    if a3 < 0 then
      some ((-2), g)
    else
      if a3 ≤ 1 then
        Option.bind (Op_hindrance a1 g) (fun q1 =>
        if q1.1 = 0 then
          Option.bind (Rn_goByLots a1 a2 q1.2) (fun g2 =>
          if ¬ a3 = 0 then
            some ((Rn_longestQueue g2), g2)
          else
            some ((Rn_stepCount g2), g2))
        else
          some (q1.1, q1.2))
      else
        some ((-2), g)
set_option maxRecDepth 100000 in
set_option maxHeartbeats 4000000 in
theorem ev_Op_run (a1 a2 a3 : Int) (g : Gx) (r : Int) (g' : Gx) (h : Op_run a1 a2 a3 g = some (r, g')) : Ev 147 0 [some (.inr (.inr 0)), some (.inl a1), some (.inl a2), some (.inl a3), none] [] g (some (.inl r)) g' := by
  rw [Op_run] at h
  refine ev_runs 1 (0, [some (.inr (.inr 0)), some (.inl a1), some (.inl a2), some (.inl a3), none], [], g) (1, [some (.inr (.inr 0)), some (.inl a1), some (.inl a2), some (.inl a3), none], [.inl a1], g) rfl ?_
  refine ec 83 4 [.inl a1] [] rfl (ev_Op_isHistory a1 g _ rfl) ?_
  show Ev 147 4 [some (.inr (.inr 0)), some (.inl a1), some (.inl a2), some (.inl a3), none] [.inl (Op_isHistory a1)] g _ _
  by_cases hc : (Op_isHistory a1) = 0
  · rw [if_pos hc] at h
    refine es (16, [some (.inr (.inr 0)), some (.inl a1), some (.inl a2), some (.inl a3), none], [], g) (congrArg some (if_pos hc)) ?_
    refine ev_runs 1 (16, [some (.inr (.inr 0)), some (.inl a1), some (.inl a2), some (.inl a3), none], [], g) (18, [some (.inr (.inr 0)), some (.inl a1), some (.inl a2), some (.inl a3), none], [.inl (-2)], g) rfl ?_
    cases h
    exact er rfl
  · rw [if_neg hc] at h
    refine es (7, [some (.inr (.inr 0)), some (.inl a1), some (.inl a2), some (.inl a3), none], [], g) (congrArg some (if_neg hc)) ?_
    refine ev_runs 1 (7, [some (.inr (.inr 0)), some (.inl a1), some (.inl a2), some (.inl a3), none], [], g) (8, [some (.inr (.inr 0)), some (.inl a1), some (.inl a2), some (.inl a3), none], [.inl a3], g) rfl ?_
    by_cases hc : a3 < 0
    · rw [if_pos hc] at h
      refine es (16, [some (.inr (.inr 0)), some (.inl a1), some (.inl a2), some (.inl a3), none], [], g) (congrArg some (if_pos hc)) ?_
      refine ev_runs 1 (16, [some (.inr (.inr 0)), some (.inl a1), some (.inl a2), some (.inl a3), none], [], g) (18, [some (.inr (.inr 0)), some (.inl a1), some (.inl a2), some (.inl a3), none], [.inl (-2)], g) rfl ?_
      cases h
      exact er rfl
    · rw [if_neg hc] at h
      refine es (11, [some (.inr (.inr 0)), some (.inl a1), some (.inl a2), some (.inl a3), none], [], g) (congrArg some (if_neg hc)) ?_
      refine ev_runs 2 (11, [some (.inr (.inr 0)), some (.inl a1), some (.inl a2), some (.inl a3), none], [], g) (13, [some (.inr (.inr 0)), some (.inl a1), some (.inl a2), some (.inl a3), none], [.inl 1, .inl a3], g) rfl ?_
      by_cases hc : a3 ≤ 1
      · rw [if_pos hc] at h
        refine es (19, [some (.inr (.inr 0)), some (.inl a1), some (.inl a2), some (.inl a3), none], [], g) (congrArg some (if_pos hc)) ?_
        refine ev_runs 2 (19, [some (.inr (.inr 0)), some (.inl a1), some (.inl a2), some (.inl a3), none], [], g) (21, [some (.inr (.inr 0)), some (.inl a1), some (.inl a2), some (.inl a3), none], [.inl a1, .inr (.inr 0)], g) rfl ?_
        obtain ⟨q1, hq, h⟩ := Option.bind_eq_some_iff.mp h
        refine ec 75 24 [.inr (.inr 0), .inl a1] [] rfl (ev_Op_hindrance a1 g q1.1 q1.2 hq) ?_
        show Ev 147 24 [some (.inr (.inr 0)), some (.inl a1), some (.inl a2), some (.inl a3), none] [.inl q1.1] q1.2 _ _
        refine ev_runs 2 (24, [some (.inr (.inr 0)), some (.inl a1), some (.inl a2), some (.inl a3), none], [.inl q1.1], q1.2) (28, [some (.inr (.inr 0)), some (.inl a1), some (.inl a2), some (.inl a3), some (.inl q1.1)], [.inl q1.1], q1.2) rfl ?_
        by_cases hc : q1.1 = 0
        · rw [if_pos hc] at h
          refine es (34, [some (.inr (.inr 0)), some (.inl a1), some (.inl a2), some (.inl a3), some (.inl q1.1)], [], q1.2) (congrArg some (if_pos hc)) ?_
          refine ev_runs 4 (34, [some (.inr (.inr 0)), some (.inl a1), some (.inl a2), some (.inl a3), some (.inl q1.1)], [], q1.2) (40, [some (.inr (.inr 0)), some (.inl a1), some (.inl a2), some (.inl a3), some (.inl q1.1)], [.inl a2, .inl a1, .inr (.inr 60)], q1.2) rfl ?_
          obtain ⟨g2, hq, h⟩ := Option.bind_eq_some_iff.mp h
          refine ec 144 43 [.inr (.inr 60), .inl a1, .inl a2] [] rfl (ev_Rn_goByLots a1 a2 q1.2 g2 hq) ?_
          show Ev 147 43 [some (.inr (.inr 0)), some (.inl a1), some (.inl a2), some (.inl a3), some (.inl q1.1)] [] g2 _ _
          refine ev_runs 1 (43, [some (.inr (.inr 0)), some (.inl a1), some (.inl a2), some (.inl a3), some (.inl q1.1)], [], g2) (44, [some (.inr (.inr 0)), some (.inl a1), some (.inl a2), some (.inl a3), some (.inl q1.1)], [.inl a3], g2) rfl ?_
          by_cases hc : ¬ a3 = 0
          · rw [if_pos hc] at h
            refine es (57, [some (.inr (.inr 0)), some (.inl a1), some (.inl a2), some (.inl a3), some (.inl q1.1)], [], g2) (congrArg some (if_pos hc)) ?_
            refine ev_runs 2 (57, [some (.inr (.inr 0)), some (.inl a1), some (.inl a2), some (.inl a3), some (.inl q1.1)], [], g2) (61, [some (.inr (.inr 0)), some (.inl a1), some (.inl a2), some (.inl a3), some (.inl q1.1)], [.inr (.inr 60)], g2) rfl ?_
            refine ec 146 64 [.inr (.inr 60)] [] rfl (ev_Rn_longestQueue g2 _ rfl) ?_
            show Ev 147 64 [some (.inr (.inr 0)), some (.inl a1), some (.inl a2), some (.inl a3), some (.inl q1.1)] [.inl (Rn_longestQueue g2)] g2 _ _
            cases h
            exact er rfl
          · rw [if_neg hc] at h
            refine es (47, [some (.inr (.inr 0)), some (.inl a1), some (.inl a2), some (.inl a3), some (.inl q1.1)], [], g2) (congrArg some (if_neg hc)) ?_
            refine ev_runs 2 (47, [some (.inr (.inr 0)), some (.inl a1), some (.inl a2), some (.inl a3), some (.inl q1.1)], [], g2) (51, [some (.inr (.inr 0)), some (.inl a1), some (.inl a2), some (.inl a3), some (.inl q1.1)], [.inr (.inr 60)], g2) rfl ?_
            refine ec 145 54 [.inr (.inr 60)] [] rfl (ev_Rn_stepCount g2 _ rfl) ?_
            show Ev 147 54 [some (.inr (.inr 0)), some (.inl a1), some (.inl a2), some (.inl a3), some (.inl q1.1)] [.inl (Rn_stepCount g2)] g2 _ _
            refine ev_runs 1 (54, [some (.inr (.inr 0)), some (.inl a1), some (.inl a2), some (.inl a3), some (.inl q1.1)], [.inl (Rn_stepCount g2)], g2) (64, [some (.inr (.inr 0)), some (.inl a1), some (.inl a2), some (.inl a3), some (.inl q1.1)], [.inl (Rn_stepCount g2)], g2) rfl ?_
            cases h
            exact er rfl
        · rw [if_neg hc] at h
          refine es (31, [some (.inr (.inr 0)), some (.inl a1), some (.inl a2), some (.inl a3), some (.inl q1.1)], [], q1.2) (congrArg some (if_neg hc)) ?_
          refine ev_runs 1 (31, [some (.inr (.inr 0)), some (.inl a1), some (.inl a2), some (.inl a3), some (.inl q1.1)], [], q1.2) (33, [some (.inr (.inr 0)), some (.inl a1), some (.inl a2), some (.inl a3), some (.inl q1.1)], [.inl q1.1], q1.2) rfl ?_
          cases h
          exact er rfl
      · rw [if_neg hc] at h
        refine es (16, [some (.inr (.inr 0)), some (.inl a1), some (.inl a2), some (.inl a3), none], [], g) (congrArg some (if_neg hc)) ?_
        refine ev_runs 1 (16, [some (.inr (.inr 0)), some (.inl a1), some (.inl a2), some (.inl a3), none], [], g) (18, [some (.inr (.inr 0)), some (.inl a1), some (.inl a2), some (.inl a3), none], [.inl (-2)], g) rfl ?_
        cases h
        exact er rfl
