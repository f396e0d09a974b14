/-! Methods as functions, and that the small machine does them. Printed by wip/gen/gen_parts.py. -/
def Hi_make_l96 (c1 : Int) (K96_140 : Gx → Option (Int × Gx)) : Nat → Int → Gx → Option (Int × Gx)
  | 0, _, _ => none
  | n96 + 1, v2, g =>
    if v2 = 0 then
      K96_140 g
    else
      if 30 ≤ (g 33 9) then
        K96_140 g
      else
        Option.bind (Hi_walk (g 33 9) c1 g) (fun g2 =>
        Option.bind (Hi_turn (g2 33 9) g2) (fun q3 =>
        Hi_make_l96 c1 K96_140 n96 q3.1 (gset q3.2 33 9 (wr ((q3.2 33 9) + 1)))))
def Hi_make (a1 : Int) (g : Gx) : Option (Int × Gx) :=
  if ¬ (g 33 13) = (St_version g) then
    Option.bind (St_isTooMuch a1 (gset (gset (gset (gset (gset g 33 13 (St_version g)) 33 14 a1) 33 16 (wr ((g 33 16) + 1))) 33 9 0) 33 10 0)) (fun q1 =>
    if q1.1 = 0 ∨ q1.1 = 1 then
    if ¬ q1.1 = 0 then
      Hi_make_l96 a1
        (fun g4 =>
          if ¬ (g4 33 15) = 0 then
            some (0, g4)
          else
            some (1, g4))
        fu 0 (gset q1.2 33 15 q1.1)
    else
      Hi_make_l96 a1
        (fun g5 =>
          if ¬ (g5 33 15) = 0 then
            some (0, g5)
          else
            some (1, g5))
        fu 1 (gset q1.2 33 15 q1.1)
    else none)
  else
    if ¬ (g 33 14) = a1 then
      Option.bind (St_isTooMuch a1 (gset (gset (gset (gset (gset g 33 13 (St_version g)) 33 14 a1) 33 16 (wr ((g 33 16) + 1))) 33 9 0) 33 10 0)) (fun q6 =>
      if q6.1 = 0 ∨ q6.1 = 1 then
      if ¬ q6.1 = 0 then
        Hi_make_l96 a1
          (fun g7 =>
            if ¬ (g7 33 15) = 0 then
              some (0, g7)
            else
              some (1, g7))
          fu 0 (gset q6.2 33 15 q6.1)
      else
        Hi_make_l96 a1
          (fun g8 =>
            if ¬ (g8 33 15) = 0 then
              some (0, g8)
            else
              some (1, g8))
          fu 1 (gset q6.2 33 15 q6.1)
      else none)
    else
      if ¬ (g 33 15) = 0 then
        some (0, g)
      else
        some (1, g)
set_option maxRecDepth 100000 in
set_option maxHeartbeats 4000000 in
theorem ev_Hi_make_l96 (c1 : Int) (K96_140 : Gx → Option (Int × Gx)) (hK96_140 : ∀ (g : Gx) (r : Int) (g' : Gx), K96_140 g = some (r, g') → Ev 73 140 [some (.inr (.inr 33)), none, none] [] g (some (.inl r)) g') : ∀ (n96 : Nat) (v2 : Int) (g : Gx) (r : Int) (g' : Gx), Hi_make_l96 c1 K96_140 n96 v2 g = some (r, g') → Ev 73 96 [some (.inr (.inr 33)), some (.inl c1), some (.inl v2)] [] g (some (.inl r)) g' := by
  intro n96
  induction n96 with
  | zero => intro v2 g r g' h; cases h
  | succ n96 ih96 =>
    intro v2 g r g' h
    rw [Hi_make_l96] at h
    refine ev_runs 1 (96, [some (.inr (.inr 33)), some (.inl c1), some (.inl v2)], [], g) (97, [some (.inr (.inr 33)), some (.inl c1), some (.inl v2)], [.inl v2], g) rfl ?_
    by_cases hc : v2 = 0
    · rw [if_pos hc] at h
      refine es (140, [some (.inr (.inr 33)), some (.inl c1), some (.inl v2)], [], g) (congrArg some (if_pos hc)) ?_
      exact ev_le (L := [some (.inr (.inr 33)), none, none]) (by simp [Lle]) (hK96_140 g r g' h)
    · rw [if_neg hc] at h
      refine es (100, [some (.inr (.inr 33)), some (.inl c1), some (.inl v2)], [], g) (congrArg some (if_neg hc)) ?_
      refine ev_runs 3 (100, [some (.inr (.inr 33)), some (.inl c1), some (.inl v2)], [], g) (106, [some (.inr (.inr 33)), some (.inl c1), some (.inl v2)], [.inl 30, .inl (g 33 9)], g) rfl ?_
      by_cases hc : 30 ≤ (g 33 9)
      · rw [if_pos hc] at h
        refine es (140, [some (.inr (.inr 33)), some (.inl c1), some (.inl v2)], [], g) (congrArg some (if_pos hc)) ?_
        exact ev_le (L := [some (.inr (.inr 33)), none, none]) (by simp [Lle]) (hK96_140 g r g' h)
      · rw [if_neg hc] at h
        refine es (109, [some (.inr (.inr 33)), some (.inl c1), some (.inl v2)], [], g) (congrArg some (if_neg hc)) ?_
        refine ev_runs 4 (109, [some (.inr (.inr 33)), some (.inl c1), some (.inl v2)], [], g) (115, [some (.inr (.inr 33)), some (.inl c1), some (.inl v2)], [.inl c1, .inl (g 33 9), .inr (.inr 33)], g) rfl ?_
        obtain ⟨g2, hq, h⟩ := Option.bind_eq_some_iff.mp h
        refine ec 71 118 [.inr (.inr 33), .inl (g 33 9), .inl c1] [] rfl (ev_Hi_walk (g 33 9) c1 g g2 hq) ?_
        show Ev 73 118 [some (.inr (.inr 33)), some (.inl c1), some (.inl v2)] [] g2 _ _
        refine ev_runs 3 (118, [some (.inr (.inr 33)), some (.inl c1), some (.inl v2)], [], g2) (123, [some (.inr (.inr 33)), some (.inl c1), some (.inl v2)], [.inl (g2 33 9), .inr (.inr 33)], g2) rfl ?_
        obtain ⟨q3, hq, h⟩ := Option.bind_eq_some_iff.mp h
        refine ec 72 126 [.inr (.inr 33), .inl (g2 33 9)] [] rfl (ev_Hi_turn (g2 33 9) g2 q3.1 q3.2 hq) ?_
        show Ev 73 126 [some (.inr (.inr 33)), some (.inl c1), some (.inl v2)] [.inl q3.1] q3.2 _ _
        refine ev_runs 8 (126, [some (.inr (.inr 33)), some (.inl c1), some (.inl v2)], [.inl q3.1], q3.2) (96, [some (.inr (.inr 33)), some (.inl c1), some (.inl q3.1)], [], (gset q3.2 33 9 (wr ((q3.2 33 9) + 1)))) rfl ?_
        exact ev_le (L := [some (.inr (.inr 33)), some (.inl c1), some (.inl q3.1)]) (by simp [Lle]) (ih96 q3.1 (gset q3.2 33 9 (wr ((q3.2 33 9) + 1))) r g' h)
set_option maxRecDepth 100000 in
set_option maxHeartbeats 4000000 in
theorem ev_Hi_make (a1 : Int) (g : Gx) (r : Int) (g' : Gx) (h : Hi_make a1 g = some (r, g')) : Ev 73 0 [some (.inr (.inr 33)), some (.inl a1), none] [] g (some (.inl r)) g' := by
  rw [Hi_make] at h
  refine ev_runs 4 (0, [some (.inr (.inr 33)), some (.inl a1), none], [], g) (8, [some (.inr (.inr 33)), some (.inl a1), none], [.inr (.inr 7), .inl (g 33 13)], g) rfl ?_
  refine ec 53 11 [.inr (.inr 7)] [.inl (g 33 13)] rfl (ev_St_version g _ rfl) ?_
  show Ev 73 11 [some (.inr (.inr 33)), some (.inl a1), none] [.inl (St_version g), .inl (g 33 13)] g _ _
  by_cases hc : ¬ (g 33 13) = (St_version g)
  · rw [if_pos hc] at h
    refine es (35, [some (.inr (.inr 33)), some (.inl a1), none], [], g) (congrArg some (if_pos hc)) ?_
    refine ev_runs 3 (35, [some (.inr (.inr 33)), some (.inl a1), none], [], g) (40, [some (.inr (.inr 33)), some (.inl a1), none], [.inr (.inr 7), .inr (.inr 33)], g) rfl ?_
    refine ec 53 43 [.inr (.inr 7)] [.inr (.inr 33)] rfl (ev_St_version g _ rfl) ?_
    show Ev 73 43 [some (.inr (.inr 33)), some (.inl a1), none] [.inl (St_version g), .inr (.inr 33)] g _ _
    refine ev_runs 20 (43, [some (.inr (.inr 33)), some (.inl a1), none], [.inl (St_version g), .inr (.inr 33)], g) (77, [some (.inr (.inr 33)), some (.inl a1), none], [.inl a1, .inr (.inr 7), .inr (.inr 33)], (gset (gset (gset (gset (gset g 33 13 (St_version g)) 33 14 a1) 33 16 (wr ((g 33 16) + 1))) 33 9 0) 33 10 0)) rfl ?_
    obtain ⟨q1, hq, h⟩ := Option.bind_eq_some_iff.mp h
    refine ec 60 80 [.inr (.inr 7), .inl a1] [.inr (.inr 33)] rfl (ev_St_isTooMuch a1 (gset (gset (gset (gset (gset g 33 13 (St_version g)) 33 14 a1) 33 16 (wr ((g 33 16) + 1))) 33 9 0) 33 10 0) q1.1 q1.2 hq) ?_
    show Ev 73 80 [some (.inr (.inr 33)), some (.inl a1), none] [.inl q1.1, .inr (.inr 33)] q1.2 _ _
    by_cases hc : q1.1 = 0 ∨ q1.1 = 1
    · rw [if_pos hc] at h
      refine es (83, [some (.inr (.inr 33)), some (.inl a1), none], [], (gset q1.2 33 15 q1.1)) (if_pos hc) ?_
      refine ev_runs 2 (83, [some (.inr (.inr 33)), some (.inl a1), none], [], (gset q1.2 33 15 q1.1)) (87, [some (.inr (.inr 33)), some (.inl a1), none], [.inl q1.1], (gset q1.2 33 15 q1.1)) rfl ?_
      by_cases hc : ¬ q1.1 = 0
      · rw [if_pos hc] at h
        refine es (94, [some (.inr (.inr 33)), some (.inl a1), none], [], (gset q1.2 33 15 q1.1)) (congrArg some (if_pos hc)) ?_
        refine ev_runs 2 (94, [some (.inr (.inr 33)), some (.inl a1), none], [], (gset q1.2 33 15 q1.1)) (96, [some (.inr (.inr 33)), some (.inl a1), some (.inl 0)], [], (gset q1.2 33 15 q1.1)) rfl ?_
        refine ev_le (L := [some (.inr (.inr 33)), some (.inl a1), some (.inl 0)]) (by simp [Lle]) ?_
        refine ev_Hi_make_l96 a1 _ ?_ fu 0 (gset q1.2 33 15 q1.1) r g' h
        · intro g4 r g' h
          refine ev_runs 2 (140, [some (.inr (.inr 33)), none, none], [], g4) (144, [some (.inr (.inr 33)), none, none], [.inl (g4 33 15)], g4) rfl ?_
          by_cases hc : ¬ (g4 33 15) = 0
          · rw [if_pos hc] at h
            refine es (151, [some (.inr (.inr 33)), none, none], [], g4) (congrArg some (if_pos hc)) ?_
            refine ev_runs 1 (151, [some (.inr (.inr 33)), none, none], [], g4) (152, [some (.inr (.inr 33)), none, none], [.inl 0], g4) rfl ?_
            cases h
            exact er rfl
          · rw [if_neg hc] at h
            refine es (147, [some (.inr (.inr 33)), none, none], [], g4) (congrArg some (if_neg hc)) ?_
            refine ev_runs 2 (147, [some (.inr (.inr 33)), none, none], [], g4) (152, [some (.inr (.inr 33)), none, none], [.inl 1], g4) rfl ?_
            cases h
            exact er rfl
      · rw [if_neg hc] at h
        refine es (90, [some (.inr (.inr 33)), some (.inl a1), none], [], (gset q1.2 33 15 q1.1)) (congrArg some (if_neg hc)) ?_
        refine ev_runs 3 (90, [some (.inr (.inr 33)), some (.inl a1), none], [], (gset q1.2 33 15 q1.1)) (96, [some (.inr (.inr 33)), some (.inl a1), some (.inl 1)], [], (gset q1.2 33 15 q1.1)) rfl ?_
        refine ev_le (L := [some (.inr (.inr 33)), some (.inl a1), some (.inl 1)]) (by simp [Lle]) ?_
        refine ev_Hi_make_l96 a1 _ ?_ fu 1 (gset q1.2 33 15 q1.1) r g' h
        · intro g5 r g' h
          refine ev_runs 2 (140, [some (.inr (.inr 33)), none, none], [], g5) (144, [some (.inr (.inr 33)), none, none], [.inl (g5 33 15)], g5) rfl ?_
          by_cases hc : ¬ (g5 33 15) = 0
          · rw [if_pos hc] at h
            refine es (151, [some (.inr (.inr 33)), none, none], [], g5) (congrArg some (if_pos hc)) ?_
            refine ev_runs 1 (151, [some (.inr (.inr 33)), none, none], [], g5) (152, [some (.inr (.inr 33)), none, none], [.inl 0], g5) rfl ?_
            cases h
            exact er rfl
          · rw [if_neg hc] at h
            refine es (147, [some (.inr (.inr 33)), none, none], [], g5) (congrArg some (if_neg hc)) ?_
            refine ev_runs 2 (147, [some (.inr (.inr 33)), none, none], [], g5) (152, [some (.inr (.inr 33)), none, none], [.inl 1], g5) rfl ?_
            cases h
            exact er rfl
    · rw [if_neg hc] at h; cases h
  · rw [if_neg hc] at h
    refine es (14, [some (.inr (.inr 33)), some (.inl a1), none], [], g) (congrArg some (if_neg hc)) ?_
    refine ev_runs 3 (14, [some (.inr (.inr 33)), some (.inl a1), none], [], g) (19, [some (.inr (.inr 33)), some (.inl a1), none], [.inl a1, .inl (g 33 14)], g) rfl ?_
    by_cases hc : ¬ (g 33 14) = a1
    · rw [if_pos hc] at h
      refine es (35, [some (.inr (.inr 33)), some (.inl a1), none], [], g) (congrArg some (if_pos hc)) ?_
      refine ev_runs 3 (35, [some (.inr (.inr 33)), some (.inl a1), none], [], g) (40, [some (.inr (.inr 33)), some (.inl a1), none], [.inr (.inr 7), .inr (.inr 33)], g) rfl ?_
      refine ec 53 43 [.inr (.inr 7)] [.inr (.inr 33)] rfl (ev_St_version g _ rfl) ?_
      show Ev 73 43 [some (.inr (.inr 33)), some (.inl a1), none] [.inl (St_version g), .inr (.inr 33)] g _ _
      refine ev_runs 20 (43, [some (.inr (.inr 33)), some (.inl a1), none], [.inl (St_version g), .inr (.inr 33)], g) (77, [some (.inr (.inr 33)), some (.inl a1), none], [.inl a1, .inr (.inr 7), .inr (.inr 33)], (gset (gset (gset (gset (gset g 33 13 (St_version g)) 33 14 a1) 33 16 (wr ((g 33 16) + 1))) 33 9 0) 33 10 0)) rfl ?_
      obtain ⟨q6, hq, h⟩ := Option.bind_eq_some_iff.mp h
      refine ec 60 80 [.inr (.inr 7), .inl a1] [.inr (.inr 33)] rfl (ev_St_isTooMuch a1 (gset (gset (gset (gset (gset g 33 13 (St_version g)) 33 14 a1) 33 16 (wr ((g 33 16) + 1))) 33 9 0) 33 10 0) q6.1 q6.2 hq) ?_
      show Ev 73 80 [some (.inr (.inr 33)), some (.inl a1), none] [.inl q6.1, .inr (.inr 33)] q6.2 _ _
      by_cases hc : q6.1 = 0 ∨ q6.1 = 1
      · rw [if_pos hc] at h
        refine es (83, [some (.inr (.inr 33)), some (.inl a1), none], [], (gset q6.2 33 15 q6.1)) (if_pos hc) ?_
        refine ev_runs 2 (83, [some (.inr (.inr 33)), some (.inl a1), none], [], (gset q6.2 33 15 q6.1)) (87, [some (.inr (.inr 33)), some (.inl a1), none], [.inl q6.1], (gset q6.2 33 15 q6.1)) rfl ?_
        by_cases hc : ¬ q6.1 = 0
        · rw [if_pos hc] at h
          refine es (94, [some (.inr (.inr 33)), some (.inl a1), none], [], (gset q6.2 33 15 q6.1)) (congrArg some (if_pos hc)) ?_
          refine ev_runs 2 (94, [some (.inr (.inr 33)), some (.inl a1), none], [], (gset q6.2 33 15 q6.1)) (96, [some (.inr (.inr 33)), some (.inl a1), some (.inl 0)], [], (gset q6.2 33 15 q6.1)) rfl ?_
          refine ev_le (L := [some (.inr (.inr 33)), some (.inl a1), some (.inl 0)]) (by simp [Lle]) ?_
          refine ev_Hi_make_l96 a1 _ ?_ fu 0 (gset q6.2 33 15 q6.1) r g' h
          · intro g7 r g' h
            refine ev_runs 2 (140, [some (.inr (.inr 33)), none, none], [], g7) (144, [some (.inr (.inr 33)), none, none], [.inl (g7 33 15)], g7) rfl ?_
            by_cases hc : ¬ (g7 33 15) = 0
            · rw [if_pos hc] at h
              refine es (151, [some (.inr (.inr 33)), none, none], [], g7) (congrArg some (if_pos hc)) ?_
              refine ev_runs 1 (151, [some (.inr (.inr 33)), none, none], [], g7) (152, [some (.inr (.inr 33)), none, none], [.inl 0], g7) rfl ?_
              cases h
              exact er rfl
            · rw [if_neg hc] at h
              refine es (147, [some (.inr (.inr 33)), none, none], [], g7) (congrArg some (if_neg hc)) ?_
              refine ev_runs 2 (147, [some (.inr (.inr 33)), none, none], [], g7) (152, [some (.inr (.inr 33)), none, none], [.inl 1], g7) rfl ?_
              cases h
              exact er rfl
        · rw [if_neg hc] at h
          refine es (90, [some (.inr (.inr 33)), some (.inl a1), none], [], (gset q6.2 33 15 q6.1)) (congrArg some (if_neg hc)) ?_
          refine ev_runs 3 (90, [some (.inr (.inr 33)), some (.inl a1), none], [], (gset q6.2 33 15 q6.1)) (96, [some (.inr (.inr 33)), some (.inl a1), some (.inl 1)], [], (gset q6.2 33 15 q6.1)) rfl ?_
          refine ev_le (L := [some (.inr (.inr 33)), some (.inl a1), some (.inl 1)]) (by simp [Lle]) ?_
          refine ev_Hi_make_l96 a1 _ ?_ fu 1 (gset q6.2 33 15 q6.1) r g' h
          · intro g8 r g' h
            refine ev_runs 2 (140, [some (.inr (.inr 33)), none, none], [], g8) (144, [some (.inr (.inr 33)), none, none], [.inl (g8 33 15)], g8) rfl ?_
            by_cases hc : ¬ (g8 33 15) = 0
            · rw [if_pos hc] at h
              refine es (151, [some (.inr (.inr 33)), none, none], [], g8) (congrArg some (if_pos hc)) ?_
              refine ev_runs 1 (151, [some (.inr (.inr 33)), none, none], [], g8) (152, [some (.inr (.inr 33)), none, none], [.inl 0], g8) rfl ?_
              cases h
              exact er rfl
            · rw [if_neg hc] at h
              refine es (147, [some (.inr (.inr 33)), none, none], [], g8) (congrArg some (if_neg hc)) ?_
              refine ev_runs 2 (147, [some (.inr (.inr 33)), none, none], [], g8) (152, [some (.inr (.inr 33)), none, none], [.inl 1], g8) rfl ?_
              cases h
              exact er rfl
      · rw [if_neg hc] at h; cases h
    · rw [if_neg hc] at h
      refine es (22, [some (.inr (.inr 33)), some (.inl a1), none], [], g) (congrArg some (if_neg hc)) ?_
      refine ev_runs 2 (22, [some (.inr (.inr 33)), some (.inl a1), none], [], g) (26, [some (.inr (.inr 33)), some (.inl a1), none], [.inl (g 33 15)], g) rfl ?_
      by_cases hc : ¬ (g 33 15) = 0
      · rw [if_pos hc] at h
        refine es (33, [some (.inr (.inr 33)), some (.inl a1), none], [], g) (congrArg some (if_pos hc)) ?_
        refine ev_runs 1 (33, [some (.inr (.inr 33)), some (.inl a1), none], [], g) (34, [some (.inr (.inr 33)), some (.inl a1), none], [.inl 0], g) rfl ?_
        cases h
        exact er rfl
      · rw [if_neg hc] at h
        refine es (29, [some (.inr (.inr 33)), some (.inl a1), none], [], g) (congrArg some (if_neg hc)) ?_
        refine ev_runs 2 (29, [some (.inr (.inr 33)), some (.inl a1), none], [], g) (34, [some (.inr (.inr 33)), some (.inl a1), none], [.inl 1], g) rfl ?_
        cases h
        exact er rfl
def Hi_size (g : Gx) : Int :=
  (g 33 9)
set_option maxRecDepth 100000 in
set_option maxHeartbeats 4000000 in
theorem ev_Hi_size (g : Gx) (r : Int) (h : Hi_size g = r) : Ev 74 0 [some (.inr (.inr 33))] [] g (some (.inl r)) g := by
  rw [Hi_size] at h
  refine ev_runs 2 (0, [some (.inr (.inr 33))], [], g) (4, [some (.inr (.inr 33))], [.inl (g 33 9)], g) rfl ?_
  subst h
  exact er rfl
def Op_hindrance (a1 : Int) (g : Gx) : Option (Int × Gx) :=
  Option.bind (Pr_firstFault g) (fun q1 =>
  if q1.1 = (-1) then
    Option.bind (Hi_make (q1.2 0 11) q1.2) (fun q2 =>
    if ¬ q2.1 = 0 then
      if (Hi_size q2.2) ≤ a1 then
        some ((-2), q2.2)
      else
        some (0, q2.2)
    else
      some ((-4), q2.2))
  else
    some ((-3), q1.2))
set_option maxRecDepth 100000 in
set_option maxHeartbeats 4000000 in
theorem ev_Op_hindrance (a1 : Int) (g : Gx) (r : Int) (g' : Gx) (h : Op_hindrance a1 g = some (r, g')) : Ev 75 0 [some (.inr (.inr 0)), some (.inl a1)] [] g (some (.inl r)) g' := by
  rw [Op_hindrance] at h
  refine ev_runs 2 (0, [some (.inr (.inr 0)), some (.inl a1)], [], g) (4, [some (.inr (.inr 0)), some (.inl a1)], [.inr (.inr 28)], g) rfl ?_
  obtain ⟨q1, hq, h⟩ := Option.bind_eq_some_iff.mp h
  refine ec 32 7 [.inr (.inr 28)] [] rfl (ev_Pr_firstFault g q1.1 q1.2 hq) ?_
  show Ev 75 7 [some (.inr (.inr 0)), some (.inl a1)] [.inl q1.1] q1.2 _ _
  refine ev_runs 1 (7, [some (.inr (.inr 0)), some (.inl a1)], [.inl q1.1], q1.2) (8, [some (.inr (.inr 0)), some (.inl a1)], [.inl (-1), .inl q1.1], q1.2) rfl ?_
  by_cases hc : q1.1 = (-1)
  · rw [if_pos hc] at h
    refine es (14, [some (.inr (.inr 0)), some (.inl a1)], [], q1.2) (congrArg some (if_pos hc)) ?_
    refine ev_runs 4 (14, [some (.inr (.inr 0)), some (.inl a1)], [], q1.2) (22, [some (.inr (.inr 0)), some (.inl a1)], [.inl (q1.2 0 11), .inr (.inr 33)], q1.2) rfl ?_
    obtain ⟨q2, hq, h⟩ := Option.bind_eq_some_iff.mp h
    refine ec 73 25 [.inr (.inr 33), .inl (q1.2 0 11)] [] rfl (ev_Hi_make (q1.2 0 11) q1.2 q2.1 q2.2 hq) ?_
    show Ev 75 25 [some (.inr (.inr 0)), some (.inl a1)] [.inl q2.1] q2.2 _ _
    by_cases hc : ¬ q2.1 = 0
    · rw [if_pos hc] at h
      refine es (31, [some (.inr (.inr 0)), some (.inl a1)], [], q2.2) (congrArg some (if_pos hc)) ?_
      refine ev_runs 3 (31, [some (.inr (.inr 0)), some (.inl a1)], [], q2.2) (36, [some (.inr (.inr 0)), some (.inl a1)], [.inr (.inr 33), .inl a1], q2.2) rfl ?_
      refine ec 74 39 [.inr (.inr 33)] [.inl a1] rfl (ev_Hi_size q2.2 _ rfl) ?_
      show Ev 75 39 [some (.inr (.inr 0)), some (.inl a1)] [.inl (Hi_size q2.2), .inl a1] q2.2 _ _
      by_cases hc : (Hi_size q2.2) ≤ a1
      · rw [if_pos hc] at h
        refine es (46, [some (.inr (.inr 0)), some (.inl a1)], [], q2.2) (congrArg some (if_pos hc)) ?_
        refine ev_runs 1 (46, [some (.inr (.inr 0)), some (.inl a1)], [], q2.2) (48, [some (.inr (.inr 0)), some (.inl a1)], [.inl (-2)], q2.2) rfl ?_
        cases h
        exact er rfl
      · rw [if_neg hc] at h
        refine es (42, [some (.inr (.inr 0)), some (.inl a1)], [], q2.2) (congrArg some (if_neg hc)) ?_
        refine ev_runs 2 (42, [some (.inr (.inr 0)), some (.inl a1)], [], q2.2) (48, [some (.inr (.inr 0)), some (.inl a1)], [.inl 0], q2.2) rfl ?_
        cases h
        exact er rfl
    · rw [if_neg hc] at h
      refine es (28, [some (.inr (.inr 0)), some (.inl a1)], [], q2.2) (congrArg some (if_neg hc)) ?_
      refine ev_runs 1 (28, [some (.inr (.inr 0)), some (.inl a1)], [], q2.2) (30, [some (.inr (.inr 0)), some (.inl a1)], [.inl (-4)], q2.2) rfl ?_
      cases h
      exact er rfl
  · rw [if_neg hc] at h
    refine es (11, [some (.inr (.inr 0)), some (.inl a1)], [], q1.2) (congrArg some (if_neg hc)) ?_
    refine ev_runs 1 (11, [some (.inr (.inr 0)), some (.inl a1)], [], q1.2) (13, [some (.inr (.inr 0)), some (.inl a1)], [.inl (-3)], q1.2) rfl ?_
    cases h
    exact er rfl
def Op_histories (g : Gx) : Option (Int × Gx) :=
  Option.bind (Op_hindrance 0 g) (fun q1 =>
  if q1.1 = 0 then
    some ((Hi_size q1.2), q1.2)
  else
    some (q1.1, q1.2))
set_option maxRecDepth 100000 in
set_option maxHeartbeats 4000000 in
theorem ev_Op_histories (g : Gx) (r : Int) (g' : Gx) (h : Op_histories g = some (r, g')) : Ev 76 0 [some (.inr (.inr 0)), none] [] g (some (.inl r)) g' := by
  rw [Op_histories] at h
  refine ev_runs 2 (0, [some (.inr (.inr 0)), none], [], g) (2, [some (.inr (.inr 0)), none], [.inl 0, .inr (.inr 0)], g) rfl ?_
  obtain ⟨q1, hq, h⟩ := Option.bind_eq_some_iff.mp h
  refine ec 75 5 [.inr (.inr 0), .inl 0] [] rfl (ev_Op_hindrance 0 g q1.1 q1.2 hq) ?_
  show Ev 76 5 [some (.inr (.inr 0)), none] [.inl q1.1] q1.2 _ _
  refine ev_runs 2 (5, [some (.inr (.inr 0)), none], [.inl q1.1], q1.2) (7, [some (.inr (.inr 0)), some (.inl q1.1)], [.inl q1.1], q1.2) rfl ?_
  by_cases hc : q1.1 = 0
  · rw [if_pos hc] at h
    refine es (14, [some (.inr (.inr 0)), some (.inl q1.1)], [], q1.2) (congrArg some (if_pos hc)) ?_
    refine ev_runs 2 (14, [some (.inr (.inr 0)), some (.inl q1.1)], [], q1.2) (18, [some (.inr (.inr 0)), some (.inl q1.1)], [.inr (.inr 33)], q1.2) rfl ?_
    refine ec 74 21 [.inr (.inr 33)] [] rfl (ev_Hi_size q1.2 _ rfl) ?_
    show Ev 76 21 [some (.inr (.inr 0)), some (.inl q1.1)] [.inl (Hi_size q1.2)] q1.2 _ _
    cases h
    exact er rfl
  · rw [if_neg hc] at h
    refine es (10, [some (.inr (.inr 0)), some (.inl q1.1)], [], q1.2) (congrArg some (if_neg hc)) ?_
    refine ev_runs 2 (10, [some (.inr (.inr 0)), some (.inl q1.1)], [], q1.2) (21, [some (.inr (.inr 0)), some (.inl q1.1)], [.inl q1.1], q1.2) rfl ?_
    cases h
    exact er rfl
def Md_says (a1 a2 a3 : Int) (g : Gx) : Option (Int × Gx) :=
  if ¬ (g 92 36) = 24 then
    if 30 ≤ (g 92 26) then
      some (1, (gset g 92 36 (wr ((g 92 36) + 1))))
    else
      if 0 ≤ (wr ((wr (24 * (g 92 26))) + (g 92 36))) ∧ (wr ((wr (24 * (g 92 26))) + (g 92 36))) < 720 then
      some (1, (gset (gset g 111 ((wr ((wr (24 * (g 92 26))) + (g 92 36))).toNat) (wr ((wr ((wr (1000 * a1)) + (wr (100 * a2)))) + a3))) 92 36 (wr ((g 92 36) + 1))))
      else none
  else
    some (0, g)
set_option maxRecDepth 100000 in
set_option maxHeartbeats 4000000 in
theorem ev_Md_says (a1 a2 a3 : Int) (g : Gx) (r : Int) (g' : Gx) (h : Md_says a1 a2 a3 g = some (r, g')) : Ev 77 0 [some (.inr (.inr 92)), some (.inl a1), some (.inl a2), some (.inl a3)] [] g (some (.inl r)) g' := by
  rw [Md_says] at h
  refine ev_runs 3 (0, [some (.inr (.inr 92)), some (.inl a1), some (.inl a2), some (.inl a3)], [], g) (6, [some (.inr (.inr 92)), some (.inl a1), some (.inl a2), some (.inl a3)], [.inl 24, .inl (g 92 36)], g) rfl ?_
  by_cases hc : ¬ (g 92 36) = 24
  · rw [if_pos hc] at h
    refine es (11, [some (.inr (.inr 92)), some (.inl a1), some (.inl a2), some (.inl a3)], [], g) (congrArg some (if_pos hc)) ?_
    refine ev_runs 3 (11, [some (.inr (.inr 92)), some (.inl a1), some (.inl a2), some (.inl a3)], [], g) (17, [some (.inr (.inr 92)), some (.inl a1), some (.inl a2), some (.inl a3)], [.inl 30, .inl (g 92 26)], g) rfl ?_
    by_cases hc : 30 ≤ (g 92 26)
    · rw [if_pos hc] at h
      refine es (49, [some (.inr (.inr 92)), some (.inl a1), some (.inl a2), some (.inl a3)], [], g) (congrArg some (if_pos hc)) ?_
      refine ev_runs 7 (49, [some (.inr (.inr 92)), some (.inl a1), some (.inl a2), some (.inl a3)], [], g) (60, [some (.inr (.inr 92)), some (.inl a1), some (.inl a2), some (.inl a3)], [.inl 1], (gset g 92 36 (wr ((g 92 36) + 1)))) rfl ?_
      cases h
      exact er rfl
    · rw [if_neg hc] at h
      refine es (20, [some (.inr (.inr 92)), some (.inl a1), some (.inl a2), some (.inl a3)], [], g) (congrArg some (if_neg hc)) ?_
      refine ev_runs 18 (20, [some (.inr (.inr 92)), some (.inl a1), some (.inl a2), some (.inl a3)], [], g) (48, [some (.inr (.inr 92)), some (.inl a1), some (.inl a2), some (.inl a3)], [.inl (wr ((wr ((wr (1000 * a1)) + (wr (100 * a2)))) + a3)), .inl (wr ((wr (24 * (g 92 26))) + (g 92 36))), .inr (.inr 111)], g) rfl ?_
      by_cases hc : 0 ≤ (wr ((wr (24 * (g 92 26))) + (g 92 36))) ∧ (wr ((wr (24 * (g 92 26))) + (g 92 36))) < 720
      · rw [if_pos hc] at h
        refine es (49, [some (.inr (.inr 92)), some (.inl a1), some (.inl a2), some (.inl a3)], [], (gset g 111 ((wr ((wr (24 * (g 92 26))) + (g 92 36))).toNat) (wr ((wr ((wr (1000 * a1)) + (wr (100 * a2)))) + a3)))) (if_pos hc) ?_
        refine ev_runs 7 (49, [some (.inr (.inr 92)), some (.inl a1), some (.inl a2), some (.inl a3)], [], (gset g 111 ((wr ((wr (24 * (g 92 26))) + (g 92 36))).toNat) (wr ((wr ((wr (1000 * a1)) + (wr (100 * a2)))) + a3)))) (60, [some (.inr (.inr 92)), some (.inl a1), some (.inl a2), some (.inl a3)], [.inl 1], (gset (gset g 111 ((wr ((wr (24 * (g 92 26))) + (g 92 36))).toNat) (wr ((wr ((wr (1000 * a1)) + (wr (100 * a2)))) + a3))) 92 36 (wr ((g 92 36) + 1)))) rfl ?_
        cases h
        exact er rfl
      · rw [if_neg hc] at h; cases h
  · rw [if_neg hc] at h
    refine es (9, [some (.inr (.inr 92)), some (.inl a1), some (.inl a2), some (.inl a3)], [], g) (congrArg some (if_neg hc)) ?_
    refine ev_runs 1 (9, [some (.inr (.inr 92)), some (.inl a1), some (.inl a2), some (.inl a3)], [], g) (10, [some (.inr (.inr 92)), some (.inl a1), some (.inl a2), some (.inl a3)], [.inl 0], g) rfl ?_
    cases h
    exact er rfl
def Md_chooses_l67 (c1 : Int) (c3 : Int) (K67_160 : Int → Gx → Option (Int × Gx)) : Nat → Int → Int → Gx → Option (Int × Gx)
  | 0, _, _, _ => none
  | n67 + 1, v4, v5, g =>
    if 6 ≤ v5 then
      K67_160 v4 g
    else
      if 0 ≤ c1 ∧ c1 < 170 then
      if 5 ≤ (g 102 c1.toNat) then
        K67_160 v4 g
      else
        if 0 ≤ c1 ∧ c1 < 170 then
        if v5 = (g 100 c1.toNat) then
          Md_chooses_l67 c1 c3 K67_160 n67 v4 (wr (v5 + 1)) g
        else
          if 0 ≤ c1 ∧ c1 < 170 then
          if ¬ (jand (jshr c3 (wr ((wr (6 * (g 102 c1.toNat))) + v5))) 1) = 1 then
            Md_chooses_l67 c1 c3 K67_160 n67 v4 (wr (v5 + 1)) g
          else
            if v4 = 0 then
              Md_chooses_l67 c1 c3 K67_160 n67 0 (wr (v5 + 1)) g
            else
              if 0 ≤ c1 ∧ c1 < 170 then
              if 0 ≤ (g 92 35) ∧ (g 92 35) < 30 then
              Option.bind (Md_says (g 100 c1.toNat) v5 (wr (26 + (g 114 (g 92 35).toNat))) g) (fun q1 =>
              if q1.1 = 0 then
                Md_chooses_l67 c1 c3 K67_160 n67 0 (wr (v5 + 1)) q1.2
              else
                Md_chooses_l67 c1 c3 K67_160 n67 1 (wr (v5 + 1)) q1.2)
              else none
              else none
          else none
        else none
      else none
def Md_chooses (a1 a2 a3 : Int) (g : Gx) : Option (Int × Gx) :=
  if ¬ (g 92 35) = 30 then
    if (g 92 35) < a2 then
      if 0 ≤ a1 ∧ a1 < 170 then
      if 0 ≤ (g 92 35) ∧ (g 92 35) < 30 then
      if 0 ≤ a1 ∧ a1 < 170 then
      if 0 ≤ (g 92 35) ∧ (g 92 35) < 30 then
      Md_chooses_l67 a1 a3
        (fun x2 g3 =>
          if x2 = 0 ∨ x2 = 1 then some (x2, (gset g3 92 35 (wr ((g3 92 35) + 1)))) else none)
        fu 1 0 (gset (gset g 115 ((g 92 35).toNat) (wr ((g 101 a1.toNat) - 1))) 116 ((g 92 35).toNat) (g 100 a1.toNat))
      else none
      else none
      else none
      else none
    else
      if 0 ≤ (g 92 35) ∧ (g 92 35) < 30 then
      if 0 ≤ a1 ∧ a1 < 170 then
      if 0 ≤ (g 92 35) ∧ (g 92 35) < 30 then
      if 0 ≤ a1 ∧ a1 < 170 then
      if 0 ≤ (g 92 35) ∧ (g 92 35) < 30 then
      Md_chooses_l67 a1 a3
        (fun x4 g5 =>
          if x4 = 0 ∨ x4 = 1 then some (x4, (gset g5 92 35 (wr ((g5 92 35) + 1)))) else none)
        fu 1 0 (gset (gset (gset g 114 ((g 92 35).toNat) 0) 115 ((g 92 35).toNat) (wr ((g 101 a1.toNat) - 1))) 116 ((g 92 35).toNat) (g 100 a1.toNat))
      else none
      else none
      else none
      else none
      else none
  else
    some (0, g)
set_option maxRecDepth 100000 in
set_option maxHeartbeats 4000000 in
theorem ev_Md_chooses_l67 (c1 : Int) (c3 : Int) (K67_160 : Int → Gx → Option (Int × Gx)) (hK67_160 : ∀ (x4 : Int) (g : Gx) (r : Int) (g' : Gx), K67_160 x4 g = some (r, g') → Ev 78 160 [some (.inr (.inr 92)), none, none, none, some (.inl x4), none] [] g (some (.inl r)) g') : ∀ (n67 : Nat) (v4 v5 : Int) (g : Gx) (r : Int) (g' : Gx), Md_chooses_l67 c1 c3 K67_160 n67 v4 v5 g = some (r, g') → Ev 78 67 [some (.inr (.inr 92)), some (.inl c1), none, some (.inl c3), some (.inl v4), some (.inl v5)] [] g (some (.inl r)) g' := by
  intro n67
  induction n67 with
  | zero => intro v4 v5 g r g' h; cases h
  | succ n67 ih67 =>
    intro v4 v5 g r g' h
    rw [Md_chooses_l67] at h
    refine ev_runs 2 (67, [some (.inr (.inr 92)), some (.inl c1), none, some (.inl c3), some (.inl v4), some (.inl v5)], [], g) (71, [some (.inr (.inr 92)), some (.inl c1), none, some (.inl c3), some (.inl v4), some (.inl v5)], [.inl 6, .inl v5], g) rfl ?_
    by_cases hc : 6 ≤ v5
    · rw [if_pos hc] at h
      refine es (160, [some (.inr (.inr 92)), some (.inl c1), none, some (.inl c3), some (.inl v4), some (.inl v5)], [], g) (congrArg some (if_pos hc)) ?_
      exact ev_le (L := [some (.inr (.inr 92)), none, none, none, some (.inl v4), none]) (by simp [Lle]) (hK67_160 v4 g r g' h)
    · rw [if_neg hc] at h
      refine es (74, [some (.inr (.inr 92)), some (.inl c1), none, some (.inl c3), some (.inl v4), some (.inl v5)], [], g) (congrArg some (if_neg hc)) ?_
      refine ev_runs 3 (74, [some (.inr (.inr 92)), some (.inl c1), none, some (.inl c3), some (.inl v4), some (.inl v5)], [], g) (79, [some (.inr (.inr 92)), some (.inl c1), none, some (.inl c3), some (.inl v4), some (.inl v5)], [.inl c1, .inr (.inr 102)], g) rfl ?_
      by_cases hc : 0 ≤ c1 ∧ c1 < 170
      · rw [if_pos hc] at h
        refine es (80, [some (.inr (.inr 92)), some (.inl c1), none, some (.inl c3), some (.inl v4), some (.inl v5)], [.inl (g 102 c1.toNat)], g) (if_pos hc) ?_
        refine ev_runs 1 (80, [some (.inr (.inr 92)), some (.inl c1), none, some (.inl c3), some (.inl v4), some (.inl v5)], [.inl (g 102 c1.toNat)], g) (81, [some (.inr (.inr 92)), some (.inl c1), none, some (.inl c3), some (.inl v4), some (.inl v5)], [.inl 5, .inl (g 102 c1.toNat)], g) rfl ?_
        by_cases hc : 5 ≤ (g 102 c1.toNat)
        · rw [if_pos hc] at h
          refine es (160, [some (.inr (.inr 92)), some (.inl c1), none, some (.inl c3), some (.inl v4), some (.inl v5)], [], g) (congrArg some (if_pos hc)) ?_
          exact ev_le (L := [some (.inr (.inr 92)), none, none, none, some (.inl v4), none]) (by simp [Lle]) (hK67_160 v4 g r g' h)
        · rw [if_neg hc] at h
          refine es (84, [some (.inr (.inr 92)), some (.inl c1), none, some (.inl c3), some (.inl v4), some (.inl v5)], [], g) (congrArg some (if_neg hc)) ?_
          refine ev_runs 4 (84, [some (.inr (.inr 92)), some (.inl c1), none, some (.inl c3), some (.inl v4), some (.inl v5)], [], g) (91, [some (.inr (.inr 92)), some (.inl c1), none, some (.inl c3), some (.inl v4), some (.inl v5)], [.inl c1, .inr (.inr 100), .inl v5], g) rfl ?_
          by_cases hc : 0 ≤ c1 ∧ c1 < 170
          · rw [if_pos hc] at h
            refine es (92, [some (.inr (.inr 92)), some (.inl c1), none, some (.inl c3), some (.inl v4), some (.inl v5)], [.inl (g 100 c1.toNat), .inl v5], g) (if_pos hc) ?_
            by_cases hc : v5 = (g 100 c1.toNat)
            · rw [if_pos hc] at h
              refine es (154, [some (.inr (.inr 92)), some (.inl c1), none, some (.inl c3), some (.inl v4), some (.inl v5)], [], g) (congrArg some (if_pos hc)) ?_
              refine ev_runs 2 (154, [some (.inr (.inr 92)), some (.inl c1), none, some (.inl c3), some (.inl v4), some (.inl v5)], [], g) (67, [some (.inr (.inr 92)), some (.inl c1), none, some (.inl c3), some (.inl v4), some (.inl (wr (v5 + 1)))], [], g) rfl ?_
              exact ev_le (L := [some (.inr (.inr 92)), some (.inl c1), none, some (.inl c3), some (.inl v4), some (.inl (wr (v5 + 1)))]) (by simp [Lle]) (ih67 v4 (wr (v5 + 1)) g r g' h)
            · rw [if_neg hc] at h
              refine es (95, [some (.inr (.inr 92)), some (.inl c1), none, some (.inl c3), some (.inl v4), some (.inl v5)], [], g) (congrArg some (if_neg hc)) ?_
              refine ev_runs 5 (95, [some (.inr (.inr 92)), some (.inl c1), none, some (.inl c3), some (.inl v4), some (.inl v5)], [], g) (103, [some (.inr (.inr 92)), some (.inl c1), none, some (.inl c3), some (.inl v4), some (.inl v5)], [.inl c1, .inr (.inr 102), .inl 6, .inl c3], g) rfl ?_
              by_cases hc : 0 ≤ c1 ∧ c1 < 170
              · rw [if_pos hc] at h
                refine es (104, [some (.inr (.inr 92)), some (.inl c1), none, some (.inl c3), some (.inl v4), some (.inl v5)], [.inl (g 102 c1.toNat), .inl 6, .inl c3], g) (if_pos hc) ?_
                refine ev_runs 7 (104, [some (.inr (.inr 92)), some (.inl c1), none, some (.inl c3), some (.inl v4), some (.inl v5)], [.inl (g 102 c1.toNat), .inl 6, .inl c3], g) (112, [some (.inr (.inr 92)), some (.inl c1), none, some (.inl c3), some (.inl v4), some (.inl v5)], [.inl 1, .inl (jand (jshr c3 (wr ((wr (6 * (g 102 c1.toNat))) + v5))) 1)], g) rfl ?_
                by_cases hc : ¬ (jand (jshr c3 (wr ((wr (6 * (g 102 c1.toNat))) + v5))) 1) = 1
                · rw [if_pos hc] at h
                  refine es (154, [some (.inr (.inr 92)), some (.inl c1), none, some (.inl c3), some (.inl v4), some (.inl v5)], [], g) (congrArg some (if_pos hc)) ?_
                  refine ev_runs 2 (154, [some (.inr (.inr 92)), some (.inl c1), none, some (.inl c3), some (.inl v4), some (.inl v5)], [], g) (67, [some (.inr (.inr 92)), some (.inl c1), none, some (.inl c3), some (.inl v4), some (.inl (wr (v5 + 1)))], [], g) rfl ?_
                  exact ev_le (L := [some (.inr (.inr 92)), some (.inl c1), none, some (.inl c3), some (.inl v4), some (.inl (wr (v5 + 1)))]) (by simp [Lle]) (ih67 v4 (wr (v5 + 1)) g r g' h)
                · rw [if_neg hc] at h
                  refine es (115, [some (.inr (.inr 92)), some (.inl c1), none, some (.inl c3), some (.inl v4), some (.inl v5)], [], g) (congrArg some (if_neg hc)) ?_
                  refine ev_runs 1 (115, [some (.inr (.inr 92)), some (.inl c1), none, some (.inl c3), some (.inl v4), some (.inl v5)], [], g) (117, [some (.inr (.inr 92)), some (.inl c1), none, some (.inl c3), some (.inl v4), some (.inl v5)], [.inl v4], g) rfl ?_
                  by_cases hc : v4 = 0
                  · rw [if_pos hc] at h
                    refine es (151, [some (.inr (.inr 92)), some (.inl c1), none, some (.inl c3), some (.inl v4), some (.inl v5)], [], g) (congrArg some (if_pos hc)) ?_
                    refine ev_runs 4 (151, [some (.inr (.inr 92)), some (.inl c1), none, some (.inl c3), some (.inl v4), some (.inl v5)], [], g) (67, [some (.inr (.inr 92)), some (.inl c1), none, some (.inl c3), some (.inl 0), some (.inl (wr (v5 + 1)))], [], g) rfl ?_
                    exact ev_le (L := [some (.inr (.inr 92)), some (.inl c1), none, some (.inl c3), some (.inl 0), some (.inl (wr (v5 + 1)))]) (by simp [Lle]) (ih67 0 (wr (v5 + 1)) g r g' h)
                  · rw [if_neg hc] at h
                    refine es (120, [some (.inr (.inr 92)), some (.inl c1), none, some (.inl c3), some (.inl v4), some (.inl v5)], [], g) (congrArg some (if_neg hc)) ?_
                    refine ev_runs 4 (120, [some (.inr (.inr 92)), some (.inl c1), none, some (.inl c3), some (.inl v4), some (.inl v5)], [], g) (126, [some (.inr (.inr 92)), some (.inl c1), none, some (.inl c3), some (.inl v4), some (.inl v5)], [.inl c1, .inr (.inr 100), .inr (.inr 92)], g) rfl ?_
                    by_cases hc : 0 ≤ c1 ∧ c1 < 170
                    · rw [if_pos hc] at h
                      refine es (127, [some (.inr (.inr 92)), some (.inl c1), none, some (.inl c3), some (.inl v4), some (.inl v5)], [.inl (g 100 c1.toNat), .inr (.inr 92)], g) (if_pos hc) ?_
                      refine ev_runs 6 (127, [some (.inr (.inr 92)), some (.inl c1), none, some (.inl c3), some (.inl v4), some (.inl v5)], [.inl (g 100 c1.toNat), .inr (.inr 92)], g) (139, [some (.inr (.inr 92)), some (.inl c1), none, some (.inl c3), some (.inl v4), some (.inl v5)], [.inl (g 92 35), .inr (.inr 114), .inl 26, .inl v5, .inl (g 100 c1.toNat), .inr (.inr 92)], g) rfl ?_
                      by_cases hc : 0 ≤ (g 92 35) ∧ (g 92 35) < 30
                      · rw [if_pos hc] at h
                        refine es (140, [some (.inr (.inr 92)), some (.inl c1), none, some (.inl c3), some (.inl v4), some (.inl v5)], [.inl (g 114 (g 92 35).toNat), .inl 26, .inl v5, .inl (g 100 c1.toNat), .inr (.inr 92)], g) (if_pos hc) ?_
                        refine ev_runs 1 (140, [some (.inr (.inr 92)), some (.inl c1), none, some (.inl c3), some (.inl v4), some (.inl v5)], [.inl (g 114 (g 92 35).toNat), .inl 26, .inl v5, .inl (g 100 c1.toNat), .inr (.inr 92)], g) (141, [some (.inr (.inr 92)), some (.inl c1), none, some (.inl c3), some (.inl v4), some (.inl v5)], [.inl (wr (26 + (g 114 (g 92 35).toNat))), .inl v5, .inl (g 100 c1.toNat), .inr (.inr 92)], g) rfl ?_
                        obtain ⟨q1, hq, h⟩ := Option.bind_eq_some_iff.mp h
                        refine ec 77 144 [.inr (.inr 92), .inl (g 100 c1.toNat), .inl v5, .inl (wr (26 + (g 114 (g 92 35).toNat)))] [] rfl (ev_Md_says (g 100 c1.toNat) v5 (wr (26 + (g 114 (g 92 35).toNat))) g q1.1 q1.2 hq) ?_
                        show Ev 78 144 [some (.inr (.inr 92)), some (.inl c1), none, some (.inl c3), some (.inl v4), some (.inl v5)] [.inl q1.1] q1.2 _ _
                        by_cases hc : q1.1 = 0
                        · rw [if_pos hc] at h
                          refine es (151, [some (.inr (.inr 92)), some (.inl c1), none, some (.inl c3), some (.inl v4), some (.inl v5)], [], q1.2) (congrArg some (if_pos hc)) ?_
                          refine ev_runs 4 (151, [some (.inr (.inr 92)), some (.inl c1), none, some (.inl c3), some (.inl v4), some (.inl v5)], [], q1.2) (67, [some (.inr (.inr 92)), some (.inl c1), none, some (.inl c3), some (.inl 0), some (.inl (wr (v5 + 1)))], [], q1.2) rfl ?_
                          exact ev_le (L := [some (.inr (.inr 92)), some (.inl c1), none, some (.inl c3), some (.inl 0), some (.inl (wr (v5 + 1)))]) (by simp [Lle]) (ih67 0 (wr (v5 + 1)) q1.2 r g' h)
                        · rw [if_neg hc] at h
                          refine es (147, [some (.inr (.inr 92)), some (.inl c1), none, some (.inl c3), some (.inl v4), some (.inl v5)], [], q1.2) (congrArg some (if_neg hc)) ?_
                          refine ev_runs 5 (147, [some (.inr (.inr 92)), some (.inl c1), none, some (.inl c3), some (.inl v4), some (.inl v5)], [], q1.2) (67, [some (.inr (.inr 92)), some (.inl c1), none, some (.inl c3), some (.inl 1), some (.inl (wr (v5 + 1)))], [], q1.2) rfl ?_
                          exact ev_le (L := [some (.inr (.inr 92)), some (.inl c1), none, some (.inl c3), some (.inl 1), some (.inl (wr (v5 + 1)))]) (by simp [Lle]) (ih67 1 (wr (v5 + 1)) q1.2 r g' h)
                      · rw [if_neg hc] at h; cases h
                    · rw [if_neg hc] at h; cases h
              · rw [if_neg hc] at h; cases h
          · rw [if_neg hc] at h; cases h
      · rw [if_neg hc] at h; cases h
set_option maxRecDepth 100000 in
set_option maxHeartbeats 4000000 in
theorem ev_Md_chooses (a1 a2 a3 : Int) (g : Gx) (r : Int) (g' : Gx) (h : Md_chooses a1 a2 a3 g = some (r, g')) : Ev 78 0 [some (.inr (.inr 92)), some (.inl a1), some (.inl a2), some (.inl a3), none, none] [] g (some (.inl r)) g' := by
  rw [Md_chooses] at h
  refine ev_runs 3 (0, [some (.inr (.inr 92)), some (.inl a1), some (.inl a2), some (.inl a3), none, none], [], g) (6, [some (.inr (.inr 92)), some (.inl a1), some (.inl a2), some (.inl a3), none, none], [.inl 30, .inl (g 92 35)], g) rfl ?_
  by_cases hc : ¬ (g 92 35) = 30
  · rw [if_pos hc] at h
    refine es (11, [some (.inr (.inr 92)), some (.inl a1), some (.inl a2), some (.inl a3), none, none], [], g) (congrArg some (if_pos hc)) ?_
    refine ev_runs 3 (11, [some (.inr (.inr 92)), some (.inl a1), some (.inl a2), some (.inl a3), none, none], [], g) (16, [some (.inr (.inr 92)), some (.inl a1), some (.inl a2), some (.inl a3), none, none], [.inl a2, .inl (g 92 35)], g) rfl ?_
    by_cases hc : (g 92 35) < a2
    · rw [if_pos hc] at h
      refine es (29, [some (.inr (.inr 92)), some (.inl a1), some (.inl a2), some (.inl a3), none, none], [], g) (congrArg some (if_pos hc)) ?_
      refine ev_runs 7 (29, [some (.inr (.inr 92)), some (.inl a1), some (.inl a2), some (.inl a3), none, none], [], g) (42, [some (.inr (.inr 92)), some (.inl a1), some (.inl a2), some (.inl a3), none, none], [.inl a1, .inr (.inr 101), .inl (g 92 35), .inr (.inr 115)], g) rfl ?_
      by_cases hc : 0 ≤ a1 ∧ a1 < 170
      · rw [if_pos hc] at h
        refine es (43, [some (.inr (.inr 92)), some (.inl a1), some (.inl a2), some (.inl a3), none, none], [.inl (g 101 a1.toNat), .inl (g 92 35), .inr (.inr 115)], g) (if_pos hc) ?_
        refine ev_runs 2 (43, [some (.inr (.inr 92)), some (.inl a1), some (.inl a2), some (.inl a3), none, none], [.inl (g 101 a1.toNat), .inl (g 92 35), .inr (.inr 115)], g) (45, [some (.inr (.inr 92)), some (.inl a1), some (.inl a2), some (.inl a3), none, none], [.inl (wr ((g 101 a1.toNat) - 1)), .inl (g 92 35), .inr (.inr 115)], g) rfl ?_
        by_cases hc : 0 ≤ (g 92 35) ∧ (g 92 35) < 30
        · rw [if_pos hc] at h
          refine es (46, [some (.inr (.inr 92)), some (.inl a1), some (.inl a2), some (.inl a3), none, none], [], (gset g 115 ((g 92 35).toNat) (wr ((g 101 a1.toNat) - 1)))) (if_pos hc) ?_
          refine ev_runs 7 (46, [some (.inr (.inr 92)), some (.inl a1), some (.inl a2), some (.inl a3), none, none], [], (gset g 115 ((g 92 35).toNat) (wr ((g 101 a1.toNat) - 1)))) (59, [some (.inr (.inr 92)), some (.inl a1), some (.inl a2), some (.inl a3), none, none], [.inl a1, .inr (.inr 100), .inl (g 92 35), .inr (.inr 116)], (gset g 115 ((g 92 35).toNat) (wr ((g 101 a1.toNat) - 1)))) rfl ?_
          by_cases hc : 0 ≤ a1 ∧ a1 < 170
          · rw [if_pos hc] at h
            refine es (60, [some (.inr (.inr 92)), some (.inl a1), some (.inl a2), some (.inl a3), none, none], [.inl (g 100 a1.toNat), .inl (g 92 35), .inr (.inr 116)], (gset g 115 ((g 92 35).toNat) (wr ((g 101 a1.toNat) - 1)))) (if_pos hc) ?_
            by_cases hc : 0 ≤ (g 92 35) ∧ (g 92 35) < 30
            · rw [if_pos hc] at h
              refine es (61, [some (.inr (.inr 92)), some (.inl a1), some (.inl a2), some (.inl a3), none, none], [], (gset (gset g 115 ((g 92 35).toNat) (wr ((g 101 a1.toNat) - 1))) 116 ((g 92 35).toNat) (g 100 a1.toNat))) (if_pos hc) ?_
              refine ev_runs 4 (61, [some (.inr (.inr 92)), some (.inl a1), some (.inl a2), some (.inl a3), none, none], [], (gset (gset g 115 ((g 92 35).toNat) (wr ((g 101 a1.toNat) - 1))) 116 ((g 92 35).toNat) (g 100 a1.toNat))) (67, [some (.inr (.inr 92)), some (.inl a1), some (.inl a2), some (.inl a3), some (.inl 1), some (.inl 0)], [], (gset (gset g 115 ((g 92 35).toNat) (wr ((g 101 a1.toNat) - 1))) 116 ((g 92 35).toNat) (g 100 a1.toNat))) rfl ?_
              refine ev_le (L := [some (.inr (.inr 92)), some (.inl a1), none, some (.inl a3), some (.inl 1), some (.inl 0)]) (by simp [Lle]) ?_
              refine ev_Md_chooses_l67 a1 a3 _ ?_ fu 1 0 (gset (gset g 115 ((g 92 35).toNat) (wr ((g 101 a1.toNat) - 1))) 116 ((g 92 35).toNat) (g 100 a1.toNat)) r g' h
              · intro x2 g3 r g' h
                refine ev_runs 7 (160, [some (.inr (.inr 92)), none, none, none, some (.inl x2), none], [], g3) (172, [some (.inr (.inr 92)), none, none, none, some (.inl x2), none], [.inl x2], (gset g3 92 35 (wr ((g3 92 35) + 1)))) rfl ?_
                by_cases hc : x2 = 0 ∨ x2 = 1
                · rw [if_pos hc] at h
                  cases h
                  exact er (if_pos hc)
                · rw [if_neg hc] at h; cases h
            · rw [if_neg hc] at h; cases h
          · rw [if_neg hc] at h; cases h
        · rw [if_neg hc] at h; cases h
      · rw [if_neg hc] at h; cases h
    · rw [if_neg hc] at h
      refine es (19, [some (.inr (.inr 92)), some (.inl a1), some (.inl a2), some (.inl a3), none, none], [], g) (congrArg some (if_neg hc)) ?_
      refine ev_runs 5 (19, [some (.inr (.inr 92)), some (.inl a1), some (.inl a2), some (.inl a3), none, none], [], g) (28, [some (.inr (.inr 92)), some (.inl a1), some (.inl a2), some (.inl a3), none, none], [.inl 0, .inl (g 92 35), .inr (.inr 114)], g) rfl ?_
      by_cases hc : 0 ≤ (g 92 35) ∧ (g 92 35) < 30
      · rw [if_pos hc] at h
        refine es (29, [some (.inr (.inr 92)), some (.inl a1), some (.inl a2), some (.inl a3), none, none], [], (gset g 114 ((g 92 35).toNat) 0)) (if_pos hc) ?_
        refine ev_runs 7 (29, [some (.inr (.inr 92)), some (.inl a1), some (.inl a2), some (.inl a3), none, none], [], (gset g 114 ((g 92 35).toNat) 0)) (42, [some (.inr (.inr 92)), some (.inl a1), some (.inl a2), some (.inl a3), none, none], [.inl a1, .inr (.inr 101), .inl (g 92 35), .inr (.inr 115)], (gset g 114 ((g 92 35).toNat) 0)) rfl ?_
        by_cases hc : 0 ≤ a1 ∧ a1 < 170
        · rw [if_pos hc] at h
          refine es (43, [some (.inr (.inr 92)), some (.inl a1), some (.inl a2), some (.inl a3), none, none], [.inl (g 101 a1.toNat), .inl (g 92 35), .inr (.inr 115)], (gset g 114 ((g 92 35).toNat) 0)) (if_pos hc) ?_
          refine ev_runs 2 (43, [some (.inr (.inr 92)), some (.inl a1), some (.inl a2), some (.inl a3), none, none], [.inl (g 101 a1.toNat), .inl (g 92 35), .inr (.inr 115)], (gset g 114 ((g 92 35).toNat) 0)) (45, [some (.inr (.inr 92)), some (.inl a1), some (.inl a2), some (.inl a3), none, none], [.inl (wr ((g 101 a1.toNat) - 1)), .inl (g 92 35), .inr (.inr 115)], (gset g 114 ((g 92 35).toNat) 0)) rfl ?_
          by_cases hc : 0 ≤ (g 92 35) ∧ (g 92 35) < 30
          · rw [if_pos hc] at h
            refine es (46, [some (.inr (.inr 92)), some (.inl a1), some (.inl a2), some (.inl a3), none, none], [], (gset (gset g 114 ((g 92 35).toNat) 0) 115 ((g 92 35).toNat) (wr ((g 101 a1.toNat) - 1)))) (if_pos hc) ?_
            refine ev_runs 7 (46, [some (.inr (.inr 92)), some (.inl a1), some (.inl a2), some (.inl a3), none, none], [], (gset (gset g 114 ((g 92 35).toNat) 0) 115 ((g 92 35).toNat) (wr ((g 101 a1.toNat) - 1)))) (59, [some (.inr (.inr 92)), some (.inl a1), some (.inl a2), some (.inl a3), none, none], [.inl a1, .inr (.inr 100), .inl (g 92 35), .inr (.inr 116)], (gset (gset g 114 ((g 92 35).toNat) 0) 115 ((g 92 35).toNat) (wr ((g 101 a1.toNat) - 1)))) rfl ?_
            by_cases hc : 0 ≤ a1 ∧ a1 < 170
            · rw [if_pos hc] at h
              refine es (60, [some (.inr (.inr 92)), some (.inl a1), some (.inl a2), some (.inl a3), none, none], [.inl (g 100 a1.toNat), .inl (g 92 35), .inr (.inr 116)], (gset (gset g 114 ((g 92 35).toNat) 0) 115 ((g 92 35).toNat) (wr ((g 101 a1.toNat) - 1)))) (if_pos hc) ?_
              by_cases hc : 0 ≤ (g 92 35) ∧ (g 92 35) < 30
              · rw [if_pos hc] at h
                refine es (61, [some (.inr (.inr 92)), some (.inl a1), some (.inl a2), some (.inl a3), none, none], [], (gset (gset (gset g 114 ((g 92 35).toNat) 0) 115 ((g 92 35).toNat) (wr ((g 101 a1.toNat) - 1))) 116 ((g 92 35).toNat) (g 100 a1.toNat))) (if_pos hc) ?_
                refine ev_runs 4 (61, [some (.inr (.inr 92)), some (.inl a1), some (.inl a2), some (.inl a3), none, none], [], (gset (gset (gset g 114 ((g 92 35).toNat) 0) 115 ((g 92 35).toNat) (wr ((g 101 a1.toNat) - 1))) 116 ((g 92 35).toNat) (g 100 a1.toNat))) (67, [some (.inr (.inr 92)), some (.inl a1), some (.inl a2), some (.inl a3), some (.inl 1), some (.inl 0)], [], (gset (gset (gset g 114 ((g 92 35).toNat) 0) 115 ((g 92 35).toNat) (wr ((g 101 a1.toNat) - 1))) 116 ((g 92 35).toNat) (g 100 a1.toNat))) rfl ?_
                refine ev_le (L := [some (.inr (.inr 92)), some (.inl a1), none, some (.inl a3), some (.inl 1), some (.inl 0)]) (by simp [Lle]) ?_
                refine ev_Md_chooses_l67 a1 a3 _ ?_ fu 1 0 (gset (gset (gset g 114 ((g 92 35).toNat) 0) 115 ((g 92 35).toNat) (wr ((g 101 a1.toNat) - 1))) 116 ((g 92 35).toNat) (g 100 a1.toNat)) r g' h
                · intro x4 g5 r g' h
                  refine ev_runs 7 (160, [some (.inr (.inr 92)), none, none, none, some (.inl x4), none], [], g5) (172, [some (.inr (.inr 92)), none, none, none, some (.inl x4), none], [.inl x4], (gset g5 92 35 (wr ((g5 92 35) + 1)))) rfl ?_
                  by_cases hc : x4 = 0 ∨ x4 = 1
                  · rw [if_pos hc] at h
                    cases h
                    exact er (if_pos hc)
                  · rw [if_neg hc] at h; cases h
              · rw [if_neg hc] at h; cases h
            · rw [if_neg hc] at h; cases h
          · rw [if_neg hc] at h; cases h
        · rw [if_neg hc] at h; cases h
      · rw [if_neg hc] at h; cases h
  · rw [if_neg hc] at h
    refine es (9, [some (.inr (.inr 92)), some (.inl a1), some (.inl a2), some (.inl a3), none, none], [], g) (congrArg some (if_neg hc)) ?_
    refine ev_runs 1 (9, [some (.inr (.inr 92)), some (.inl a1), some (.inl a2), some (.inl a3), none, none], [], g) (10, [some (.inr (.inr 92)), some (.inl a1), some (.inl a2), some (.inl a3), none, none], [.inl 0], g) rfl ?_
    cases h
    exact er rfl
def Md_goes_l12 (c1 : Int) (c2 : Int) (K12_208 : Gx → Option (Int × Gx)) : Nat → Int → Gx → Option (Int × Gx)
  | 0, _, _ => none
  | n12 + 1, v3, g =>
    if (g 92 9) ≤ v3 then
      K12_208 g
    else
      if 0 ≤ v3 ∧ v3 < 170 then
      if ¬ (g 99 v3.toNat) = 0 then
        if 0 ≤ v3 ∧ v3 < 170 then
        if ¬ (g 99 v3.toNat) = 1 then
          if 0 ≤ v3 ∧ v3 < 170 then
          if ¬ (g 99 v3.toNat) = 2 then
            if 0 ≤ v3 ∧ v3 < 170 then
            if ¬ (g 99 v3.toNat) = 3 then
              if 0 ≤ v3 ∧ v3 < 170 then
              if 0 ≤ (g 102 v3.toNat) ∧ (g 102 v3.toNat) < 170 then
              if 0 ≤ (g 102 v3.toNat) ∧ (g 102 v3.toNat) < 170 then
              lett (if (g 101 (g 102 v3.toNat).toNat) ≤ (g 117 (g 102 v3.toNat).toNat) then (wr (v3 + 1)) else (wr ((g 102 v3.toNat) + 1))) (fun y1 =>
              if 0 ≤ (g 102 v3.toNat) ∧ (g 102 v3.toNat) < 170 then
              if 0 ≤ (g 102 v3.toNat) ∧ (g 102 v3.toNat) < 170 then
              Md_goes_l12 c1 c2 K12_208 n12 y1 (gset g 117 ((g 102 v3.toNat).toNat) (wr ((g 117 (g 102 v3.toNat).toNat) + 1)))
              else none
              else none)
              else none
              else none
              else none
            else
              if 0 ≤ v3 ∧ v3 < 170 then
              Md_goes_l12 c1 c2 K12_208 n12 (wr (v3 + 1)) (gset g 117 v3.toNat 1)
              else none
            else none
          else
            if 0 ≤ v3 ∧ v3 < 170 then
            if 0 ≤ (g 102 v3.toNat) ∧ (g 102 v3.toNat) < 170 then
            Md_goes_l12 c1 c2 K12_208 n12 (g 103 (g 102 v3.toNat).toNat) g
            else none
            else none
          else none
        else
          Option.bind (Md_chooses v3 c1 c2 g) (fun q2 =>
          if ¬ q2.1 = 0 then
            if 0 ≤ (wr ((q2.2 92 35) - 1)) ∧ (wr ((q2.2 92 35) - 1)) < 30 then
            if 0 ≤ (wr ((wr (4 * v3)) + (q2.2 114 (wr ((q2.2 92 35) - 1)).toNat))) ∧ (wr ((wr (4 * v3)) + (q2.2 114 (wr ((q2.2 92 35) - 1)).toNat))) < 680 then
            Md_goes_l12 c1 c2 K12_208 n12 (q2.2 104 (wr ((wr (4 * v3)) + (q2.2 114 (wr ((q2.2 92 35) - 1)).toNat))).toNat) q2.2
            else none
            else none
          else
            some (0, q2.2))
        else none
      else
        if 0 ≤ v3 ∧ v3 < 170 then
        if 0 ≤ v3 ∧ v3 < 170 then
        if 0 ≤ v3 ∧ v3 < 170 then
        Option.bind (Md_says (g 100 v3.toNat) (g 101 v3.toNat) (g 102 v3.toNat) g) (fun q3 =>
        if ¬ q3.1 = 0 then
          Md_goes_l12 c1 c2 K12_208 n12 (wr (v3 + 1)) q3.2
        else
          some (0, q3.2))
        else none
        else none
        else none
      else none
def Md_goes (a1 a2 : Int) (g : Gx) : Option (Int × Gx) :=
  Md_goes_l12 a1 a2
    (fun g4 =>
      some (1, g4))
    fu 0 (gset (gset g 92 36 0) 92 35 0)
set_option maxRecDepth 100000 in
set_option maxHeartbeats 4000000 in
theorem ev_Md_goes_l12 (c1 : Int) (c2 : Int) (K12_208 : Gx → Option (Int × Gx)) (hK12_208 : ∀ (g : Gx) (r : Int) (g' : Gx), K12_208 g = some (r, g') → Ev 79 208 [none, none, none, none, none, none] [] g (some (.inl r)) g') : ∀ (n12 : Nat) (v3 : Int) (g : Gx) (r : Int) (g' : Gx), Md_goes_l12 c1 c2 K12_208 n12 v3 g = some (r, g') → Ev 79 12 [some (.inr (.inr 92)), some (.inl c1), some (.inl c2), some (.inl v3), none, none] [] g (some (.inl r)) g' := by
  intro n12
  induction n12 with
  | zero => intro v3 g r g' h; cases h
  | succ n12 ih12 =>
    intro v3 g r g' h
    rw [Md_goes_l12] at h
    refine ev_runs 3 (12, [some (.inr (.inr 92)), some (.inl c1), some (.inl c2), some (.inl v3), none, none], [], g) (17, [some (.inr (.inr 92)), some (.inl c1), some (.inl c2), some (.inl v3), none, none], [.inl (g 92 9), .inl v3], g) rfl ?_
    by_cases hc : (g 92 9) ≤ v3
    · rw [if_pos hc] at h
      refine es (208, [some (.inr (.inr 92)), some (.inl c1), some (.inl c2), some (.inl v3), none, none], [], g) (congrArg some (if_pos hc)) ?_
      exact ev_le (L := [none, none, none, none, none, none]) (by simp [Lle]) (hK12_208 g r g' h)
    · rw [if_neg hc] at h
      refine es (20, [some (.inr (.inr 92)), some (.inl c1), some (.inl c2), some (.inl v3), none, none], [], g) (congrArg some (if_neg hc)) ?_
      refine ev_runs 7 (20, [some (.inr (.inr 92)), some (.inl c1), some (.inl c2), some (.inl v3), none, none], [], g) (30, [some (.inr (.inr 92)), some (.inl c1), some (.inl c2), some (.inl v3), some (.inl (wr (v3 + 1))), none], [.inl v3, .inr (.inr 99)], g) rfl ?_
      by_cases hc : 0 ≤ v3 ∧ v3 < 170
      · rw [if_pos hc] at h
        refine es (31, [some (.inr (.inr 92)), some (.inl c1), some (.inl c2), some (.inl v3), some (.inl (wr (v3 + 1))), none], [.inl (g 99 v3.toNat)], g) (if_pos hc) ?_
        by_cases hc : ¬ (g 99 v3.toNat) = 0
        · rw [if_pos hc] at h
          refine es (61, [some (.inr (.inr 92)), some (.inl c1), some (.inl c2), some (.inl v3), some (.inl (wr (v3 + 1))), none], [], g) (congrArg some (if_pos hc)) ?_
          refine ev_runs 3 (61, [some (.inr (.inr 92)), some (.inl c1), some (.inl c2), some (.inl v3), some (.inl (wr (v3 + 1))), none], [], g) (66, [some (.inr (.inr 92)), some (.inl c1), some (.inl c2), some (.inl v3), some (.inl (wr (v3 + 1))), none], [.inl v3, .inr (.inr 99)], g) rfl ?_
          by_cases hc : 0 ≤ v3 ∧ v3 < 170
          · rw [if_pos hc] at h
            refine es (67, [some (.inr (.inr 92)), some (.inl c1), some (.inl c2), some (.inl v3), some (.inl (wr (v3 + 1))), none], [.inl (g 99 v3.toNat)], g) (if_pos hc) ?_
            refine ev_runs 1 (67, [some (.inr (.inr 92)), some (.inl c1), some (.inl c2), some (.inl v3), some (.inl (wr (v3 + 1))), none], [.inl (g 99 v3.toNat)], g) (68, [some (.inr (.inr 92)), some (.inl c1), some (.inl c2), some (.inl v3), some (.inl (wr (v3 + 1))), none], [.inl 1, .inl (g 99 v3.toNat)], g) rfl ?_
            by_cases hc : ¬ (g 99 v3.toNat) = 1
            · rw [if_pos hc] at h
              refine es (108, [some (.inr (.inr 92)), some (.inl c1), some (.inl c2), some (.inl v3), some (.inl (wr (v3 + 1))), none], [], g) (congrArg some (if_pos hc)) ?_
              refine ev_runs 3 (108, [some (.inr (.inr 92)), some (.inl c1), some (.inl c2), some (.inl v3), some (.inl (wr (v3 + 1))), none], [], g) (113, [some (.inr (.inr 92)), some (.inl c1), some (.inl c2), some (.inl v3), some (.inl (wr (v3 + 1))), none], [.inl v3, .inr (.inr 99)], g) rfl ?_
              by_cases hc : 0 ≤ v3 ∧ v3 < 170
              · rw [if_pos hc] at h
                refine es (114, [some (.inr (.inr 92)), some (.inl c1), some (.inl c2), some (.inl v3), some (.inl (wr (v3 + 1))), none], [.inl (g 99 v3.toNat)], g) (if_pos hc) ?_
                refine ev_runs 1 (114, [some (.inr (.inr 92)), some (.inl c1), some (.inl c2), some (.inl v3), some (.inl (wr (v3 + 1))), none], [.inl (g 99 v3.toNat)], g) (115, [some (.inr (.inr 92)), some (.inl c1), some (.inl c2), some (.inl v3), some (.inl (wr (v3 + 1))), none], [.inl 2, .inl (g 99 v3.toNat)], g) rfl ?_
                by_cases hc : ¬ (g 99 v3.toNat) = 2
                · rw [if_pos hc] at h
                  refine es (134, [some (.inr (.inr 92)), some (.inl c1), some (.inl c2), some (.inl v3), some (.inl (wr (v3 + 1))), none], [], g) (congrArg some (if_pos hc)) ?_
                  refine ev_runs 3 (134, [some (.inr (.inr 92)), some (.inl c1), some (.inl c2), some (.inl v3), some (.inl (wr (v3 + 1))), none], [], g) (139, [some (.inr (.inr 92)), some (.inl c1), some (.inl c2), some (.inl v3), some (.inl (wr (v3 + 1))), none], [.inl v3, .inr (.inr 99)], g) rfl ?_
                  by_cases hc : 0 ≤ v3 ∧ v3 < 170
                  · rw [if_pos hc] at h
                    refine es (140, [some (.inr (.inr 92)), some (.inl c1), some (.inl c2), some (.inl v3), some (.inl (wr (v3 + 1))), none], [.inl (g 99 v3.toNat)], g) (if_pos hc) ?_
                    refine ev_runs 1 (140, [some (.inr (.inr 92)), some (.inl c1), some (.inl c2), some (.inl v3), some (.inl (wr (v3 + 1))), none], [.inl (g 99 v3.toNat)], g) (141, [some (.inr (.inr 92)), some (.inl c1), some (.inl c2), some (.inl v3), some (.inl (wr (v3 + 1))), none], [.inl 3, .inl (g 99 v3.toNat)], g) rfl ?_
                    by_cases hc : ¬ (g 99 v3.toNat) = 3
                    · rw [if_pos hc] at h
                      refine es (154, [some (.inr (.inr 92)), some (.inl c1), some (.inl c2), some (.inl v3), some (.inl (wr (v3 + 1))), none], [], g) (congrArg some (if_pos hc)) ?_
                      refine ev_runs 3 (154, [some (.inr (.inr 92)), some (.inl c1), some (.inl c2), some (.inl v3), some (.inl (wr (v3 + 1))), none], [], g) (159, [some (.inr (.inr 92)), some (.inl c1), some (.inl c2), some (.inl v3), some (.inl (wr (v3 + 1))), none], [.inl v3, .inr (.inr 102)], g) rfl ?_
                      by_cases hc : 0 ≤ v3 ∧ v3 < 170
                      · rw [if_pos hc] at h
                        refine es (160, [some (.inr (.inr 92)), some (.inl c1), some (.inl c2), some (.inl v3), some (.inl (wr (v3 + 1))), none], [.inl (g 102 v3.toNat)], g) (if_pos hc) ?_
                        refine ev_runs 4 (160, [some (.inr (.inr 92)), some (.inl c1), some (.inl c2), some (.inl v3), some (.inl (wr (v3 + 1))), none], [.inl (g 102 v3.toNat)], g) (168, [some (.inr (.inr 92)), some (.inl c1), some (.inl c2), some (.inl v3), some (.inl (wr (v3 + 1))), some (.inl (g 102 v3.toNat))], [.inl (g 102 v3.toNat), .inr (.inr 117)], g) rfl ?_
                        by_cases hc : 0 ≤ (g 102 v3.toNat) ∧ (g 102 v3.toNat) < 170
                        · rw [if_pos hc] at h
                          refine es (169, [some (.inr (.inr 92)), some (.inl c1), some (.inl c2), some (.inl v3), some (.inl (wr (v3 + 1))), some (.inl (g 102 v3.toNat))], [.inl (g 117 (g 102 v3.toNat).toNat)], g) (if_pos hc) ?_
                          refine ev_runs 3 (169, [some (.inr (.inr 92)), some (.inl c1), some (.inl c2), some (.inl v3), some (.inl (wr (v3 + 1))), some (.inl (g 102 v3.toNat))], [.inl (g 117 (g 102 v3.toNat).toNat)], g) (175, [some (.inr (.inr 92)), some (.inl c1), some (.inl c2), some (.inl v3), some (.inl (wr (v3 + 1))), some (.inl (g 102 v3.toNat))], [.inl (g 102 v3.toNat), .inr (.inr 101), .inl (g 117 (g 102 v3.toNat).toNat)], g) rfl ?_
                          by_cases hc : 0 ≤ (g 102 v3.toNat) ∧ (g 102 v3.toNat) < 170
                          · rw [if_pos hc] at h
                            refine es (176, [some (.inr (.inr 92)), some (.inl c1), some (.inl c2), some (.inl v3), some (.inl (wr (v3 + 1))), some (.inl (g 102 v3.toNat))], [.inl (g 101 (g 102 v3.toNat).toNat), .inl (g 117 (g 102 v3.toNat).toNat)], g) (if_pos hc) ?_
                            obtain ⟨y1, hy1, h⟩ := lett_inv h
                            have hjy1 : Ev 79 189 [some (.inr (.inr 92)), some (.inl c1), some (.inl c2), none, none, some (.inl (g 102 v3.toNat))] [.inl y1] g (some (.inl r)) g' := by
                              refine ev_runs 5 (189, [some (.inr (.inr 92)), some (.inl c1), some (.inl c2), none, none, some (.inl (g 102 v3.toNat))], [.inl y1], g) (198, [some (.inr (.inr 92)), some (.inl c1), some (.inl c2), none, some (.inl y1), some (.inl (g 102 v3.toNat))], [.inl (g 102 v3.toNat), .inr (.inr 117), .inl (g 102 v3.toNat), .inr (.inr 117)], g) rfl ?_
                              by_cases hc : 0 ≤ (g 102 v3.toNat) ∧ (g 102 v3.toNat) < 170
                              · rw [if_pos hc] at h
                                refine es (199, [some (.inr (.inr 92)), some (.inl c1), some (.inl c2), none, some (.inl y1), some (.inl (g 102 v3.toNat))], [.inl (g 117 (g 102 v3.toNat).toNat), .inl (g 102 v3.toNat), .inr (.inr 117)], g) (if_pos hc) ?_
                                refine ev_runs 2 (199, [some (.inr (.inr 92)), some (.inl c1), some (.inl c2), none, some (.inl y1), some (.inl (g 102 v3.toNat))], [.inl (g 117 (g 102 v3.toNat).toNat), .inl (g 102 v3.toNat), .inr (.inr 117)], g) (201, [some (.inr (.inr 92)), some (.inl c1), some (.inl c2), none, some (.inl y1), some (.inl (g 102 v3.toNat))], [.inl (wr ((g 117 (g 102 v3.toNat).toNat) + 1)), .inl (g 102 v3.toNat), .inr (.inr 117)], g) rfl ?_
                                by_cases hc : 0 ≤ (g 102 v3.toNat) ∧ (g 102 v3.toNat) < 170
                                · rw [if_pos hc] at h
                                  refine es (202, [some (.inr (.inr 92)), some (.inl c1), some (.inl c2), none, some (.inl y1), some (.inl (g 102 v3.toNat))], [], (gset g 117 ((g 102 v3.toNat).toNat) (wr ((g 117 (g 102 v3.toNat).toNat) + 1)))) (if_pos hc) ?_
                                  refine ev_runs 3 (202, [some (.inr (.inr 92)), some (.inl c1), some (.inl c2), none, some (.inl y1), some (.inl (g 102 v3.toNat))], [], (gset g 117 ((g 102 v3.toNat).toNat) (wr ((g 117 (g 102 v3.toNat).toNat) + 1)))) (12, [some (.inr (.inr 92)), some (.inl c1), some (.inl c2), some (.inl y1), some (.inl y1), some (.inl (g 102 v3.toNat))], [], (gset g 117 ((g 102 v3.toNat).toNat) (wr ((g 117 (g 102 v3.toNat).toNat) + 1)))) rfl ?_
                                  exact ev_le (L := [some (.inr (.inr 92)), some (.inl c1), some (.inl c2), some (.inl y1), none, none]) (by simp [Lle]) (ih12 y1 (gset g 117 ((g 102 v3.toNat).toNat) (wr ((g 117 (g 102 v3.toNat).toNat) + 1))) r g' h)
                                · rw [if_neg hc] at h; cases h
                              · rw [if_neg hc] at h; cases h
                            by_cases hc : (g 101 (g 102 v3.toNat).toNat) ≤ (g 117 (g 102 v3.toNat).toNat)
                            · rw [if_pos hc] at hy1
                              refine es (186, [some (.inr (.inr 92)), some (.inl c1), some (.inl c2), some (.inl v3), some (.inl (wr (v3 + 1))), some (.inl (g 102 v3.toNat))], [], g) (congrArg some (if_pos hc)) ?_
                              refine ev_runs 3 (186, [some (.inr (.inr 92)), some (.inl c1), some (.inl c2), some (.inl v3), some (.inl (wr (v3 + 1))), some (.inl (g 102 v3.toNat))], [], g) (189, [some (.inr (.inr 92)), some (.inl c1), some (.inl c2), some (.inl v3), some (.inl (wr (v3 + 1))), some (.inl (g 102 v3.toNat))], [.inl (wr (v3 + 1))], g) rfl ?_
                              rw [hy1] at hjy1
                              exact ev_le (L := [some (.inr (.inr 92)), some (.inl c1), some (.inl c2), none, none, some (.inl (g 102 v3.toNat))]) (by simp [Lle]) hjy1
                            · rw [if_neg hc] at hy1
                              refine es (179, [some (.inr (.inr 92)), some (.inl c1), some (.inl c2), some (.inl v3), some (.inl (wr (v3 + 1))), some (.inl (g 102 v3.toNat))], [], g) (congrArg some (if_neg hc)) ?_
                              refine ev_runs 4 (179, [some (.inr (.inr 92)), some (.inl c1), some (.inl c2), some (.inl v3), some (.inl (wr (v3 + 1))), some (.inl (g 102 v3.toNat))], [], g) (189, [some (.inr (.inr 92)), some (.inl c1), some (.inl c2), some (.inl v3), some (.inl (wr (v3 + 1))), some (.inl (g 102 v3.toNat))], [.inl (wr ((g 102 v3.toNat) + 1))], g) rfl ?_
                              rw [hy1] at hjy1
                              exact ev_le (L := [some (.inr (.inr 92)), some (.inl c1), some (.inl c2), none, none, some (.inl (g 102 v3.toNat))]) (by simp [Lle]) hjy1
                          · rw [if_neg hc] at h; cases h
                        · rw [if_neg hc] at h; cases h
                      · rw [if_neg hc] at h; cases h
                    · rw [if_neg hc] at h
                      refine es (144, [some (.inr (.inr 92)), some (.inl c1), some (.inl c2), some (.inl v3), some (.inl (wr (v3 + 1))), none], [], g) (congrArg some (if_neg hc)) ?_
                      refine ev_runs 4 (144, [some (.inr (.inr 92)), some (.inl c1), some (.inl c2), some (.inl v3), some (.inl (wr (v3 + 1))), none], [], g) (150, [some (.inr (.inr 92)), some (.inl c1), some (.inl c2), some (.inl v3), some (.inl (wr (v3 + 1))), none], [.inl 1, .inl v3, .inr (.inr 117)], g) rfl ?_
                      by_cases hc : 0 ≤ v3 ∧ v3 < 170
                      · rw [if_pos hc] at h
                        refine es (151, [some (.inr (.inr 92)), some (.inl c1), some (.inl c2), some (.inl v3), some (.inl (wr (v3 + 1))), none], [], (gset g 117 v3.toNat 1)) (if_pos hc) ?_
                        refine ev_runs 4 (151, [some (.inr (.inr 92)), some (.inl c1), some (.inl c2), some (.inl v3), some (.inl (wr (v3 + 1))), none], [], (gset g 117 v3.toNat 1)) (12, [some (.inr (.inr 92)), some (.inl c1), some (.inl c2), some (.inl (wr (v3 + 1))), some (.inl (wr (v3 + 1))), none], [], (gset g 117 v3.toNat 1)) rfl ?_
                        exact ev_le (L := [some (.inr (.inr 92)), some (.inl c1), some (.inl c2), some (.inl (wr (v3 + 1))), none, none]) (by simp [Lle]) (ih12 (wr (v3 + 1)) (gset g 117 v3.toNat 1) r g' h)
                      · rw [if_neg hc] at h; cases h
                  · rw [if_neg hc] at h; cases h
                · rw [if_neg hc] at h
                  refine es (118, [some (.inr (.inr 92)), some (.inl c1), some (.inl c2), some (.inl v3), some (.inl (wr (v3 + 1))), none], [], g) (congrArg some (if_neg hc)) ?_
                  refine ev_runs 5 (118, [some (.inr (.inr 92)), some (.inl c1), some (.inl c2), some (.inl v3), some (.inl (wr (v3 + 1))), none], [], g) (127, [some (.inr (.inr 92)), some (.inl c1), some (.inl c2), some (.inl v3), some (.inl (wr (v3 + 1))), none], [.inl v3, .inr (.inr 102), .inr (.inr 103)], g) rfl ?_
                  by_cases hc : 0 ≤ v3 ∧ v3 < 170
                  · rw [if_pos hc] at h
                    refine es (128, [some (.inr (.inr 92)), some (.inl c1), some (.inl c2), some (.inl v3), some (.inl (wr (v3 + 1))), none], [.inl (g 102 v3.toNat), .inr (.inr 103)], g) (if_pos hc) ?_
                    by_cases hc : 0 ≤ (g 102 v3.toNat) ∧ (g 102 v3.toNat) < 170
                    · rw [if_pos hc] at h
                      refine es (129, [some (.inr (.inr 92)), some (.inl c1), some (.inl c2), some (.inl v3), some (.inl (wr (v3 + 1))), none], [.inl (g 103 (g 102 v3.toNat).toNat)], g) (if_pos hc) ?_
                      refine ev_runs 5 (129, [some (.inr (.inr 92)), some (.inl c1), some (.inl c2), some (.inl v3), some (.inl (wr (v3 + 1))), none], [.inl (g 103 (g 102 v3.toNat).toNat)], g) (12, [some (.inr (.inr 92)), some (.inl c1), some (.inl c2), some (.inl (g 103 (g 102 v3.toNat).toNat)), some (.inl (g 103 (g 102 v3.toNat).toNat)), none], [], g) rfl ?_
                      exact ev_le (L := [some (.inr (.inr 92)), some (.inl c1), some (.inl c2), some (.inl (g 103 (g 102 v3.toNat).toNat)), none, none]) (by simp [Lle]) (ih12 (g 103 (g 102 v3.toNat).toNat) g r g' h)
                    · rw [if_neg hc] at h; cases h
                  · rw [if_neg hc] at h; cases h
              · rw [if_neg hc] at h; cases h
            · rw [if_neg hc] at h
              refine es (71, [some (.inr (.inr 92)), some (.inl c1), some (.inl c2), some (.inl v3), some (.inl (wr (v3 + 1))), none], [], g) (congrArg some (if_neg hc)) ?_
              refine ev_runs 4 (71, [some (.inr (.inr 92)), some (.inl c1), some (.inl c2), some (.inl v3), some (.inl (wr (v3 + 1))), none], [], g) (75, [some (.inr (.inr 92)), some (.inl c1), some (.inl c2), some (.inl v3), some (.inl (wr (v3 + 1))), none], [.inl c2, .inl c1, .inl v3, .inr (.inr 92)], g) rfl ?_
              obtain ⟨q2, hq, h⟩ := Option.bind_eq_some_iff.mp h
              refine ec 78 78 [.inr (.inr 92), .inl v3, .inl c1, .inl c2] [] rfl (ev_Md_chooses v3 c1 c2 g q2.1 q2.2 hq) ?_
              show Ev 79 78 [some (.inr (.inr 92)), some (.inl c1), some (.inl c2), some (.inl v3), some (.inl (wr (v3 + 1))), none] [.inl q2.1] q2.2 _ _
              by_cases hc : ¬ q2.1 = 0
              · rw [if_pos hc] at h
                refine es (83, [some (.inr (.inr 92)), some (.inl c1), some (.inl c2), some (.inl v3), some (.inl (wr (v3 + 1))), none], [], q2.2) (congrArg some (if_pos hc)) ?_
                refine ev_runs 11 (83, [some (.inr (.inr 92)), some (.inl c1), some (.inl c2), some (.inl v3), some (.inl (wr (v3 + 1))), none], [], q2.2) (100, [some (.inr (.inr 92)), some (.inl c1), some (.inl c2), some (.inl v3), some (.inl (wr (v3 + 1))), none], [.inl (wr ((q2.2 92 35) - 1)), .inr (.inr 114), .inl (wr (4 * v3)), .inr (.inr 104)], q2.2) rfl ?_
                by_cases hc : 0 ≤ (wr ((q2.2 92 35) - 1)) ∧ (wr ((q2.2 92 35) - 1)) < 30
                · rw [if_pos hc] at h
                  refine es (101, [some (.inr (.inr 92)), some (.inl c1), some (.inl c2), some (.inl v3), some (.inl (wr (v3 + 1))), none], [.inl (q2.2 114 (wr ((q2.2 92 35) - 1)).toNat), .inl (wr (4 * v3)), .inr (.inr 104)], q2.2) (if_pos hc) ?_
                  refine ev_runs 1 (101, [some (.inr (.inr 92)), some (.inl c1), some (.inl c2), some (.inl v3), some (.inl (wr (v3 + 1))), none], [.inl (q2.2 114 (wr ((q2.2 92 35) - 1)).toNat), .inl (wr (4 * v3)), .inr (.inr 104)], q2.2) (102, [some (.inr (.inr 92)), some (.inl c1), some (.inl c2), some (.inl v3), some (.inl (wr (v3 + 1))), none], [.inl (wr ((wr (4 * v3)) + (q2.2 114 (wr ((q2.2 92 35) - 1)).toNat))), .inr (.inr 104)], q2.2) rfl ?_
                  by_cases hc : 0 ≤ (wr ((wr (4 * v3)) + (q2.2 114 (wr ((q2.2 92 35) - 1)).toNat))) ∧ (wr ((wr (4 * v3)) + (q2.2 114 (wr ((q2.2 92 35) - 1)).toNat))) < 680
                  · rw [if_pos hc] at h
                    refine es (103, [some (.inr (.inr 92)), some (.inl c1), some (.inl c2), some (.inl v3), some (.inl (wr (v3 + 1))), none], [.inl (q2.2 104 (wr ((wr (4 * v3)) + (q2.2 114 (wr ((q2.2 92 35) - 1)).toNat))).toNat)], q2.2) (if_pos hc) ?_
                    refine ev_runs 5 (103, [some (.inr (.inr 92)), some (.inl c1), some (.inl c2), some (.inl v3), some (.inl (wr (v3 + 1))), none], [.inl (q2.2 104 (wr ((wr (4 * v3)) + (q2.2 114 (wr ((q2.2 92 35) - 1)).toNat))).toNat)], q2.2) (12, [some (.inr (.inr 92)), some (.inl c1), some (.inl c2), some (.inl (q2.2 104 (wr ((wr (4 * v3)) + (q2.2 114 (wr ((q2.2 92 35) - 1)).toNat))).toNat)), some (.inl (q2.2 104 (wr ((wr (4 * v3)) + (q2.2 114 (wr ((q2.2 92 35) - 1)).toNat))).toNat)), none], [], q2.2) rfl ?_
                    exact ev_le (L := [some (.inr (.inr 92)), some (.inl c1), some (.inl c2), some (.inl (q2.2 104 (wr ((wr (4 * v3)) + (q2.2 114 (wr ((q2.2 92 35) - 1)).toNat))).toNat)), none, none]) (by simp [Lle]) (ih12 (q2.2 104 (wr ((wr (4 * v3)) + (q2.2 114 (wr ((q2.2 92 35) - 1)).toNat))).toNat) q2.2 r g' h)
                  · rw [if_neg hc] at h; cases h
                · rw [if_neg hc] at h; cases h
              · rw [if_neg hc] at h
                refine es (81, [some (.inr (.inr 92)), some (.inl c1), some (.inl c2), some (.inl v3), some (.inl (wr (v3 + 1))), none], [], q2.2) (congrArg some (if_neg hc)) ?_
                refine ev_runs 1 (81, [some (.inr (.inr 92)), some (.inl c1), some (.inl c2), some (.inl v3), some (.inl (wr (v3 + 1))), none], [], q2.2) (82, [some (.inr (.inr 92)), some (.inl c1), some (.inl c2), some (.inl v3), some (.inl (wr (v3 + 1))), none], [.inl 0], q2.2) rfl ?_
                cases h
                exact er rfl
          · rw [if_neg hc] at h; cases h
        · rw [if_neg hc] at h
          refine es (34, [some (.inr (.inr 92)), some (.inl c1), some (.inl c2), some (.inl v3), some (.inl (wr (v3 + 1))), none], [], g) (congrArg some (if_neg hc)) ?_
          refine ev_runs 4 (34, [some (.inr (.inr 92)), some (.inl c1), some (.inl c2), some (.inl v3), some (.inl (wr (v3 + 1))), none], [], g) (40, [some (.inr (.inr 92)), some (.inl c1), some (.inl c2), some (.inl v3), some (.inl (wr (v3 + 1))), none], [.inl v3, .inr (.inr 100), .inr (.inr 92)], g) rfl ?_
          by_cases hc : 0 ≤ v3 ∧ v3 < 170
          · rw [if_pos hc] at h
            refine es (41, [some (.inr (.inr 92)), some (.inl c1), some (.inl c2), some (.inl v3), some (.inl (wr (v3 + 1))), none], [.inl (g 100 v3.toNat), .inr (.inr 92)], g) (if_pos hc) ?_
            refine ev_runs 3 (41, [some (.inr (.inr 92)), some (.inl c1), some (.inl c2), some (.inl v3), some (.inl (wr (v3 + 1))), none], [.inl (g 100 v3.toNat), .inr (.inr 92)], g) (46, [some (.inr (.inr 92)), some (.inl c1), some (.inl c2), some (.inl v3), some (.inl (wr (v3 + 1))), none], [.inl v3, .inr (.inr 101), .inl (g 100 v3.toNat), .inr (.inr 92)], g) rfl ?_
            by_cases hc : 0 ≤ v3 ∧ v3 < 170
            · rw [if_pos hc] at h
              refine es (47, [some (.inr (.inr 92)), some (.inl c1), some (.inl c2), some (.inl v3), some (.inl (wr (v3 + 1))), none], [.inl (g 101 v3.toNat), .inl (g 100 v3.toNat), .inr (.inr 92)], g) (if_pos hc) ?_
              refine ev_runs 3 (47, [some (.inr (.inr 92)), some (.inl c1), some (.inl c2), some (.inl v3), some (.inl (wr (v3 + 1))), none], [.inl (g 101 v3.toNat), .inl (g 100 v3.toNat), .inr (.inr 92)], g) (52, [some (.inr (.inr 92)), some (.inl c1), some (.inl c2), some (.inl v3), some (.inl (wr (v3 + 1))), none], [.inl v3, .inr (.inr 102), .inl (g 101 v3.toNat), .inl (g 100 v3.toNat), .inr (.inr 92)], g) rfl ?_
              by_cases hc : 0 ≤ v3 ∧ v3 < 170
              · rw [if_pos hc] at h
                refine es (53, [some (.inr (.inr 92)), some (.inl c1), some (.inl c2), some (.inl v3), some (.inl (wr (v3 + 1))), none], [.inl (g 102 v3.toNat), .inl (g 101 v3.toNat), .inl (g 100 v3.toNat), .inr (.inr 92)], g) (if_pos hc) ?_
                obtain ⟨q3, hq, h⟩ := Option.bind_eq_some_iff.mp h
                refine ec 77 56 [.inr (.inr 92), .inl (g 100 v3.toNat), .inl (g 101 v3.toNat), .inl (g 102 v3.toNat)] [] rfl (ev_Md_says (g 100 v3.toNat) (g 101 v3.toNat) (g 102 v3.toNat) g q3.1 q3.2 hq) ?_
                show Ev 79 56 [some (.inr (.inr 92)), some (.inl c1), some (.inl c2), some (.inl v3), some (.inl (wr (v3 + 1))), none] [.inl q3.1] q3.2 _ _
                by_cases hc : ¬ q3.1 = 0
                · rw [if_pos hc] at h
                  refine es (202, [some (.inr (.inr 92)), some (.inl c1), some (.inl c2), some (.inl v3), some (.inl (wr (v3 + 1))), none], [], q3.2) (congrArg some (if_pos hc)) ?_
                  refine ev_runs 3 (202, [some (.inr (.inr 92)), some (.inl c1), some (.inl c2), some (.inl v3), some (.inl (wr (v3 + 1))), none], [], q3.2) (12, [some (.inr (.inr 92)), some (.inl c1), some (.inl c2), some (.inl (wr (v3 + 1))), some (.inl (wr (v3 + 1))), none], [], q3.2) rfl ?_
                  exact ev_le (L := [some (.inr (.inr 92)), some (.inl c1), some (.inl c2), some (.inl (wr (v3 + 1))), none, none]) (by simp [Lle]) (ih12 (wr (v3 + 1)) q3.2 r g' h)
                · rw [if_neg hc] at h
                  refine es (59, [some (.inr (.inr 92)), some (.inl c1), some (.inl c2), some (.inl v3), some (.inl (wr (v3 + 1))), none], [], q3.2) (congrArg some (if_neg hc)) ?_
                  refine ev_runs 1 (59, [some (.inr (.inr 92)), some (.inl c1), some (.inl c2), some (.inl v3), some (.inl (wr (v3 + 1))), none], [], q3.2) (60, [some (.inr (.inr 92)), some (.inl c1), some (.inl c2), some (.inl v3), some (.inl (wr (v3 + 1))), none], [.inl 0], q3.2) rfl ?_
                  cases h
                  exact er rfl
              · rw [if_neg hc] at h; cases h
            · rw [if_neg hc] at h; cases h
          · rw [if_neg hc] at h; cases h
      · rw [if_neg hc] at h; cases h
set_option maxRecDepth 100000 in
set_option maxHeartbeats 4000000 in
theorem ev_Md_goes (a1 a2 : Int) (g : Gx) (r : Int) (g' : Gx) (h : Md_goes a1 a2 g = some (r, g')) : Ev 79 0 [some (.inr (.inr 92)), some (.inl a1), some (.inl a2), none, none, none] [] g (some (.inl r)) g' := by
  rw [Md_goes] at h
  refine ev_runs 8 (0, [some (.inr (.inr 92)), some (.inl a1), some (.inl a2), none, none, none], [], g) (12, [some (.inr (.inr 92)), some (.inl a1), some (.inl a2), some (.inl 0), none, none], [], (gset (gset g 92 36 0) 92 35 0)) rfl ?_
  refine ev_le (L := [some (.inr (.inr 92)), some (.inl a1), some (.inl a2), some (.inl 0), none, none]) (by simp [Lle]) ?_
  refine ev_Md_goes_l12 a1 a2 _ ?_ fu 0 (gset (gset g 92 36 0) 92 35 0) r g' h
  · intro g4 r g' h
    refine ev_runs 1 (208, [none, none, none, none, none, none], [], g4) (209, [none, none, none, none, none, none], [.inl 1], g4) rfl ?_
    cases h
    exact er rfl
def Md_unfolds_l50 (c1 : Int) (c2 : Int) (K50_133 : Gx → Option (Int × Gx)) : Nat → Int → Gx → Option (Int × Gx)
  | 0, _, _ => none
  | n50 + 1, v4, g =>
    if 30 ≤ v4 then
      K50_133 g
    else
      if (g 92 35) ≤ v4 then
        if 0 ≤ (wr ((wr (30 * (g 92 26))) + v4)) ∧ (wr ((wr (30 * (g 92 26))) + v4)) < 900 then
        if (g 92 35) ≤ v4 then
          if 0 ≤ (wr ((wr (30 * (g 92 26))) + v4)) ∧ (wr ((wr (30 * (g 92 26))) + v4)) < 900 then
          Md_unfolds_l50 c1 c2 K50_133 n50 (wr (v4 + 1)) (gset (gset g 112 ((wr ((wr (30 * (g 92 26))) + v4)).toNat) (-1)) 113 ((wr ((wr (30 * (g 92 26))) + v4)).toNat) (-1))
          else none
        else
          if 0 ≤ v4 ∧ v4 < 30 then
          if 0 ≤ (wr ((wr (30 * (g 92 26))) + v4)) ∧ (wr ((wr (30 * (g 92 26))) + v4)) < 900 then
          Md_unfolds_l50 c1 c2 K50_133 n50 (wr (v4 + 1)) (gset (gset g 112 ((wr ((wr (30 * (g 92 26))) + v4)).toNat) (-1)) 113 ((wr ((wr (30 * (g 92 26))) + v4)).toNat) (g 116 v4.toNat))
          else none
          else none
        else none
      else
        if 0 ≤ v4 ∧ v4 < 30 then
        if 0 ≤ (wr ((wr (30 * (g 92 26))) + v4)) ∧ (wr ((wr (30 * (g 92 26))) + v4)) < 900 then
        if (g 92 35) ≤ v4 then
          if 0 ≤ (wr ((wr (30 * (g 92 26))) + v4)) ∧ (wr ((wr (30 * (g 92 26))) + v4)) < 900 then
          Md_unfolds_l50 c1 c2 K50_133 n50 (wr (v4 + 1)) (gset (gset g 112 ((wr ((wr (30 * (g 92 26))) + v4)).toNat) (g 114 v4.toNat)) 113 ((wr ((wr (30 * (g 92 26))) + v4)).toNat) (-1))
          else none
        else
          if 0 ≤ v4 ∧ v4 < 30 then
          if 0 ≤ (wr ((wr (30 * (g 92 26))) + v4)) ∧ (wr ((wr (30 * (g 92 26))) + v4)) < 900 then
          Md_unfolds_l50 c1 c2 K50_133 n50 (wr (v4 + 1)) (gset (gset g 112 ((wr ((wr (30 * (g 92 26))) + v4)).toNat) (g 114 v4.toNat)) 113 ((wr ((wr (30 * (g 92 26))) + v4)).toNat) (g 116 v4.toNat))
          else none
          else none
        else none
        else none
def Md_unfolds_l151 (c1 : Int) (c2 : Int) (K151_179 : Int → Gx → Option (Int × Gx)) : Nat → Int → Gx → Option (Int × Gx)
  | 0, _, _ => none
  | n151 + 1, v4, g =>
    if v4 < 0 then
      K151_179 v4 g
    else
      if 0 ≤ v4 ∧ v4 < 30 then
      if 0 ≤ v4 ∧ v4 < 30 then
      if ¬ (g 114 v4.toNat) = (g 115 v4.toNat) then
        K151_179 v4 g
      else
        Md_unfolds_l151 c1 c2 K151_179 n151 (wr (v4 + (-1))) g
      else none
      else none
def Md_unfolds_l9 (c1 : Int) (K9_213 : Gx → Option (Int × Gx)) : Nat → Int → Int → Gx → Option (Int × Gx)
  | 0, _, _, _ => none
  | n9 + 1, v2, v3, g =>
    if v3 = 0 then
      K9_213 g
    else
      Option.bind (Md_goes v2 c1 g) (fun q1 =>
      if q1.1 = 0 then
        some ((-4), q1.2)
      else
        if ¬ (q1.2 92 26) = 30 then
          if 0 ≤ (q1.2 92 26) ∧ (q1.2 92 26) < 30 then
          Md_unfolds_l50 c1 v2
            (fun g2 =>
              Md_unfolds_l151 c1 v2
                (fun x3 g4 =>
                  lett (if x3 < 0 then 0 else 1) (fun y5 =>
                  if y5 = 0 then
                    Md_unfolds_l9 c1 K9_213 n9 v2 y5 g4
                  else
                    if 0 ≤ x3 ∧ x3 < 30 then
                    if 0 ≤ x3 ∧ x3 < 30 then
                    Md_unfolds_l9 c1 K9_213 n9 (wr (x3 + 1)) y5 (gset g4 114 x3.toNat (wr ((g4 114 x3.toNat) + 1)))
                    else none
                    else none))
                fu (wr ((g2 92 35) - 1)) (gset g2 92 26 (wr ((g2 92 26) + 1))))
            fu 0 (gset q1.2 110 ((q1.2 92 26).toNat) (q1.2 92 36))
          else none
        else
          some ((-4), q1.2))
def Md_unfolds (a1 : Int) (g : Gx) : Option (Int × Gx) :=
  Md_unfolds_l9 a1
    (fun g6 =>
      some (0, g6))
    fu 0 1 (gset g 92 26 0)
set_option maxRecDepth 100000 in
set_option maxHeartbeats 4000000 in
theorem ev_Md_unfolds_l50 (c1 : Int) (c2 : Int) (K50_133 : Gx → Option (Int × Gx)) (hK50_133 : ∀ (g : Gx) (r : Int) (g' : Gx), K50_133 g = some (r, g') → Ev 80 133 [some (.inr (.inr 92)), some (.inl c1), some (.inl c2), none, none] [] g (some (.inl r)) g') : ∀ (n50 : Nat) (v4 : Int) (g : Gx) (r : Int) (g' : Gx), Md_unfolds_l50 c1 c2 K50_133 n50 v4 g = some (r, g') → Ev 80 50 [some (.inr (.inr 92)), some (.inl c1), some (.inl c2), none, some (.inl v4)] [] g (some (.inl r)) g' := by
  intro n50
  induction n50 with
  | zero => intro v4 g r g' h; cases h
  | succ n50 ih50 =>
    intro v4 g r g' h
    rw [Md_unfolds_l50] at h
    refine ev_runs 2 (50, [some (.inr (.inr 92)), some (.inl c1), some (.inl c2), none, some (.inl v4)], [], g) (54, [some (.inr (.inr 92)), some (.inl c1), some (.inl c2), none, some (.inl v4)], [.inl 30, .inl v4], g) rfl ?_
    by_cases hc : 30 ≤ v4
    · rw [if_pos hc] at h
      refine es (133, [some (.inr (.inr 92)), some (.inl c1), some (.inl c2), none, some (.inl v4)], [], g) (congrArg some (if_pos hc)) ?_
      exact ev_le (L := [some (.inr (.inr 92)), some (.inl c1), some (.inl c2), none, none]) (by simp [Lle]) (hK50_133 g r g' h)
    · rw [if_neg hc] at h
      refine es (57, [some (.inr (.inr 92)), some (.inl c1), some (.inl c2), none, some (.inl v4)], [], g) (congrArg some (if_neg hc)) ?_
      refine ev_runs 11 (57, [some (.inr (.inr 92)), some (.inl c1), some (.inl c2), none, some (.inl v4)], [], g) (77, [some (.inr (.inr 92)), some (.inl c1), some (.inl c2), none, some (.inl v4)], [.inl (g 92 35), .inl v4, .inl (wr ((wr (30 * (g 92 26))) + v4)), .inr (.inr 112)], g) rfl ?_
      by_cases hc : (g 92 35) ≤ v4
      · rw [if_pos hc] at h
        refine es (90, [some (.inr (.inr 92)), some (.inl c1), some (.inl c2), none, some (.inl v4)], [.inl (wr ((wr (30 * (g 92 26))) + v4)), .inr (.inr 112)], g) (congrArg some (if_pos hc)) ?_
        refine ev_runs 1 (90, [some (.inr (.inr 92)), some (.inl c1), some (.inl c2), none, some (.inl v4)], [.inl (wr ((wr (30 * (g 92 26))) + v4)), .inr (.inr 112)], g) (91, [some (.inr (.inr 92)), some (.inl c1), some (.inl c2), none, some (.inl v4)], [.inl (-1), .inl (wr ((wr (30 * (g 92 26))) + v4)), .inr (.inr 112)], g) rfl ?_
        by_cases hc : 0 ≤ (wr ((wr (30 * (g 92 26))) + v4)) ∧ (wr ((wr (30 * (g 92 26))) + v4)) < 900
        · rw [if_pos hc] at h
          refine es (92, [some (.inr (.inr 92)), some (.inl c1), some (.inl c2), none, some (.inl v4)], [], (gset g 112 ((wr ((wr (30 * (g 92 26))) + v4)).toNat) (-1))) (if_pos hc) ?_
          refine ev_runs 11 (92, [some (.inr (.inr 92)), some (.inl c1), some (.inl c2), none, some (.inl v4)], [], (gset g 112 ((wr ((wr (30 * (g 92 26))) + v4)).toNat) (-1))) (112, [some (.inr (.inr 92)), some (.inl c1), some (.inl c2), none, some (.inl v4)], [.inl (g 92 35), .inl v4, .inl (wr ((wr (30 * (g 92 26))) + v4)), .inr (.inr 113)], (gset g 112 ((wr ((wr (30 * (g 92 26))) + v4)).toNat) (-1))) rfl ?_
          by_cases hc : (g 92 35) ≤ v4
          · rw [if_pos hc] at h
            refine es (125, [some (.inr (.inr 92)), some (.inl c1), some (.inl c2), none, some (.inl v4)], [.inl (wr ((wr (30 * (g 92 26))) + v4)), .inr (.inr 113)], (gset g 112 ((wr ((wr (30 * (g 92 26))) + v4)).toNat) (-1))) (congrArg some (if_pos hc)) ?_
            refine ev_runs 1 (125, [some (.inr (.inr 92)), some (.inl c1), some (.inl c2), none, some (.inl v4)], [.inl (wr ((wr (30 * (g 92 26))) + v4)), .inr (.inr 113)], (gset g 112 ((wr ((wr (30 * (g 92 26))) + v4)).toNat) (-1))) (126, [some (.inr (.inr 92)), some (.inl c1), some (.inl c2), none, some (.inl v4)], [.inl (-1), .inl (wr ((wr (30 * (g 92 26))) + v4)), .inr (.inr 113)], (gset g 112 ((wr ((wr (30 * (g 92 26))) + v4)).toNat) (-1))) rfl ?_
            by_cases hc : 0 ≤ (wr ((wr (30 * (g 92 26))) + v4)) ∧ (wr ((wr (30 * (g 92 26))) + v4)) < 900
            · rw [if_pos hc] at h
              refine es (127, [some (.inr (.inr 92)), some (.inl c1), some (.inl c2), none, some (.inl v4)], [], (gset (gset g 112 ((wr ((wr (30 * (g 92 26))) + v4)).toNat) (-1)) 113 ((wr ((wr (30 * (g 92 26))) + v4)).toNat) (-1))) (if_pos hc) ?_
              refine ev_runs 2 (127, [some (.inr (.inr 92)), some (.inl c1), some (.inl c2), none, some (.inl v4)], [], (gset (gset g 112 ((wr ((wr (30 * (g 92 26))) + v4)).toNat) (-1)) 113 ((wr ((wr (30 * (g 92 26))) + v4)).toNat) (-1))) (50, [some (.inr (.inr 92)), some (.inl c1), some (.inl c2), none, some (.inl (wr (v4 + 1)))], [], (gset (gset g 112 ((wr ((wr (30 * (g 92 26))) + v4)).toNat) (-1)) 113 ((wr ((wr (30 * (g 92 26))) + v4)).toNat) (-1))) rfl ?_
              exact ev_le (L := [some (.inr (.inr 92)), some (.inl c1), some (.inl c2), none, some (.inl (wr (v4 + 1)))]) (by simp [Lle]) (ih50 (wr (v4 + 1)) (gset (gset g 112 ((wr ((wr (30 * (g 92 26))) + v4)).toNat) (-1)) 113 ((wr ((wr (30 * (g 92 26))) + v4)).toNat) (-1)) r g' h)
            · rw [if_neg hc] at h; cases h
          · rw [if_neg hc] at h
            refine es (115, [some (.inr (.inr 92)), some (.inl c1), some (.inl c2), none, some (.inl v4)], [.inl (wr ((wr (30 * (g 92 26))) + v4)), .inr (.inr 113)], (gset g 112 ((wr ((wr (30 * (g 92 26))) + v4)).toNat) (-1))) (congrArg some (if_neg hc)) ?_
            refine ev_runs 3 (115, [some (.inr (.inr 92)), some (.inl c1), some (.inl c2), none, some (.inl v4)], [.inl (wr ((wr (30 * (g 92 26))) + v4)), .inr (.inr 113)], (gset g 112 ((wr ((wr (30 * (g 92 26))) + v4)).toNat) (-1))) (121, [some (.inr (.inr 92)), some (.inl c1), some (.inl c2), none, some (.inl v4)], [.inl v4, .inr (.inr 116), .inl (wr ((wr (30 * (g 92 26))) + v4)), .inr (.inr 113)], (gset g 112 ((wr ((wr (30 * (g 92 26))) + v4)).toNat) (-1))) rfl ?_
            by_cases hc : 0 ≤ v4 ∧ v4 < 30
            · rw [if_pos hc] at h
              refine es (122, [some (.inr (.inr 92)), some (.inl c1), some (.inl c2), none, some (.inl v4)], [.inl (g 116 v4.toNat), .inl (wr ((wr (30 * (g 92 26))) + v4)), .inr (.inr 113)], (gset g 112 ((wr ((wr (30 * (g 92 26))) + v4)).toNat) (-1))) (if_pos hc) ?_
              refine ev_runs 1 (122, [some (.inr (.inr 92)), some (.inl c1), some (.inl c2), none, some (.inl v4)], [.inl (g 116 v4.toNat), .inl (wr ((wr (30 * (g 92 26))) + v4)), .inr (.inr 113)], (gset g 112 ((wr ((wr (30 * (g 92 26))) + v4)).toNat) (-1))) (126, [some (.inr (.inr 92)), some (.inl c1), some (.inl c2), none, some (.inl v4)], [.inl (g 116 v4.toNat), .inl (wr ((wr (30 * (g 92 26))) + v4)), .inr (.inr 113)], (gset g 112 ((wr ((wr (30 * (g 92 26))) + v4)).toNat) (-1))) rfl ?_
              by_cases hc : 0 ≤ (wr ((wr (30 * (g 92 26))) + v4)) ∧ (wr ((wr (30 * (g 92 26))) + v4)) < 900
              · rw [if_pos hc] at h
                refine es (127, [some (.inr (.inr 92)), some (.inl c1), some (.inl c2), none, some (.inl v4)], [], (gset (gset g 112 ((wr ((wr (30 * (g 92 26))) + v4)).toNat) (-1)) 113 ((wr ((wr (30 * (g 92 26))) + v4)).toNat) (g 116 v4.toNat))) (if_pos hc) ?_
                refine ev_runs 2 (127, [some (.inr (.inr 92)), some (.inl c1), some (.inl c2), none, some (.inl v4)], [], (gset (gset g 112 ((wr ((wr (30 * (g 92 26))) + v4)).toNat) (-1)) 113 ((wr ((wr (30 * (g 92 26))) + v4)).toNat) (g 116 v4.toNat))) (50, [some (.inr (.inr 92)), some (.inl c1), some (.inl c2), none, some (.inl (wr (v4 + 1)))], [], (gset (gset g 112 ((wr ((wr (30 * (g 92 26))) + v4)).toNat) (-1)) 113 ((wr ((wr (30 * (g 92 26))) + v4)).toNat) (g 116 v4.toNat))) rfl ?_
                exact ev_le (L := [some (.inr (.inr 92)), some (.inl c1), some (.inl c2), none, some (.inl (wr (v4 + 1)))]) (by simp [Lle]) (ih50 (wr (v4 + 1)) (gset (gset g 112 ((wr ((wr (30 * (g 92 26))) + v4)).toNat) (-1)) 113 ((wr ((wr (30 * (g 92 26))) + v4)).toNat) (g 116 v4.toNat)) r g' h)
              · rw [if_neg hc] at h; cases h
            · rw [if_neg hc] at h; cases h
        · rw [if_neg hc] at h; cases h
      · rw [if_neg hc] at h
        refine es (80, [some (.inr (.inr 92)), some (.inl c1), some (.inl c2), none, some (.inl v4)], [.inl (wr ((wr (30 * (g 92 26))) + v4)), .inr (.inr 112)], g) (congrArg some (if_neg hc)) ?_
        refine ev_runs 3 (80, [some (.inr (.inr 92)), some (.inl c1), some (.inl c2), none, some (.inl v4)], [.inl (wr ((wr (30 * (g 92 26))) + v4)), .inr (.inr 112)], g) (86, [some (.inr (.inr 92)), some (.inl c1), some (.inl c2), none, some (.inl v4)], [.inl v4, .inr (.inr 114), .inl (wr ((wr (30 * (g 92 26))) + v4)), .inr (.inr 112)], g) rfl ?_
        by_cases hc : 0 ≤ v4 ∧ v4 < 30
        · rw [if_pos hc] at h
          refine es (87, [some (.inr (.inr 92)), some (.inl c1), some (.inl c2), none, some (.inl v4)], [.inl (g 114 v4.toNat), .inl (wr ((wr (30 * (g 92 26))) + v4)), .inr (.inr 112)], g) (if_pos hc) ?_
          refine ev_runs 1 (87, [some (.inr (.inr 92)), some (.inl c1), some (.inl c2), none, some (.inl v4)], [.inl (g 114 v4.toNat), .inl (wr ((wr (30 * (g 92 26))) + v4)), .inr (.inr 112)], g) (91, [some (.inr (.inr 92)), some (.inl c1), some (.inl c2), none, some (.inl v4)], [.inl (g 114 v4.toNat), .inl (wr ((wr (30 * (g 92 26))) + v4)), .inr (.inr 112)], g) rfl ?_
          by_cases hc : 0 ≤ (wr ((wr (30 * (g 92 26))) + v4)) ∧ (wr ((wr (30 * (g 92 26))) + v4)) < 900
          · rw [if_pos hc] at h
            refine es (92, [some (.inr (.inr 92)), some (.inl c1), some (.inl c2), none, some (.inl v4)], [], (gset g 112 ((wr ((wr (30 * (g 92 26))) + v4)).toNat) (g 114 v4.toNat))) (if_pos hc) ?_
            refine ev_runs 11 (92, [some (.inr (.inr 92)), some (.inl c1), some (.inl c2), none, some (.inl v4)], [], (gset g 112 ((wr ((wr (30 * (g 92 26))) + v4)).toNat) (g 114 v4.toNat))) (112, [some (.inr (.inr 92)), some (.inl c1), some (.inl c2), none, some (.inl v4)], [.inl (g 92 35), .inl v4, .inl (wr ((wr (30 * (g 92 26))) + v4)), .inr (.inr 113)], (gset g 112 ((wr ((wr (30 * (g 92 26))) + v4)).toNat) (g 114 v4.toNat))) rfl ?_
            by_cases hc : (g 92 35) ≤ v4
            · rw [if_pos hc] at h
              refine es (125, [some (.inr (.inr 92)), some (.inl c1), some (.inl c2), none, some (.inl v4)], [.inl (wr ((wr (30 * (g 92 26))) + v4)), .inr (.inr 113)], (gset g 112 ((wr ((wr (30 * (g 92 26))) + v4)).toNat) (g 114 v4.toNat))) (congrArg some (if_pos hc)) ?_
              refine ev_runs 1 (125, [some (.inr (.inr 92)), some (.inl c1), some (.inl c2), none, some (.inl v4)], [.inl (wr ((wr (30 * (g 92 26))) + v4)), .inr (.inr 113)], (gset g 112 ((wr ((wr (30 * (g 92 26))) + v4)).toNat) (g 114 v4.toNat))) (126, [some (.inr (.inr 92)), some (.inl c1), some (.inl c2), none, some (.inl v4)], [.inl (-1), .inl (wr ((wr (30 * (g 92 26))) + v4)), .inr (.inr 113)], (gset g 112 ((wr ((wr (30 * (g 92 26))) + v4)).toNat) (g 114 v4.toNat))) rfl ?_
              by_cases hc : 0 ≤ (wr ((wr (30 * (g 92 26))) + v4)) ∧ (wr ((wr (30 * (g 92 26))) + v4)) < 900
              · rw [if_pos hc] at h
                refine es (127, [some (.inr (.inr 92)), some (.inl c1), some (.inl c2), none, some (.inl v4)], [], (gset (gset g 112 ((wr ((wr (30 * (g 92 26))) + v4)).toNat) (g 114 v4.toNat)) 113 ((wr ((wr (30 * (g 92 26))) + v4)).toNat) (-1))) (if_pos hc) ?_
                refine ev_runs 2 (127, [some (.inr (.inr 92)), some (.inl c1), some (.inl c2), none, some (.inl v4)], [], (gset (gset g 112 ((wr ((wr (30 * (g 92 26))) + v4)).toNat) (g 114 v4.toNat)) 113 ((wr ((wr (30 * (g 92 26))) + v4)).toNat) (-1))) (50, [some (.inr (.inr 92)), some (.inl c1), some (.inl c2), none, some (.inl (wr (v4 + 1)))], [], (gset (gset g 112 ((wr ((wr (30 * (g 92 26))) + v4)).toNat) (g 114 v4.toNat)) 113 ((wr ((wr (30 * (g 92 26))) + v4)).toNat) (-1))) rfl ?_
                exact ev_le (L := [some (.inr (.inr 92)), some (.inl c1), some (.inl c2), none, some (.inl (wr (v4 + 1)))]) (by simp [Lle]) (ih50 (wr (v4 + 1)) (gset (gset g 112 ((wr ((wr (30 * (g 92 26))) + v4)).toNat) (g 114 v4.toNat)) 113 ((wr ((wr (30 * (g 92 26))) + v4)).toNat) (-1)) r g' h)
              · rw [if_neg hc] at h; cases h
            · rw [if_neg hc] at h
              refine es (115, [some (.inr (.inr 92)), some (.inl c1), some (.inl c2), none, some (.inl v4)], [.inl (wr ((wr (30 * (g 92 26))) + v4)), .inr (.inr 113)], (gset g 112 ((wr ((wr (30 * (g 92 26))) + v4)).toNat) (g 114 v4.toNat))) (congrArg some (if_neg hc)) ?_
              refine ev_runs 3 (115, [some (.inr (.inr 92)), some (.inl c1), some (.inl c2), none, some (.inl v4)], [.inl (wr ((wr (30 * (g 92 26))) + v4)), .inr (.inr 113)], (gset g 112 ((wr ((wr (30 * (g 92 26))) + v4)).toNat) (g 114 v4.toNat))) (121, [some (.inr (.inr 92)), some (.inl c1), some (.inl c2), none, some (.inl v4)], [.inl v4, .inr (.inr 116), .inl (wr ((wr (30 * (g 92 26))) + v4)), .inr (.inr 113)], (gset g 112 ((wr ((wr (30 * (g 92 26))) + v4)).toNat) (g 114 v4.toNat))) rfl ?_
              by_cases hc : 0 ≤ v4 ∧ v4 < 30
              · rw [if_pos hc] at h
                refine es (122, [some (.inr (.inr 92)), some (.inl c1), some (.inl c2), none, some (.inl v4)], [.inl (g 116 v4.toNat), .inl (wr ((wr (30 * (g 92 26))) + v4)), .inr (.inr 113)], (gset g 112 ((wr ((wr (30 * (g 92 26))) + v4)).toNat) (g 114 v4.toNat))) (if_pos hc) ?_
                refine ev_runs 1 (122, [some (.inr (.inr 92)), some (.inl c1), some (.inl c2), none, some (.inl v4)], [.inl (g 116 v4.toNat), .inl (wr ((wr (30 * (g 92 26))) + v4)), .inr (.inr 113)], (gset g 112 ((wr ((wr (30 * (g 92 26))) + v4)).toNat) (g 114 v4.toNat))) (126, [some (.inr (.inr 92)), some (.inl c1), some (.inl c2), none, some (.inl v4)], [.inl (g 116 v4.toNat), .inl (wr ((wr (30 * (g 92 26))) + v4)), .inr (.inr 113)], (gset g 112 ((wr ((wr (30 * (g 92 26))) + v4)).toNat) (g 114 v4.toNat))) rfl ?_
                by_cases hc : 0 ≤ (wr ((wr (30 * (g 92 26))) + v4)) ∧ (wr ((wr (30 * (g 92 26))) + v4)) < 900
                · rw [if_pos hc] at h
                  refine es (127, [some (.inr (.inr 92)), some (.inl c1), some (.inl c2), none, some (.inl v4)], [], (gset (gset g 112 ((wr ((wr (30 * (g 92 26))) + v4)).toNat) (g 114 v4.toNat)) 113 ((wr ((wr (30 * (g 92 26))) + v4)).toNat) (g 116 v4.toNat))) (if_pos hc) ?_
                  refine ev_runs 2 (127, [some (.inr (.inr 92)), some (.inl c1), some (.inl c2), none, some (.inl v4)], [], (gset (gset g 112 ((wr ((wr (30 * (g 92 26))) + v4)).toNat) (g 114 v4.toNat)) 113 ((wr ((wr (30 * (g 92 26))) + v4)).toNat) (g 116 v4.toNat))) (50, [some (.inr (.inr 92)), some (.inl c1), some (.inl c2), none, some (.inl (wr (v4 + 1)))], [], (gset (gset g 112 ((wr ((wr (30 * (g 92 26))) + v4)).toNat) (g 114 v4.toNat)) 113 ((wr ((wr (30 * (g 92 26))) + v4)).toNat) (g 116 v4.toNat))) rfl ?_
                  exact ev_le (L := [some (.inr (.inr 92)), some (.inl c1), some (.inl c2), none, some (.inl (wr (v4 + 1)))]) (by simp [Lle]) (ih50 (wr (v4 + 1)) (gset (gset g 112 ((wr ((wr (30 * (g 92 26))) + v4)).toNat) (g 114 v4.toNat)) 113 ((wr ((wr (30 * (g 92 26))) + v4)).toNat) (g 116 v4.toNat)) r g' h)
                · rw [if_neg hc] at h; cases h
              · rw [if_neg hc] at h; cases h
          · rw [if_neg hc] at h; cases h
        · rw [if_neg hc] at h; cases h
set_option maxRecDepth 100000 in
set_option maxHeartbeats 4000000 in
theorem ev_Md_unfolds_l151 (c1 : Int) (c2 : Int) (K151_179 : Int → Gx → Option (Int × Gx)) (hK151_179 : ∀ (x4 : Int) (g : Gx) (r : Int) (g' : Gx), K151_179 x4 g = some (r, g') → Ev 80 179 [some (.inr (.inr 92)), some (.inl c1), some (.inl c2), none, some (.inl x4)] [] g (some (.inl r)) g') : ∀ (n151 : Nat) (v4 : Int) (g : Gx) (r : Int) (g' : Gx), Md_unfolds_l151 c1 c2 K151_179 n151 v4 g = some (r, g') → Ev 80 151 [some (.inr (.inr 92)), some (.inl c1), some (.inl c2), none, some (.inl v4)] [] g (some (.inl r)) g' := by
  intro n151
  induction n151 with
  | zero => intro v4 g r g' h; cases h
  | succ n151 ih151 =>
    intro v4 g r g' h
    rw [Md_unfolds_l151] at h
    refine ev_runs 1 (151, [some (.inr (.inr 92)), some (.inl c1), some (.inl c2), none, some (.inl v4)], [], g) (153, [some (.inr (.inr 92)), some (.inl c1), some (.inl c2), none, some (.inl v4)], [.inl v4], g) rfl ?_
    by_cases hc : v4 < 0
    · rw [if_pos hc] at h
      refine es (179, [some (.inr (.inr 92)), some (.inl c1), some (.inl c2), none, some (.inl v4)], [], g) (congrArg some (if_pos hc)) ?_
      exact ev_le (L := [some (.inr (.inr 92)), some (.inl c1), some (.inl c2), none, some (.inl v4)]) (by simp [Lle]) (hK151_179 v4 g r g' h)
    · rw [if_neg hc] at h
      refine es (156, [some (.inr (.inr 92)), some (.inl c1), some (.inl c2), none, some (.inl v4)], [], g) (congrArg some (if_neg hc)) ?_
      refine ev_runs 3 (156, [some (.inr (.inr 92)), some (.inl c1), some (.inl c2), none, some (.inl v4)], [], g) (162, [some (.inr (.inr 92)), some (.inl c1), some (.inl c2), none, some (.inl v4)], [.inl v4, .inr (.inr 114)], g) rfl ?_
      by_cases hc : 0 ≤ v4 ∧ v4 < 30
      · rw [if_pos hc] at h
        refine es (163, [some (.inr (.inr 92)), some (.inl c1), some (.inl c2), none, some (.inl v4)], [.inl (g 114 v4.toNat)], g) (if_pos hc) ?_
        refine ev_runs 3 (163, [some (.inr (.inr 92)), some (.inl c1), some (.inl c2), none, some (.inl v4)], [.inl (g 114 v4.toNat)], g) (169, [some (.inr (.inr 92)), some (.inl c1), some (.inl c2), none, some (.inl v4)], [.inl v4, .inr (.inr 115), .inl (g 114 v4.toNat)], g) rfl ?_
        by_cases hc : 0 ≤ v4 ∧ v4 < 30
        · rw [if_pos hc] at h
          refine es (170, [some (.inr (.inr 92)), some (.inl c1), some (.inl c2), none, some (.inl v4)], [.inl (g 115 v4.toNat), .inl (g 114 v4.toNat)], g) (if_pos hc) ?_
          by_cases hc : ¬ (g 114 v4.toNat) = (g 115 v4.toNat)
          · rw [if_pos hc] at h
            refine es (179, [some (.inr (.inr 92)), some (.inl c1), some (.inl c2), none, some (.inl v4)], [], g) (congrArg some (if_pos hc)) ?_
            exact ev_le (L := [some (.inr (.inr 92)), some (.inl c1), some (.inl c2), none, some (.inl v4)]) (by simp [Lle]) (hK151_179 v4 g r g' h)
          · rw [if_neg hc] at h
            refine es (173, [some (.inr (.inr 92)), some (.inl c1), some (.inl c2), none, some (.inl v4)], [], g) (congrArg some (if_neg hc)) ?_
            refine ev_runs 2 (173, [some (.inr (.inr 92)), some (.inl c1), some (.inl c2), none, some (.inl v4)], [], g) (151, [some (.inr (.inr 92)), some (.inl c1), some (.inl c2), none, some (.inl (wr (v4 + (-1))))], [], g) rfl ?_
            exact ev_le (L := [some (.inr (.inr 92)), some (.inl c1), some (.inl c2), none, some (.inl (wr (v4 + (-1))))]) (by simp [Lle]) (ih151 (wr (v4 + (-1))) g r g' h)
        · rw [if_neg hc] at h; cases h
      · rw [if_neg hc] at h; cases h
set_option maxRecDepth 100000 in
set_option maxHeartbeats 4000000 in
theorem ev_Md_unfolds_l9 (c1 : Int) (K9_213 : Gx → Option (Int × Gx)) (hK9_213 : ∀ (g : Gx) (r : Int) (g' : Gx), K9_213 g = some (r, g') → Ev 80 213 [none, none, none, none, none] [] g (some (.inl r)) g') : ∀ (n9 : Nat) (v2 v3 : Int) (g : Gx) (r : Int) (g' : Gx), Md_unfolds_l9 c1 K9_213 n9 v2 v3 g = some (r, g') → Ev 80 9 [some (.inr (.inr 92)), some (.inl c1), some (.inl v2), some (.inl v3), none] [] g (some (.inl r)) g' := by
  intro n9
  induction n9 with
  | zero => intro v2 v3 g r g' h; cases h
  | succ n9 ih9 =>
    intro v2 v3 g r g' h
    rw [Md_unfolds_l9] at h
    refine ev_runs 1 (9, [some (.inr (.inr 92)), some (.inl c1), some (.inl v2), some (.inl v3), none], [], g) (10, [some (.inr (.inr 92)), some (.inl c1), some (.inl v2), some (.inl v3), none], [.inl v3], g) rfl ?_
    by_cases hc : v3 = 0
    · rw [if_pos hc] at h
      refine es (213, [some (.inr (.inr 92)), some (.inl c1), some (.inl v2), some (.inl v3), none], [], g) (congrArg some (if_pos hc)) ?_
      exact ev_le (L := [none, none, none, none, none]) (by simp [Lle]) (hK9_213 g r g' h)
    · rw [if_neg hc] at h
      refine es (13, [some (.inr (.inr 92)), some (.inl c1), some (.inl v2), some (.inl v3), none], [], g) (congrArg some (if_neg hc)) ?_
      refine ev_runs 3 (13, [some (.inr (.inr 92)), some (.inl c1), some (.inl v2), some (.inl v3), none], [], g) (16, [some (.inr (.inr 92)), some (.inl c1), some (.inl v2), some (.inl v3), none], [.inl c1, .inl v2, .inr (.inr 92)], g) rfl ?_
      obtain ⟨q1, hq, h⟩ := Option.bind_eq_some_iff.mp h
      refine ec 79 19 [.inr (.inr 92), .inl v2, .inl c1] [] rfl (ev_Md_goes v2 c1 g q1.1 q1.2 hq) ?_
      show Ev 80 19 [some (.inr (.inr 92)), some (.inl c1), some (.inl v2), some (.inl v3), none] [.inl q1.1] q1.2 _ _
      by_cases hc : q1.1 = 0
      · rw [if_pos hc] at h
        refine es (31, [some (.inr (.inr 92)), some (.inl c1), some (.inl v2), some (.inl v3), none], [], q1.2) (congrArg some (if_pos hc)) ?_
        refine ev_runs 1 (31, [some (.inr (.inr 92)), some (.inl c1), some (.inl v2), some (.inl v3), none], [], q1.2) (33, [some (.inr (.inr 92)), some (.inl c1), some (.inl v2), some (.inl v3), none], [.inl (-4)], q1.2) rfl ?_
        cases h
        exact er rfl
      · rw [if_neg hc] at h
        refine es (22, [some (.inr (.inr 92)), some (.inl c1), some (.inl v2), some (.inl v3), none], [], q1.2) (congrArg some (if_neg hc)) ?_
        refine ev_runs 3 (22, [some (.inr (.inr 92)), some (.inl c1), some (.inl v2), some (.inl v3), none], [], q1.2) (28, [some (.inr (.inr 92)), some (.inl c1), some (.inl v2), some (.inl v3), none], [.inl 30, .inl (q1.2 92 26)], q1.2) rfl ?_
        by_cases hc : ¬ (q1.2 92 26) = 30
        · rw [if_pos hc] at h
          refine es (34, [some (.inr (.inr 92)), some (.inl c1), some (.inl v2), some (.inl v3), none], [], q1.2) (congrArg some (if_pos hc)) ?_
          refine ev_runs 6 (34, [some (.inr (.inr 92)), some (.inl c1), some (.inl v2), some (.inl v3), none], [], q1.2) (46, [some (.inr (.inr 92)), some (.inl c1), some (.inl v2), some (.inl v3), none], [.inl (q1.2 92 36), .inl (q1.2 92 26), .inr (.inr 110)], q1.2) rfl ?_
          by_cases hc : 0 ≤ (q1.2 92 26) ∧ (q1.2 92 26) < 30
          · rw [if_pos hc] at h
            refine es (47, [some (.inr (.inr 92)), some (.inl c1), some (.inl v2), some (.inl v3), none], [], (gset q1.2 110 ((q1.2 92 26).toNat) (q1.2 92 36))) (if_pos hc) ?_
            refine ev_runs 2 (47, [some (.inr (.inr 92)), some (.inl c1), some (.inl v2), some (.inl v3), none], [], (gset q1.2 110 ((q1.2 92 26).toNat) (q1.2 92 36))) (50, [some (.inr (.inr 92)), some (.inl c1), some (.inl v2), some (.inl v3), some (.inl 0)], [], (gset q1.2 110 ((q1.2 92 26).toNat) (q1.2 92 36))) rfl ?_
            refine ev_le (L := [some (.inr (.inr 92)), some (.inl c1), some (.inl v2), none, some (.inl 0)]) (by simp [Lle]) ?_
            refine ev_Md_unfolds_l50 c1 v2 _ ?_ fu 0 (gset q1.2 110 ((q1.2 92 26).toNat) (q1.2 92 36)) r g' h
            · intro g2 r g' h
              refine ev_runs 11 (133, [some (.inr (.inr 92)), some (.inl c1), some (.inl v2), none, none], [], g2) (151, [some (.inr (.inr 92)), some (.inl c1), some (.inl v2), none, some (.inl (wr ((g2 92 35) - 1)))], [], (gset g2 92 26 (wr ((g2 92 26) + 1)))) rfl ?_
              refine ev_le (L := [some (.inr (.inr 92)), some (.inl c1), some (.inl v2), none, some (.inl (wr ((g2 92 35) - 1)))]) (by simp [Lle]) ?_
              refine ev_Md_unfolds_l151 c1 v2 _ ?_ fu (wr ((g2 92 35) - 1)) (gset g2 92 26 (wr ((g2 92 26) + 1))) r g' h
              · intro x3 g4 r g' h
                refine ev_runs 1 (179, [some (.inr (.inr 92)), some (.inl c1), some (.inl v2), none, some (.inl x3)], [], g4) (181, [some (.inr (.inr 92)), some (.inl c1), some (.inl v2), none, some (.inl x3)], [.inl x3], g4) rfl ?_
                obtain ⟨y5, hy5, h⟩ := lett_inv h
                have hjy5 : Ev 80 189 [some (.inr (.inr 92)), some (.inl c1), some (.inl v2), none, some (.inl x3)] [.inl y5] g4 (some (.inl r)) g' := by
                  refine ev_runs 2 (189, [some (.inr (.inr 92)), some (.inl c1), some (.inl v2), none, some (.inl x3)], [.inl y5], g4) (191, [some (.inr (.inr 92)), some (.inl c1), some (.inl v2), some (.inl y5), some (.inl x3)], [.inl y5], g4) rfl ?_
                  by_cases hc : y5 = 0
                  · rw [if_pos hc] at h
                    refine es (210, [some (.inr (.inr 92)), some (.inl c1), some (.inl v2), some (.inl y5), some (.inl x3)], [], g4) (congrArg some (if_pos hc)) ?_
                    refine ev_runs 1 (210, [some (.inr (.inr 92)), some (.inl c1), some (.inl v2), some (.inl y5), some (.inl x3)], [], g4) (9, [some (.inr (.inr 92)), some (.inl c1), some (.inl v2), some (.inl y5), some (.inl x3)], [], g4) rfl ?_
                    exact ev_le (L := [some (.inr (.inr 92)), some (.inl c1), some (.inl v2), some (.inl y5), none]) (by simp [Lle]) (ih9 v2 y5 g4 r g' h)
                  · rw [if_neg hc] at h
                    refine es (194, [some (.inr (.inr 92)), some (.inl c1), some (.inl v2), some (.inl y5), some (.inl x3)], [], g4) (congrArg some (if_neg hc)) ?_
                    refine ev_runs 4 (194, [some (.inr (.inr 92)), some (.inl c1), some (.inl v2), some (.inl y5), some (.inl x3)], [], g4) (201, [some (.inr (.inr 92)), some (.inl c1), some (.inl v2), some (.inl y5), some (.inl x3)], [.inl x3, .inr (.inr 114), .inl x3, .inr (.inr 114)], g4) rfl ?_
                    by_cases hc : 0 ≤ x3 ∧ x3 < 30
                    · rw [if_pos hc] at h
                      refine es (202, [some (.inr (.inr 92)), some (.inl c1), some (.inl v2), some (.inl y5), some (.inl x3)], [.inl (g4 114 x3.toNat), .inl x3, .inr (.inr 114)], g4) (if_pos hc) ?_
                      refine ev_runs 2 (202, [some (.inr (.inr 92)), some (.inl c1), some (.inl v2), some (.inl y5), some (.inl x3)], [.inl (g4 114 x3.toNat), .inl x3, .inr (.inr 114)], g4) (204, [some (.inr (.inr 92)), some (.inl c1), some (.inl v2), some (.inl y5), some (.inl x3)], [.inl (wr ((g4 114 x3.toNat) + 1)), .inl x3, .inr (.inr 114)], g4) rfl ?_
                      by_cases hc : 0 ≤ x3 ∧ x3 < 30
                      · rw [if_pos hc] at h
                        refine es (205, [some (.inr (.inr 92)), some (.inl c1), some (.inl v2), some (.inl y5), some (.inl x3)], [], (gset g4 114 x3.toNat (wr ((g4 114 x3.toNat) + 1)))) (if_pos hc) ?_
                        refine ev_runs 5 (205, [some (.inr (.inr 92)), some (.inl c1), some (.inl v2), some (.inl y5), some (.inl x3)], [], (gset g4 114 x3.toNat (wr ((g4 114 x3.toNat) + 1)))) (9, [some (.inr (.inr 92)), some (.inl c1), some (.inl (wr (x3 + 1))), some (.inl y5), some (.inl x3)], [], (gset g4 114 x3.toNat (wr ((g4 114 x3.toNat) + 1)))) rfl ?_
                        exact ev_le (L := [some (.inr (.inr 92)), some (.inl c1), some (.inl (wr (x3 + 1))), some (.inl y5), none]) (by simp [Lle]) (ih9 (wr (x3 + 1)) y5 (gset g4 114 x3.toNat (wr ((g4 114 x3.toNat) + 1))) r g' h)
                      · rw [if_neg hc] at h; cases h
                    · rw [if_neg hc] at h; cases h
                by_cases hc : x3 < 0
                · rw [if_pos hc] at hy5
                  refine es (188, [some (.inr (.inr 92)), some (.inl c1), some (.inl v2), none, some (.inl x3)], [], g4) (congrArg some (if_pos hc)) ?_
                  refine ev_runs 1 (188, [some (.inr (.inr 92)), some (.inl c1), some (.inl v2), none, some (.inl x3)], [], g4) (189, [some (.inr (.inr 92)), some (.inl c1), some (.inl v2), none, some (.inl x3)], [.inl 0], g4) rfl ?_
                  rw [hy5] at hjy5
                  exact ev_le (L := [some (.inr (.inr 92)), some (.inl c1), some (.inl v2), none, some (.inl x3)]) (by simp [Lle]) hjy5
                · rw [if_neg hc] at hy5
                  refine es (184, [some (.inr (.inr 92)), some (.inl c1), some (.inl v2), none, some (.inl x3)], [], g4) (congrArg some (if_neg hc)) ?_
                  refine ev_runs 2 (184, [some (.inr (.inr 92)), some (.inl c1), some (.inl v2), none, some (.inl x3)], [], g4) (189, [some (.inr (.inr 92)), some (.inl c1), some (.inl v2), none, some (.inl x3)], [.inl 1], g4) rfl ?_
                  rw [hy5] at hjy5
                  exact ev_le (L := [some (.inr (.inr 92)), some (.inl c1), some (.inl v2), none, some (.inl x3)]) (by simp [Lle]) hjy5
          · rw [if_neg hc] at h; cases h
        · rw [if_neg hc] at h
          refine es (31, [some (.inr (.inr 92)), some (.inl c1), some (.inl v2), some (.inl v3), none], [], q1.2) (congrArg some (if_neg hc)) ?_
          refine ev_runs 1 (31, [some (.inr (.inr 92)), some (.inl c1), some (.inl v2), some (.inl v3), none], [], q1.2) (33, [some (.inr (.inr 92)), some (.inl c1), some (.inl v2), some (.inl v3), none], [.inl (-4)], q1.2) rfl ?_
          cases h
          exact er rfl
set_option maxRecDepth 100000 in
set_option maxHeartbeats 4000000 in
theorem ev_Md_unfolds (a1 : Int) (g : Gx) (r : Int) (g' : Gx) (h : Md_unfolds a1 g = some (r, g')) : Ev 80 0 [some (.inr (.inr 92)), some (.inl a1), none, none, none] [] g (some (.inl r)) g' := by
  rw [Md_unfolds] at h
  refine ev_runs 7 (0, [some (.inr (.inr 92)), some (.inl a1), none, none, none], [], g) (9, [some (.inr (.inr 92)), some (.inl a1), some (.inl 0), some (.inl 1), none], [], (gset g 92 26 0)) rfl ?_
  refine ev_le (L := [some (.inr (.inr 92)), some (.inl a1), some (.inl 0), some (.inl 1), none]) (by simp [Lle]) ?_
  refine ev_Md_unfolds_l9 a1 _ ?_ fu 0 1 (gset g 92 26 0) r g' h
  · intro g6 r g' h
    refine ev_runs 1 (213, [none, none, none, none, none], [], g6) (214, [none, none, none, none, none], [.inl 0], g6) rfl ?_
    cases h
    exact er rfl
def Md_without (g : Gx) : Option (Int × Gx) :=
  Option.bind (Md_reads g) (fun q1 =>
  if ¬ q1.1 = (-1) then
    some ((-3), q1.2)
  else
    Option.bind (Md_unfolds (q1.2 92 7) q1.2) (fun q2 =>
    some (q2.1, q2.2)))
set_option maxRecDepth 100000 in
set_option maxHeartbeats 4000000 in
theorem ev_Md_without (g : Gx) (r : Int) (g' : Gx) (h : Md_without g = some (r, g')) : Ev 81 0 [some (.inr (.inr 92))] [] g (some (.inl r)) g' := by
  rw [Md_without] at h
  refine ev_runs 1 (0, [some (.inr (.inr 92))], [], g) (1, [some (.inr (.inr 92))], [.inr (.inr 92)], g) rfl ?_
  obtain ⟨q1, hq, h⟩ := Option.bind_eq_some_iff.mp h
  refine ec 43 4 [.inr (.inr 92)] [] rfl (ev_Md_reads g q1.1 q1.2 hq) ?_
  show Ev 81 4 [some (.inr (.inr 92))] [.inl q1.1] q1.2 _ _
  refine ev_runs 1 (4, [some (.inr (.inr 92))], [.inl q1.1], q1.2) (5, [some (.inr (.inr 92))], [.inl (-1), .inl q1.1], q1.2) rfl ?_
  by_cases hc : ¬ q1.1 = (-1)
  · rw [if_pos hc] at h
    refine es (19, [some (.inr (.inr 92))], [], q1.2) (congrArg some (if_pos hc)) ?_
    refine ev_runs 1 (19, [some (.inr (.inr 92))], [], q1.2) (21, [some (.inr (.inr 92))], [.inl (-3)], q1.2) rfl ?_
    cases h
    exact er rfl
  · rw [if_neg hc] at h
    refine es (8, [some (.inr (.inr 92))], [], q1.2) (congrArg some (if_neg hc)) ?_
    refine ev_runs 3 (8, [some (.inr (.inr 92))], [], q1.2) (13, [some (.inr (.inr 92))], [.inl (q1.2 92 7), .inr (.inr 92)], q1.2) rfl ?_
    obtain ⟨q2, hq, h⟩ := Option.bind_eq_some_iff.mp h
    refine ec 80 16 [.inr (.inr 92), .inl (q1.2 92 7)] [] rfl (ev_Md_unfolds (q1.2 92 7) q1.2 q2.1 q2.2 hq) ?_
    show Ev 81 16 [some (.inr (.inr 92))] [.inl q2.1] q2.2 _ _
    refine ev_runs 1 (16, [some (.inr (.inr 92))], [.inl q2.1], q2.2) (21, [some (.inr (.inr 92))], [.inl q2.1], q2.2) rfl ?_
    cases h
    exact er rfl
def Md_histories (g : Gx) : Option (Int × Gx) :=
  Option.bind (Md_without g) (fun q1 =>
  if q1.1 = 0 then
    some ((q1.2 92 26), q1.2)
  else
    some (q1.1, q1.2))
set_option maxRecDepth 100000 in
set_option maxHeartbeats 4000000 in
theorem ev_Md_histories (g : Gx) (r : Int) (g' : Gx) (h : Md_histories g = some (r, g')) : Ev 82 0 [some (.inr (.inr 92)), none] [] g (some (.inl r)) g' := by
  rw [Md_histories] at h
  refine ev_runs 1 (0, [some (.inr (.inr 92)), none], [], g) (1, [some (.inr (.inr 92)), none], [.inr (.inr 92)], g) rfl ?_
  obtain ⟨q1, hq, h⟩ := Option.bind_eq_some_iff.mp h
  refine ec 81 4 [.inr (.inr 92)] [] rfl (ev_Md_without g q1.1 q1.2 hq) ?_
  show Ev 82 4 [some (.inr (.inr 92)), none] [.inl q1.1] q1.2 _ _
  refine ev_runs 2 (4, [some (.inr (.inr 92)), none], [.inl q1.1], q1.2) (6, [some (.inr (.inr 92)), some (.inl q1.1)], [.inl q1.1], q1.2) rfl ?_
  by_cases hc : q1.1 = 0
  · rw [if_pos hc] at h
    refine es (13, [some (.inr (.inr 92)), some (.inl q1.1)], [], q1.2) (congrArg some (if_pos hc)) ?_
    refine ev_runs 2 (13, [some (.inr (.inr 92)), some (.inl q1.1)], [], q1.2) (17, [some (.inr (.inr 92)), some (.inl q1.1)], [.inl (q1.2 92 26)], q1.2) rfl ?_
    cases h
    exact er rfl
  · rw [if_neg hc] at h
    refine es (9, [some (.inr (.inr 92)), some (.inl q1.1)], [], q1.2) (congrArg some (if_neg hc)) ?_
    refine ev_runs 2 (9, [some (.inr (.inr 92)), some (.inl q1.1)], [], q1.2) (17, [some (.inr (.inr 92)), some (.inl q1.1)], [.inl q1.1], q1.2) rfl ?_
    cases h
    exact er rfl
def Op_isHistory (a0 : Int) : Int :=
  if a0 < 0 then
    0
  else
    if 30 ≤ a0 then
      0
    else
      1
set_option maxRecDepth 100000 in
set_option maxHeartbeats 4000000 in
theorem ev_Op_isHistory (a0 : Int) (g : Gx) (r : Int) (h : Op_isHistory a0 = r) : Ev 83 0 [some (.inl a0)] [] g (some (.inl r)) g := by
  rw [Op_isHistory] at h
  refine ev_runs 1 (0, [some (.inl a0)], [], g) (1, [some (.inl a0)], [.inl a0], g) rfl ?_
  by_cases hc : a0 < 0
  · rw [if_pos hc] at h
    refine es (14, [some (.inl a0)], [], g) (congrArg some (if_pos hc)) ?_
    refine ev_runs 1 (14, [some (.inl a0)], [], g) (15, [some (.inl a0)], [.inl 0], g) rfl ?_
    subst h
    exact er rfl
  · rw [if_neg hc] at h
    refine es (4, [some (.inl a0)], [], g) (congrArg some (if_neg hc)) ?_
    refine ev_runs 2 (4, [some (.inl a0)], [], g) (7, [some (.inl a0)], [.inl 30, .inl a0], g) rfl ?_
    by_cases hc : 30 ≤ a0
    · rw [if_pos hc] at h
      refine es (14, [some (.inl a0)], [], g) (congrArg some (if_pos hc)) ?_
      refine ev_runs 1 (14, [some (.inl a0)], [], g) (15, [some (.inl a0)], [.inl 0], g) rfl ?_
      subst h
      exact er rfl
    · rw [if_neg hc] at h
      refine es (10, [some (.inl a0)], [], g) (congrArg some (if_neg hc)) ?_
      refine ev_runs 2 (10, [some (.inl a0)], [], g) (15, [some (.inl a0)], [.inl 1], g) rfl ?_
      subst h
      exact er rfl
theorem bo_Op_isHistory (a0 : Int) : (Op_isHistory a0) = 0 ∨ (Op_isHistory a0) = 1 := by
  simp only [Op_isHistory, lett]
  (repeat' split) <;> first | exact Or.inl rfl | exact Or.inr rfl | exact Or.inl trivial | exact Or.inr trivial
def Hi_length (a1 : Int) (g : Gx) : Int :=
  (rat g 37 30 a1)
set_option maxRecDepth 100000 in
set_option maxHeartbeats 4000000 in
theorem ev_Hi_length (a1 : Int) (g : Gx) (r : Int) (h : Hi_length a1 g = r) : Ev 84 0 [some (.inr (.inr 33)), some (.inl a1)] [] g (some (.inl r)) g := by
  rw [Hi_length] at h
  refine ev_runs 3 (0, [some (.inr (.inr 33)), some (.inl a1)], [], g) (5, [some (.inr (.inr 33)), some (.inl a1)], [.inl a1, .inr (.inr 36)], g) rfl ?_
  refine ec 13 8 [.inr (.inr 36), .inl a1] [] rfl (ev_Row_at rfl rfl _ _) ?_
  show Ev 84 8 [some (.inr (.inr 33)), some (.inl a1)] [.inl (rat g 37 30 a1)] g _ _
  subst h
  exact er rfl
def Hi_word (a1 a2 : Int) (g : Gx) : Int :=
  (rat g 35 720 (wr ((wr (a1 * 24)) + a2)))
set_option maxRecDepth 100000 in
set_option maxHeartbeats 4000000 in
theorem ev_Hi_word (a1 a2 : Int) (g : Gx) (r : Int) (h : Hi_word a1 a2 g = r) : Ev 85 0 [some (.inr (.inr 33)), some (.inl a1), some (.inl a2)] [] g (some (.inl r)) g := by
  rw [Hi_word] at h
  refine ev_runs 7 (0, [some (.inr (.inr 33)), some (.inl a1), some (.inl a2)], [], g) (10, [some (.inr (.inr 33)), some (.inl a1), some (.inl a2)], [.inl (wr ((wr (a1 * 24)) + a2)), .inr (.inr 34)], g) rfl ?_
  refine ec 13 13 [.inr (.inr 34), .inl (wr ((wr (a1 * 24)) + a2))] [] rfl (ev_Row_at rfl rfl _ _) ?_
  show Ev 85 13 [some (.inr (.inr 33)), some (.inl a1), some (.inl a2)] [.inl (rat g 35 720 (wr ((wr (a1 * 24)) + a2)))] g _ _
  subst h
  exact er rfl
def Op_said (a1 a2 : Int) (g : Gx) : Option (Int × Gx) :=
  if (Op_isHistory a1) = 0 then
    some ((-2), g)
  else
    if (-1) ≤ a2 then
      Option.bind (Op_hindrance a1 g) (fun q1 =>
      if q1.1 = 0 then
        if ¬ a2 = (-1) then
          if (Hi_length a1 q1.2) ≤ a2 then
            some ((-1), q1.2)
          else
            some ((Hi_word a1 a2 q1.2), q1.2)
        else
          some ((Hi_length a1 q1.2), q1.2)
      else
        some (q1.1, q1.2))
    else
      some ((-2), g)
set_option maxRecDepth 100000 in
set_option maxHeartbeats 4000000 in
theorem ev_Op_said (a1 a2 : Int) (g : Gx) (r : Int) (g' : Gx) (h : Op_said a1 a2 g = some (r, g')) : Ev 86 0 [some (.inr (.inr 0)), some (.inl a1), some (.inl a2), none] [] g (some (.inl r)) g' := by
  rw [Op_said] at h
  refine ev_runs 1 (0, [some (.inr (.inr 0)), some (.inl a1), some (.inl a2), none], [], g) (1, [some (.inr (.inr 0)), some (.inl a1), some (.inl a2), none], [.inl a1], g) rfl ?_
  refine ec 83 4 [.inl a1] [] rfl (ev_Op_isHistory a1 g _ rfl) ?_
  show Ev 86 4 [some (.inr (.inr 0)), some (.inl a1), some (.inl a2), none] [.inl (Op_isHistory a1)] g _ _
  by_cases hc : (Op_isHistory a1) = 0
  · rw [if_pos hc] at h
    refine es (12, [some (.inr (.inr 0)), some (.inl a1), some (.inl a2), none], [], g) (congrArg some (if_pos hc)) ?_
    refine ev_runs 1 (12, [some (.inr (.inr 0)), some (.inl a1), some (.inl a2), none], [], g) (14, [some (.inr (.inr 0)), some (.inl a1), some (.inl a2), none], [.inl (-2)], g) rfl ?_
    cases h
    exact er rfl
  · rw [if_neg hc] at h
    refine es (7, [some (.inr (.inr 0)), some (.inl a1), some (.inl a2), none], [], g) (congrArg some (if_neg hc)) ?_
    refine ev_runs 2 (7, [some (.inr (.inr 0)), some (.inl a1), some (.inl a2), none], [], g) (9, [some (.inr (.inr 0)), some (.inl a1), some (.inl a2), none], [.inl (-1), .inl a2], g) rfl ?_
    by_cases hc : (-1) ≤ a2
    · rw [if_pos hc] at h
      refine es (15, [some (.inr (.inr 0)), some (.inl a1), some (.inl a2), none], [], g) (congrArg some (if_pos hc)) ?_
      refine ev_runs 2 (15, [some (.inr (.inr 0)), some (.inl a1), some (.inl a2), none], [], g) (17, [some (.inr (.inr 0)), some (.inl a1), some (.inl a2), none], [.inl a1, .inr (.inr 0)], g) rfl ?_
      obtain ⟨q1, hq, h⟩ := Option.bind_eq_some_iff.mp h
      refine ec 75 20 [.inr (.inr 0), .inl a1] [] rfl (ev_Op_hindrance a1 g q1.1 q1.2 hq) ?_
      show Ev 86 20 [some (.inr (.inr 0)), some (.inl a1), some (.inl a2), none] [.inl q1.1] q1.2 _ _
      refine ev_runs 2 (20, [some (.inr (.inr 0)), some (.inl a1), some (.inl a2), none], [.inl q1.1], q1.2) (22, [some (.inr (.inr 0)), some (.inl a1), some (.inl a2), some (.inl q1.1)], [.inl q1.1], q1.2) rfl ?_
      by_cases hc : q1.1 = 0
      · rw [if_pos hc] at h
        refine es (27, [some (.inr (.inr 0)), some (.inl a1), some (.inl a2), some (.inl q1.1)], [], q1.2) (congrArg some (if_pos hc)) ?_
        refine ev_runs 2 (27, [some (.inr (.inr 0)), some (.inl a1), some (.inl a2), some (.inl q1.1)], [], q1.2) (29, [some (.inr (.inr 0)), some (.inl a1), some (.inl a2), some (.inl q1.1)], [.inl (-1), .inl a2], q1.2) rfl ?_
        by_cases hc : ¬ a2 = (-1)
        · rw [if_pos hc] at h
          refine es (41, [some (.inr (.inr 0)), some (.inl a1), some (.inl a2), some (.inl q1.1)], [], q1.2) (congrArg some (if_pos hc)) ?_
          refine ev_runs 4 (41, [some (.inr (.inr 0)), some (.inl a1), some (.inl a2), some (.inl q1.1)], [], q1.2) (47, [some (.inr (.inr 0)), some (.inl a1), some (.inl a2), some (.inl q1.1)], [.inl a1, .inr (.inr 33), .inl a2], q1.2) rfl ?_
          refine ec 84 50 [.inr (.inr 33), .inl a1] [.inl a2] rfl (ev_Hi_length a1 q1.2 _ rfl) ?_
          show Ev 86 50 [some (.inr (.inr 0)), some (.inl a1), some (.inl a2), some (.inl q1.1)] [.inl (Hi_length a1 q1.2), .inl a2] q1.2 _ _
          by_cases hc : (Hi_length a1 q1.2) ≤ a2
          · rw [if_pos hc] at h
            refine es (65, [some (.inr (.inr 0)), some (.inl a1), some (.inl a2), some (.inl q1.1)], [], q1.2) (congrArg some (if_pos hc)) ?_
            refine ev_runs 1 (65, [some (.inr (.inr 0)), some (.inl a1), some (.inl a2), some (.inl q1.1)], [], q1.2) (66, [some (.inr (.inr 0)), some (.inl a1), some (.inl a2), some (.inl q1.1)], [.inl (-1)], q1.2) rfl ?_
            cases h
            exact er rfl
          · rw [if_neg hc] at h
            refine es (53, [some (.inr (.inr 0)), some (.inl a1), some (.inl a2), some (.inl q1.1)], [], q1.2) (congrArg some (if_neg hc)) ?_
            refine ev_runs 4 (53, [some (.inr (.inr 0)), some (.inl a1), some (.inl a2), some (.inl q1.1)], [], q1.2) (59, [some (.inr (.inr 0)), some (.inl a1), some (.inl a2), some (.inl q1.1)], [.inl a2, .inl a1, .inr (.inr 33)], q1.2) rfl ?_
            refine ec 85 62 [.inr (.inr 33), .inl a1, .inl a2] [] rfl (ev_Hi_word a1 a2 q1.2 _ rfl) ?_
            show Ev 86 62 [some (.inr (.inr 0)), some (.inl a1), some (.inl a2), some (.inl q1.1)] [.inl (Hi_word a1 a2 q1.2)] q1.2 _ _
            refine ev_runs 1 (62, [some (.inr (.inr 0)), some (.inl a1), some (.inl a2), some (.inl q1.1)], [.inl (Hi_word a1 a2 q1.2)], q1.2) (66, [some (.inr (.inr 0)), some (.inl a1), some (.inl a2), some (.inl q1.1)], [.inl (Hi_word a1 a2 q1.2)], q1.2) rfl ?_
            cases h
            exact er rfl
        · rw [if_neg hc] at h
          refine es (32, [some (.inr (.inr 0)), some (.inl a1), some (.inl a2), some (.inl q1.1)], [], q1.2) (congrArg some (if_neg hc)) ?_
          refine ev_runs 3 (32, [some (.inr (.inr 0)), some (.inl a1), some (.inl a2), some (.inl q1.1)], [], q1.2) (37, [some (.inr (.inr 0)), some (.inl a1), some (.inl a2), some (.inl q1.1)], [.inl a1, .inr (.inr 33)], q1.2) rfl ?_
          refine ec 84 40 [.inr (.inr 33), .inl a1] [] rfl (ev_Hi_length a1 q1.2 _ rfl) ?_
          show Ev 86 40 [some (.inr (.inr 0)), some (.inl a1), some (.inl a2), some (.inl q1.1)] [.inl (Hi_length a1 q1.2)] q1.2 _ _
          cases h
          exact er rfl
      · rw [if_neg hc] at h
        refine es (25, [some (.inr (.inr 0)), some (.inl a1), some (.inl a2), some (.inl q1.1)], [], q1.2) (congrArg some (if_neg hc)) ?_
        refine ev_runs 1 (25, [some (.inr (.inr 0)), some (.inl a1), some (.inl a2), some (.inl q1.1)], [], q1.2) (26, [some (.inr (.inr 0)), some (.inl a1), some (.inl a2), some (.inl q1.1)], [.inl q1.1], q1.2) rfl ?_
        cases h
        exact er rfl
    · rw [if_neg hc] at h
      refine es (12, [some (.inr (.inr 0)), some (.inl a1), some (.inl a2), none], [], g) (congrArg some (if_neg hc)) ?_
      refine ev_runs 1 (12, [some (.inr (.inr 0)), some (.inl a1), some (.inl a2), none], [], g) (14, [some (.inr (.inr 0)), some (.inl a1), some (.inl a2), none], [.inl (-2)], g) rfl ?_
      cases h
      exact er rfl
def Md_isHistory (a0 : Int) : Int :=
  (Md_in a0 0 29)
set_option maxRecDepth 100000 in
set_option maxHeartbeats 4000000 in
theorem ev_Md_isHistory (a0 : Int) (g : Gx) (r : Int) (h : Md_isHistory a0 = r) : Ev 87 0 [some (.inl a0)] [] g (some (.inl r)) g := by
  rw [Md_isHistory] at h
  refine ev_runs 4 (0, [some (.inl a0)], [], g) (6, [some (.inl a0)], [.inr (.inl 29), .inr (.inl 0), .inr (.inl a0)], g) rfl ?_
  refine ec 4 9 [.inr (.inl a0), .inr (.inl 0), .inr (.inl 29)] [] rfl (ev_Md_in a0 0 29 g _ rfl) ?_
  show Ev 87 9 [some (.inl a0)] [.inl (Md_in a0 0 29)] g _ _
  subst h
  exact er (if_pos (bo_Md_in a0 0 29))
theorem bo_Md_isHistory (a0 : Int) : (Md_isHistory a0) = 0 ∨ (Md_isHistory a0) = 1 := by
  simp only [Md_isHistory, lett]
  (repeat' split) <;> first | exact Or.inl rfl | exact Or.inr rfl | exact Or.inl trivial | exact Or.inr trivial | apply bo_Md_in
def Md_lacksOne (a1 : Int) (g : Gx) : Option (Int × Gx) :=
  Option.bind (Md_without g) (fun q1 =>
  if q1.1 = 0 then
    if (q1.2 92 26) ≤ a1 then
      some ((-2), q1.2)
    else
      some (0, q1.2)
  else
    some (q1.1, q1.2))
set_option maxRecDepth 100000 in
set_option maxHeartbeats 4000000 in
theorem ev_Md_lacksOne (a1 : Int) (g : Gx) (r : Int) (g' : Gx) (h : Md_lacksOne a1 g = some (r, g')) : Ev 88 0 [some (.inr (.inr 92)), some (.inl a1), none] [] g (some (.inl r)) g' := by
  rw [Md_lacksOne] at h
  refine ev_runs 1 (0, [some (.inr (.inr 92)), some (.inl a1), none], [], g) (1, [some (.inr (.inr 92)), some (.inl a1), none], [.inr (.inr 92)], g) rfl ?_
  obtain ⟨q1, hq, h⟩ := Option.bind_eq_some_iff.mp h
  refine ec 81 4 [.inr (.inr 92)] [] rfl (ev_Md_without g q1.1 q1.2 hq) ?_
  show Ev 88 4 [some (.inr (.inr 92)), some (.inl a1), none] [.inl q1.1] q1.2 _ _
  refine ev_runs 2 (4, [some (.inr (.inr 92)), some (.inl a1), none], [.inl q1.1], q1.2) (6, [some (.inr (.inr 92)), some (.inl a1), some (.inl q1.1)], [.inl q1.1], q1.2) rfl ?_
  by_cases hc : q1.1 = 0
  · rw [if_pos hc] at h
    refine es (13, [some (.inr (.inr 92)), some (.inl a1), some (.inl q1.1)], [], q1.2) (congrArg some (if_pos hc)) ?_
    refine ev_runs 3 (13, [some (.inr (.inr 92)), some (.inl a1), some (.inl q1.1)], [], q1.2) (18, [some (.inr (.inr 92)), some (.inl a1), some (.inl q1.1)], [.inl (q1.2 92 26), .inl a1], q1.2) rfl ?_
    by_cases hc : (q1.2 92 26) ≤ a1
    · rw [if_pos hc] at h
      refine es (25, [some (.inr (.inr 92)), some (.inl a1), some (.inl q1.1)], [], q1.2) (congrArg some (if_pos hc)) ?_
      refine ev_runs 1 (25, [some (.inr (.inr 92)), some (.inl a1), some (.inl q1.1)], [], q1.2) (27, [some (.inr (.inr 92)), some (.inl a1), some (.inl q1.1)], [.inl (-2)], q1.2) rfl ?_
      cases h
      exact er rfl
    · rw [if_neg hc] at h
      refine es (21, [some (.inr (.inr 92)), some (.inl a1), some (.inl q1.1)], [], q1.2) (congrArg some (if_neg hc)) ?_
      refine ev_runs 2 (21, [some (.inr (.inr 92)), some (.inl a1), some (.inl q1.1)], [], q1.2) (27, [some (.inr (.inr 92)), some (.inl a1), some (.inl q1.1)], [.inl 0], q1.2) rfl ?_
      cases h
      exact er rfl
  · rw [if_neg hc] at h
    refine es (9, [some (.inr (.inr 92)), some (.inl a1), some (.inl q1.1)], [], q1.2) (congrArg some (if_neg hc)) ?_
    refine ev_runs 2 (9, [some (.inr (.inr 92)), some (.inl a1), some (.inl q1.1)], [], q1.2) (27, [some (.inr (.inr 92)), some (.inl a1), some (.inl q1.1)], [.inl q1.1], q1.2) rfl ?_
    cases h
    exact er rfl
def Md_code (a1 a2 : Int) (g : Gx) : Option (Int × Gx) :=
  if 0 ≤ (wr ((wr (24 * a1)) + a2)) ∧ (wr ((wr (24 * a1)) + a2)) < 720 then
  some ((g 111 (wr ((wr (24 * a1)) + a2)).toNat), g)
  else none
set_option maxRecDepth 100000 in
set_option maxHeartbeats 4000000 in
theorem ev_Md_code (a1 a2 : Int) (g : Gx) (r : Int) (g' : Gx) (h : Md_code a1 a2 g = some (r, g')) : Ev 89 0 [some (.inr (.inr 92)), some (.inl a1), some (.inl a2)] [] g (some (.inl r)) g' := by
  rw [Md_code] at h
  refine ev_runs 7 (0, [some (.inr (.inr 92)), some (.inl a1), some (.inl a2)], [], g) (10, [some (.inr (.inr 92)), some (.inl a1), some (.inl a2)], [.inl (wr ((wr (24 * a1)) + a2)), .inr (.inr 111)], g) rfl ?_
  by_cases hc : 0 ≤ (wr ((wr (24 * a1)) + a2)) ∧ (wr ((wr (24 * a1)) + a2)) < 720
  · rw [if_pos hc] at h
    refine es (11, [some (.inr (.inr 92)), some (.inl a1), some (.inl a2)], [.inl (g 111 (wr ((wr (24 * a1)) + a2)).toNat)], g) (if_pos hc) ?_
    cases h
    exact er rfl
  · rw [if_neg hc] at h; cases h
def Md_said (a1 a2 : Int) (g : Gx) : Option (Int × Gx) :=
  if (Md_isHistory a1) = 0 then
    some ((-2), g)
  else
    if (-1) ≤ a2 then
      Option.bind (Md_lacksOne a1 g) (fun q1 =>
      if q1.1 = 0 then
        if ¬ a2 = (-1) then
          if 0 ≤ a1 ∧ a1 < 30 then
          if (q1.2 110 a1.toNat) ≤ a2 then
            some ((-1), q1.2)
          else
            Option.bind (Md_code a1 a2 q1.2) (fun q2 =>
            some (q2.1, q2.2))
          else none
        else
          if 0 ≤ a1 ∧ a1 < 30 then
          some ((q1.2 110 a1.toNat), q1.2)
          else none
      else
        some (q1.1, q1.2))
    else
      some ((-2), g)
set_option maxRecDepth 100000 in
set_option maxHeartbeats 4000000 in
theorem ev_Md_said (a1 a2 : Int) (g : Gx) (r : Int) (g' : Gx) (h : Md_said a1 a2 g = some (r, g')) : Ev 90 0 [some (.inr (.inr 92)), some (.inl a1), some (.inl a2), none] [] g (some (.inl r)) g' := by
  rw [Md_said] at h
  refine ev_runs 1 (0, [some (.inr (.inr 92)), some (.inl a1), some (.inl a2), none], [], g) (1, [some (.inr (.inr 92)), some (.inl a1), some (.inl a2), none], [.inl a1], g) rfl ?_
  refine ec 87 4 [.inl a1] [] rfl (ev_Md_isHistory a1 g _ rfl) ?_
  show Ev 90 4 [some (.inr (.inr 92)), some (.inl a1), some (.inl a2), none] [.inl (Md_isHistory a1)] g _ _
  by_cases hc : (Md_isHistory a1) = 0
  · rw [if_pos hc] at h
    refine es (12, [some (.inr (.inr 92)), some (.inl a1), some (.inl a2), none], [], g) (congrArg some (if_pos hc)) ?_
    refine ev_runs 1 (12, [some (.inr (.inr 92)), some (.inl a1), some (.inl a2), none], [], g) (14, [some (.inr (.inr 92)), some (.inl a1), some (.inl a2), none], [.inl (-2)], g) rfl ?_
    cases h
    exact er rfl
  · rw [if_neg hc] at h
    refine es (7, [some (.inr (.inr 92)), some (.inl a1), some (.inl a2), none], [], g) (congrArg some (if_neg hc)) ?_
    refine ev_runs 2 (7, [some (.inr (.inr 92)), some (.inl a1), some (.inl a2), none], [], g) (9, [some (.inr (.inr 92)), some (.inl a1), some (.inl a2), none], [.inl (-1), .inl a2], g) rfl ?_
    by_cases hc : (-1) ≤ a2
    · rw [if_pos hc] at h
      refine es (15, [some (.inr (.inr 92)), some (.inl a1), some (.inl a2), none], [], g) (congrArg some (if_pos hc)) ?_
      refine ev_runs 2 (15, [some (.inr (.inr 92)), some (.inl a1), some (.inl a2), none], [], g) (17, [some (.inr (.inr 92)), some (.inl a1), some (.inl a2), none], [.inl a1, .inr (.inr 92)], g) rfl ?_
      obtain ⟨q1, hq, h⟩ := Option.bind_eq_some_iff.mp h
      refine ec 88 20 [.inr (.inr 92), .inl a1] [] rfl (ev_Md_lacksOne a1 g q1.1 q1.2 hq) ?_
      show Ev 90 20 [some (.inr (.inr 92)), some (.inl a1), some (.inl a2), none] [.inl q1.1] q1.2 _ _
      refine ev_runs 2 (20, [some (.inr (.inr 92)), some (.inl a1), some (.inl a2), none], [.inl q1.1], q1.2) (22, [some (.inr (.inr 92)), some (.inl a1), some (.inl a2), some (.inl q1.1)], [.inl q1.1], q1.2) rfl ?_
      by_cases hc : q1.1 = 0
      · rw [if_pos hc] at h
        refine es (27, [some (.inr (.inr 92)), some (.inl a1), some (.inl a2), some (.inl q1.1)], [], q1.2) (congrArg some (if_pos hc)) ?_
        refine ev_runs 2 (27, [some (.inr (.inr 92)), some (.inl a1), some (.inl a2), some (.inl q1.1)], [], q1.2) (29, [some (.inr (.inr 92)), some (.inl a1), some (.inl a2), some (.inl q1.1)], [.inl (-1), .inl a2], q1.2) rfl ?_
        by_cases hc : ¬ a2 = (-1)
        · rw [if_pos hc] at h
          refine es (41, [some (.inr (.inr 92)), some (.inl a1), some (.inl a2), some (.inl q1.1)], [], q1.2) (congrArg some (if_pos hc)) ?_
          refine ev_runs 4 (41, [some (.inr (.inr 92)), some (.inl a1), some (.inl a2), some (.inl q1.1)], [], q1.2) (47, [some (.inr (.inr 92)), some (.inl a1), some (.inl a2), some (.inl q1.1)], [.inl a1, .inr (.inr 110), .inl a2], q1.2) rfl ?_
          by_cases hc : 0 ≤ a1 ∧ a1 < 30
          · rw [if_pos hc] at h
            refine es (48, [some (.inr (.inr 92)), some (.inl a1), some (.inl a2), some (.inl q1.1)], [.inl (q1.2 110 a1.toNat), .inl a2], q1.2) (if_pos hc) ?_
            by_cases hc : (q1.2 110 a1.toNat) ≤ a2
            · rw [if_pos hc] at h
              refine es (60, [some (.inr (.inr 92)), some (.inl a1), some (.inl a2), some (.inl q1.1)], [], q1.2) (congrArg some (if_pos hc)) ?_
              refine ev_runs 1 (60, [some (.inr (.inr 92)), some (.inl a1), some (.inl a2), some (.inl q1.1)], [], q1.2) (61, [some (.inr (.inr 92)), some (.inl a1), some (.inl a2), some (.inl q1.1)], [.inl (-1)], q1.2) rfl ?_
              cases h
              exact er rfl
            · rw [if_neg hc] at h
              refine es (51, [some (.inr (.inr 92)), some (.inl a1), some (.inl a2), some (.inl q1.1)], [], q1.2) (congrArg some (if_neg hc)) ?_
              refine ev_runs 3 (51, [some (.inr (.inr 92)), some (.inl a1), some (.inl a2), some (.inl q1.1)], [], q1.2) (54, [some (.inr (.inr 92)), some (.inl a1), some (.inl a2), some (.inl q1.1)], [.inl a2, .inl a1, .inr (.inr 92)], q1.2) rfl ?_
              obtain ⟨q2, hq, h⟩ := Option.bind_eq_some_iff.mp h
              refine ec 89 57 [.inr (.inr 92), .inl a1, .inl a2] [] rfl (ev_Md_code a1 a2 q1.2 q2.1 q2.2 hq) ?_
              show Ev 90 57 [some (.inr (.inr 92)), some (.inl a1), some (.inl a2), some (.inl q1.1)] [.inl q2.1] q2.2 _ _
              refine ev_runs 1 (57, [some (.inr (.inr 92)), some (.inl a1), some (.inl a2), some (.inl q1.1)], [.inl q2.1], q2.2) (61, [some (.inr (.inr 92)), some (.inl a1), some (.inl a2), some (.inl q1.1)], [.inl q2.1], q2.2) rfl ?_
              cases h
              exact er rfl
          · rw [if_neg hc] at h; cases h
        · rw [if_neg hc] at h
          refine es (32, [some (.inr (.inr 92)), some (.inl a1), some (.inl a2), some (.inl q1.1)], [], q1.2) (congrArg some (if_neg hc)) ?_
          refine ev_runs 3 (32, [some (.inr (.inr 92)), some (.inl a1), some (.inl a2), some (.inl q1.1)], [], q1.2) (37, [some (.inr (.inr 92)), some (.inl a1), some (.inl a2), some (.inl q1.1)], [.inl a1, .inr (.inr 110)], q1.2) rfl ?_
          by_cases hc : 0 ≤ a1 ∧ a1 < 30
          · rw [if_pos hc] at h
            refine es (38, [some (.inr (.inr 92)), some (.inl a1), some (.inl a2), some (.inl q1.1)], [.inl (q1.2 110 a1.toNat)], q1.2) (if_pos hc) ?_
            refine ev_runs 1 (38, [some (.inr (.inr 92)), some (.inl a1), some (.inl a2), some (.inl q1.1)], [.inl (q1.2 110 a1.toNat)], q1.2) (61, [some (.inr (.inr 92)), some (.inl a1), some (.inl a2), some (.inl q1.1)], [.inl (q1.2 110 a1.toNat)], q1.2) rfl ?_
            cases h
            exact er rfl
          · rw [if_neg hc] at h; cases h
      · rw [if_neg hc] at h
        refine es (25, [some (.inr (.inr 92)), some (.inl a1), some (.inl a2), some (.inl q1.1)], [], q1.2) (congrArg some (if_neg hc)) ?_
        refine ev_runs 1 (25, [some (.inr (.inr 92)), some (.inl a1), some (.inl a2), some (.inl q1.1)], [], q1.2) (26, [some (.inr (.inr 92)), some (.inl a1), some (.inl a2), some (.inl q1.1)], [.inl q1.1], q1.2) rfl ?_
        cases h
        exact er rfl
    · rw [if_neg hc] at h
      refine es (12, [some (.inr (.inr 92)), some (.inl a1), some (.inl a2), none], [], g) (congrArg some (if_neg hc)) ?_
      refine ev_runs 1 (12, [some (.inr (.inr 92)), some (.inl a1), some (.inl a2), none], [], g) (14, [some (.inr (.inr 92)), some (.inl a1), some (.inl a2), none], [.inl (-2)], g) rfl ?_
      cases h
      exact er rfl
def Op_isTalker (a0 : Int) : Int :=
  if a0 < 0 then
    0
  else
    if 6 ≤ a0 then
      0
    else
      1
set_option maxRecDepth 100000 in
set_option maxHeartbeats 4000000 in
theorem ev_Op_isTalker (a0 : Int) (g : Gx) (r : Int) (h : Op_isTalker a0 = r) : Ev 91 0 [some (.inl a0)] [] g (some (.inl r)) g := by
  rw [Op_isTalker] at h
  refine ev_runs 1 (0, [some (.inl a0)], [], g) (1, [some (.inl a0)], [.inl a0], g) rfl ?_
  by_cases hc : a0 < 0
  · rw [if_pos hc] at h
    refine es (14, [some (.inl a0)], [], g) (congrArg some (if_pos hc)) ?_
    refine ev_runs 1 (14, [some (.inl a0)], [], g) (15, [some (.inl a0)], [.inl 0], g) rfl ?_
    subst h
    exact er rfl
  · rw [if_neg hc] at h
    refine es (4, [some (.inl a0)], [], g) (congrArg some (if_neg hc)) ?_
    refine ev_runs 2 (4, [some (.inl a0)], [], g) (7, [some (.inl a0)], [.inl 6, .inl a0], g) rfl ?_
    by_cases hc : 6 ≤ a0
    · rw [if_pos hc] at h
      refine es (14, [some (.inl a0)], [], g) (congrArg some (if_pos hc)) ?_
      refine ev_runs 1 (14, [some (.inl a0)], [], g) (15, [some (.inl a0)], [.inl 0], g) rfl ?_
      subst h
      exact er rfl
    · rw [if_neg hc] at h
      refine es (10, [some (.inl a0)], [], g) (congrArg some (if_neg hc)) ?_
      refine ev_runs 2 (10, [some (.inl a0)], [], g) (15, [some (.inl a0)], [.inl 1], g) rfl ?_
      subst h
      exact er rfl
theorem bo_Op_isTalker (a0 : Int) : (Op_isTalker a0) = 0 ∨ (Op_isTalker a0) = 1 := by
  simp only [Op_isTalker, lett]
  (repeat' split) <;> first | exact Or.inl rfl | exact Or.inr rfl | exact Or.inl trivial | exact Or.inr trivial
def Op_sayer (a0 : Int) : Int :=
  (jdiv a0 1000)
set_option maxRecDepth 100000 in
set_option maxHeartbeats 4000000 in
theorem ev_Op_sayer (a0 : Int) (g : Gx) (r : Int) (h : Op_sayer a0 = r) : Ev 92 0 [some (.inl a0)] [] g (some (.inl r)) g := by
  rw [Op_sayer] at h
  refine ev_runs 3 (0, [some (.inl a0)], [], g) (5, [some (.inl a0)], [.inl (jdiv a0 1000)], g) rfl ?_
  subst h
  exact er rfl
def Op_getter (a0 : Int) : Int :=
  (jrem (jdiv a0 100) 10)
set_option maxRecDepth 100000 in
set_option maxHeartbeats 4000000 in
theorem ev_Op_getter (a0 : Int) (g : Gx) (r : Int) (h : Op_getter a0 = r) : Ev 93 0 [some (.inl a0)] [] g (some (.inl r)) g := by
  rw [Op_getter] at h
  refine ev_runs 5 (0, [some (.inl a0)], [], g) (7, [some (.inl a0)], [.inl (jrem (jdiv a0 100) 10)], g) rfl ?_
  subst h
  exact er rfl
def Lk_load_l18 (c1 : Int) (c2 : Int) (K18_108 : Int → Gx → Option Gx) : Nat → Int → Int → Gx → Option Gx
  | 0, _, _, _ => none
  | n18 + 1, v3, v4, g =>
    if (Hi_length c2 g) ≤ v4 then
      K18_108 v3 g
    else
      if (Op_sayer (Hi_word c2 v4 g)) = c1 then
        lett (if ¬ (Op_sayer (Hi_word c2 v4 g)) = c1 then 20000 else 10000) (fun y1 =>
        Lk_load_l18 c1 c2 K18_108 n18 (wr (v3 + 1)) (wr (v4 + 1)) (rset g 52 720 (wr ((wr (c2 * 24)) + v3)) (wr (y1 + (Hi_word c2 v4 g)))))
      else
        if ¬ (Op_getter (Hi_word c2 v4 g)) = c1 then
          Lk_load_l18 c1 c2 K18_108 n18 v3 (wr (v4 + 1)) g
        else
          lett (if ¬ (Op_sayer (Hi_word c2 v4 g)) = c1 then 20000 else 10000) (fun y2 =>
          Lk_load_l18 c1 c2 K18_108 n18 (wr (v3 + 1)) (wr (v4 + 1)) (rset g 52 720 (wr ((wr (c2 * 24)) + v3)) (wr (y2 + (Hi_word c2 v4 g)))))
def Lk_load_l2 (c1 : Int) (K2_123 : Gx → Option Gx) : Nat → Int → Gx → Option Gx
  | 0, _, _ => none
  | n2 + 1, v2, g =>
    if (Hi_size g) ≤ v2 then
      K2_123 g
    else
      Lk_load_l18 c1 v2
        (fun x3 g4 =>
          Lk_load_l2 c1 K2_123 n2 (wr (v2 + 1)) (rset g4 54 30 v2 x3))
        fu 0 0 g
def Lk_load (a1 : Int) (g : Gx) : Option Gx :=
  Lk_load_l2 a1
    (fun g5 =>
      some g5)
    fu 0 g
set_option maxRecDepth 100000 in
set_option maxHeartbeats 4000000 in
theorem ev_Lk_load_l18 (c1 : Int) (c2 : Int) (K18_108 : Int → Gx → Option Gx) (hK18_108 : ∀ (x3 : Int) (g : Gx) (g' : Gx), K18_108 x3 g = some g' → Ev 94 108 [some (.inr (.inr 50)), some (.inl c1), some (.inl c2), some (.inl x3), none, none, none] [] g none g') : ∀ (n18 : Nat) (v3 v4 : Int) (g : Gx) (g' : Gx), Lk_load_l18 c1 c2 K18_108 n18 v3 v4 g = some g' → Ev 94 18 [some (.inr (.inr 50)), some (.inl c1), some (.inl c2), some (.inl v3), some (.inl v4), none, none] [] g none g' := by
  intro n18
  induction n18 with
  | zero => intro v3 v4 g g' h; cases h
  | succ n18 ih18 =>
    intro v3 v4 g g' h
    rw [Lk_load_l18] at h
    refine ev_runs 4 (18, [some (.inr (.inr 50)), some (.inl c1), some (.inl c2), some (.inl v3), some (.inl v4), none, none], [], g) (25, [some (.inr (.inr 50)), some (.inl c1), some (.inl c2), some (.inl v3), some (.inl v4), none, none], [.inl c2, .inr (.inr 33), .inl v4], g) rfl ?_
    refine ec 84 28 [.inr (.inr 33), .inl c2] [.inl v4] rfl (ev_Hi_length c2 g _ rfl) ?_
    show Ev 94 28 [some (.inr (.inr 50)), some (.inl c1), some (.inl c2), some (.inl v3), some (.inl v4), none, none] [.inl (Hi_length c2 g), .inl v4] g _ _
    by_cases hc : (Hi_length c2 g) ≤ v4
    · rw [if_pos hc] at h
      refine es (108, [some (.inr (.inr 50)), some (.inl c1), some (.inl c2), some (.inl v3), some (.inl v4), none, none], [], g) (congrArg some (if_pos hc)) ?_
      exact ev_le (L := [some (.inr (.inr 50)), some (.inl c1), some (.inl c2), some (.inl v3), none, none, none]) (by simp [Lle]) (hK18_108 v3 g g' h)
    · rw [if_neg hc] at h
      refine es (31, [some (.inr (.inr 50)), some (.inl c1), some (.inl c2), some (.inl v3), some (.inl v4), none, none], [], g) (congrArg some (if_neg hc)) ?_
      refine ev_runs 4 (31, [some (.inr (.inr 50)), some (.inl c1), some (.inl c2), some (.inl v3), some (.inl v4), none, none], [], g) (38, [some (.inr (.inr 50)), some (.inl c1), some (.inl c2), some (.inl v3), some (.inl v4), none, none], [.inl v4, .inl c2, .inr (.inr 33)], g) rfl ?_
      refine ec 85 41 [.inr (.inr 33), .inl c2, .inl v4] [] rfl (ev_Hi_word c2 v4 g _ rfl) ?_
      show Ev 94 41 [some (.inr (.inr 50)), some (.inl c1), some (.inl c2), some (.inl v3), some (.inl v4), none, none] [.inl (Hi_word c2 v4 g)] g _ _
      refine ev_runs 2 (41, [some (.inr (.inr 50)), some (.inl c1), some (.inl c2), some (.inl v3), some (.inl v4), none, none], [.inl (Hi_word c2 v4 g)], g) (45, [some (.inr (.inr 50)), some (.inl c1), some (.inl c2), some (.inl v3), some (.inl v4), some (.inl (Hi_word c2 v4 g)), none], [.inl (Hi_word c2 v4 g)], g) rfl ?_
      refine ec 92 48 [.inl (Hi_word c2 v4 g)] [] rfl (ev_Op_sayer (Hi_word c2 v4 g) g _ rfl) ?_
      show Ev 94 48 [some (.inr (.inr 50)), some (.inl c1), some (.inl c2), some (.inl v3), some (.inl v4), some (.inl (Hi_word c2 v4 g)), none] [.inl (Op_sayer (Hi_word c2 v4 g))] g _ _
      refine ev_runs 1 (48, [some (.inr (.inr 50)), some (.inl c1), some (.inl c2), some (.inl v3), some (.inl v4), some (.inl (Hi_word c2 v4 g)), none], [.inl (Op_sayer (Hi_word c2 v4 g))], g) (49, [some (.inr (.inr 50)), some (.inl c1), some (.inl c2), some (.inl v3), some (.inl v4), some (.inl (Hi_word c2 v4 g)), none], [.inl c1, .inl (Op_sayer (Hi_word c2 v4 g))], g) rfl ?_
      by_cases hc : (Op_sayer (Hi_word c2 v4 g)) = c1
      · rw [if_pos hc] at h
        refine es (61, [some (.inr (.inr 50)), some (.inl c1), some (.inl c2), some (.inl v3), some (.inl v4), some (.inl (Hi_word c2 v4 g)), none], [], g) (congrArg some (if_pos hc)) ?_
        refine ev_runs 1 (61, [some (.inr (.inr 50)), some (.inl c1), some (.inl c2), some (.inl v3), some (.inl v4), some (.inl (Hi_word c2 v4 g)), none], [], g) (63, [some (.inr (.inr 50)), some (.inl c1), some (.inl c2), some (.inl v3), some (.inl v4), some (.inl (Hi_word c2 v4 g)), none], [.inl (Hi_word c2 v4 g)], g) rfl ?_
        refine ec 92 66 [.inl (Hi_word c2 v4 g)] [] rfl (ev_Op_sayer (Hi_word c2 v4 g) g _ rfl) ?_
        show Ev 94 66 [some (.inr (.inr 50)), some (.inl c1), some (.inl c2), some (.inl v3), some (.inl v4), some (.inl (Hi_word c2 v4 g)), none] [.inl (Op_sayer (Hi_word c2 v4 g))] g _ _
        refine ev_runs 1 (66, [some (.inr (.inr 50)), some (.inl c1), some (.inl c2), some (.inl v3), some (.inl v4), some (.inl (Hi_word c2 v4 g)), none], [.inl (Op_sayer (Hi_word c2 v4 g))], g) (67, [some (.inr (.inr 50)), some (.inl c1), some (.inl c2), some (.inl v3), some (.inl v4), some (.inl (Hi_word c2 v4 g)), none], [.inl c1, .inl (Op_sayer (Hi_word c2 v4 g))], g) rfl ?_
        obtain ⟨y1, hy1, h⟩ := lett_inv h
        have hjy1 : Ev 94 79 [some (.inr (.inr 50)), some (.inl c1), some (.inl c2), some (.inl v3), some (.inl v4), some (.inl (Hi_word c2 v4 g)), none] [.inl y1] g none g' := by
          refine ev_runs 11 (79, [some (.inr (.inr 50)), some (.inl c1), some (.inl c2), some (.inl v3), some (.inl v4), some (.inl (Hi_word c2 v4 g)), none], [.inl y1], g) (96, [some (.inr (.inr 50)), some (.inl c1), some (.inl c2), some (.inl v3), some (.inl v4), some (.inl (Hi_word c2 v4 g)), some (.inl y1)], [.inl (wr (y1 + (Hi_word c2 v4 g))), .inl (wr ((wr (c2 * 24)) + v3)), .inr (.inr 51)], g) rfl ?_
          refine ec 0 99 [.inr (.inr 51), .inl (wr ((wr (c2 * 24)) + v3)), .inl (wr (y1 + (Hi_word c2 v4 g)))] [] rfl (ev_Row_set rfl rfl _ _ _) ?_
          show Ev 94 99 [some (.inr (.inr 50)), some (.inl c1), some (.inl c2), some (.inl v3), some (.inl v4), some (.inl (Hi_word c2 v4 g)), some (.inl y1)] [] (rset g 52 720 (wr ((wr (c2 * 24)) + v3)) (wr (y1 + (Hi_word c2 v4 g)))) _ _
          refine ev_runs 3 (99, [some (.inr (.inr 50)), some (.inl c1), some (.inl c2), some (.inl v3), some (.inl v4), some (.inl (Hi_word c2 v4 g)), some (.inl y1)], [], (rset g 52 720 (wr ((wr (c2 * 24)) + v3)) (wr (y1 + (Hi_word c2 v4 g))))) (18, [some (.inr (.inr 50)), some (.inl c1), some (.inl c2), some (.inl (wr (v3 + 1))), some (.inl (wr (v4 + 1))), some (.inl (Hi_word c2 v4 g)), some (.inl y1)], [], (rset g 52 720 (wr ((wr (c2 * 24)) + v3)) (wr (y1 + (Hi_word c2 v4 g))))) rfl ?_
          exact ev_le (L := [some (.inr (.inr 50)), some (.inl c1), some (.inl c2), some (.inl (wr (v3 + 1))), some (.inl (wr (v4 + 1))), none, none]) (by simp [Lle]) (ih18 (wr (v3 + 1)) (wr (v4 + 1)) (rset g 52 720 (wr ((wr (c2 * 24)) + v3)) (wr (y1 + (Hi_word c2 v4 g)))) g' h)
        by_cases hc : ¬ (Op_sayer (Hi_word c2 v4 g)) = c1
        · rw [if_pos hc] at hy1
          refine es (76, [some (.inr (.inr 50)), some (.inl c1), some (.inl c2), some (.inl v3), some (.inl v4), some (.inl (Hi_word c2 v4 g)), none], [], g) (congrArg some (if_pos hc)) ?_
          refine ev_runs 1 (76, [some (.inr (.inr 50)), some (.inl c1), some (.inl c2), some (.inl v3), some (.inl v4), some (.inl (Hi_word c2 v4 g)), none], [], g) (79, [some (.inr (.inr 50)), some (.inl c1), some (.inl c2), some (.inl v3), some (.inl v4), some (.inl (Hi_word c2 v4 g)), none], [.inl 20000], g) rfl ?_
          rw [hy1] at hjy1
          exact ev_le (L := [some (.inr (.inr 50)), some (.inl c1), some (.inl c2), some (.inl v3), some (.inl v4), some (.inl (Hi_word c2 v4 g)), none]) (by simp [Lle]) hjy1
        · rw [if_neg hc] at hy1
          refine es (70, [some (.inr (.inr 50)), some (.inl c1), some (.inl c2), some (.inl v3), some (.inl v4), some (.inl (Hi_word c2 v4 g)), none], [], g) (congrArg some (if_neg hc)) ?_
          refine ev_runs 2 (70, [some (.inr (.inr 50)), some (.inl c1), some (.inl c2), some (.inl v3), some (.inl v4), some (.inl (Hi_word c2 v4 g)), none], [], g) (79, [some (.inr (.inr 50)), some (.inl c1), some (.inl c2), some (.inl v3), some (.inl v4), some (.inl (Hi_word c2 v4 g)), none], [.inl 10000], g) rfl ?_
          rw [hy1] at hjy1
          exact ev_le (L := [some (.inr (.inr 50)), some (.inl c1), some (.inl c2), some (.inl v3), some (.inl v4), some (.inl (Hi_word c2 v4 g)), none]) (by simp [Lle]) hjy1
      · rw [if_neg hc] at h
        refine es (52, [some (.inr (.inr 50)), some (.inl c1), some (.inl c2), some (.inl v3), some (.inl v4), some (.inl (Hi_word c2 v4 g)), none], [], g) (congrArg some (if_neg hc)) ?_
        refine ev_runs 1 (52, [some (.inr (.inr 50)), some (.inl c1), some (.inl c2), some (.inl v3), some (.inl v4), some (.inl (Hi_word c2 v4 g)), none], [], g) (54, [some (.inr (.inr 50)), some (.inl c1), some (.inl c2), some (.inl v3), some (.inl v4), some (.inl (Hi_word c2 v4 g)), none], [.inl (Hi_word c2 v4 g)], g) rfl ?_
        refine ec 93 57 [.inl (Hi_word c2 v4 g)] [] rfl (ev_Op_getter (Hi_word c2 v4 g) g _ rfl) ?_
        show Ev 94 57 [some (.inr (.inr 50)), some (.inl c1), some (.inl c2), some (.inl v3), some (.inl v4), some (.inl (Hi_word c2 v4 g)), none] [.inl (Op_getter (Hi_word c2 v4 g))] g _ _
        refine ev_runs 1 (57, [some (.inr (.inr 50)), some (.inl c1), some (.inl c2), some (.inl v3), some (.inl v4), some (.inl (Hi_word c2 v4 g)), none], [.inl (Op_getter (Hi_word c2 v4 g))], g) (58, [some (.inr (.inr 50)), some (.inl c1), some (.inl c2), some (.inl v3), some (.inl v4), some (.inl (Hi_word c2 v4 g)), none], [.inl c1, .inl (Op_getter (Hi_word c2 v4 g))], g) rfl ?_
        by_cases hc : ¬ (Op_getter (Hi_word c2 v4 g)) = c1
        · rw [if_pos hc] at h
          refine es (102, [some (.inr (.inr 50)), some (.inl c1), some (.inl c2), some (.inl v3), some (.inl v4), some (.inl (Hi_word c2 v4 g)), none], [], g) (congrArg some (if_pos hc)) ?_
          refine ev_runs 2 (102, [some (.inr (.inr 50)), some (.inl c1), some (.inl c2), some (.inl v3), some (.inl v4), some (.inl (Hi_word c2 v4 g)), none], [], g) (18, [some (.inr (.inr 50)), some (.inl c1), some (.inl c2), some (.inl v3), some (.inl (wr (v4 + 1))), some (.inl (Hi_word c2 v4 g)), none], [], g) rfl ?_
          exact ev_le (L := [some (.inr (.inr 50)), some (.inl c1), some (.inl c2), some (.inl v3), some (.inl (wr (v4 + 1))), none, none]) (by simp [Lle]) (ih18 v3 (wr (v4 + 1)) g g' h)
        · rw [if_neg hc] at h
          refine es (61, [some (.inr (.inr 50)), some (.inl c1), some (.inl c2), some (.inl v3), some (.inl v4), some (.inl (Hi_word c2 v4 g)), none], [], g) (congrArg some (if_neg hc)) ?_
          refine ev_runs 1 (61, [some (.inr (.inr 50)), some (.inl c1), some (.inl c2), some (.inl v3), some (.inl v4), some (.inl (Hi_word c2 v4 g)), none], [], g) (63, [some (.inr (.inr 50)), some (.inl c1), some (.inl c2), some (.inl v3), some (.inl v4), some (.inl (Hi_word c2 v4 g)), none], [.inl (Hi_word c2 v4 g)], g) rfl ?_
          refine ec 92 66 [.inl (Hi_word c2 v4 g)] [] rfl (ev_Op_sayer (Hi_word c2 v4 g) g _ rfl) ?_
          show Ev 94 66 [some (.inr (.inr 50)), some (.inl c1), some (.inl c2), some (.inl v3), some (.inl v4), some (.inl (Hi_word c2 v4 g)), none] [.inl (Op_sayer (Hi_word c2 v4 g))] g _ _
          refine ev_runs 1 (66, [some (.inr (.inr 50)), some (.inl c1), some (.inl c2), some (.inl v3), some (.inl v4), some (.inl (Hi_word c2 v4 g)), none], [.inl (Op_sayer (Hi_word c2 v4 g))], g) (67, [some (.inr (.inr 50)), some (.inl c1), some (.inl c2), some (.inl v3), some (.inl v4), some (.inl (Hi_word c2 v4 g)), none], [.inl c1, .inl (Op_sayer (Hi_word c2 v4 g))], g) rfl ?_
          obtain ⟨y2, hy2, h⟩ := lett_inv h
          have hjy2 : Ev 94 79 [some (.inr (.inr 50)), some (.inl c1), some (.inl c2), some (.inl v3), some (.inl v4), some (.inl (Hi_word c2 v4 g)), none] [.inl y2] g none g' := by
            refine ev_runs 11 (79, [some (.inr (.inr 50)), some (.inl c1), some (.inl c2), some (.inl v3), some (.inl v4), some (.inl (Hi_word c2 v4 g)), none], [.inl y2], g) (96, [some (.inr (.inr 50)), some (.inl c1), some (.inl c2), some (.inl v3), some (.inl v4), some (.inl (Hi_word c2 v4 g)), some (.inl y2)], [.inl (wr (y2 + (Hi_word c2 v4 g))), .inl (wr ((wr (c2 * 24)) + v3)), .inr (.inr 51)], g) rfl ?_
            refine ec 0 99 [.inr (.inr 51), .inl (wr ((wr (c2 * 24)) + v3)), .inl (wr (y2 + (Hi_word c2 v4 g)))] [] rfl (ev_Row_set rfl rfl _ _ _) ?_
            show Ev 94 99 [some (.inr (.inr 50)), some (.inl c1), some (.inl c2), some (.inl v3), some (.inl v4), some (.inl (Hi_word c2 v4 g)), some (.inl y2)] [] (rset g 52 720 (wr ((wr (c2 * 24)) + v3)) (wr (y2 + (Hi_word c2 v4 g)))) _ _
            refine ev_runs 3 (99, [some (.inr (.inr 50)), some (.inl c1), some (.inl c2), some (.inl v3), some (.inl v4), some (.inl (Hi_word c2 v4 g)), some (.inl y2)], [], (rset g 52 720 (wr ((wr (c2 * 24)) + v3)) (wr (y2 + (Hi_word c2 v4 g))))) (18, [some (.inr (.inr 50)), some (.inl c1), some (.inl c2), some (.inl (wr (v3 + 1))), some (.inl (wr (v4 + 1))), some (.inl (Hi_word c2 v4 g)), some (.inl y2)], [], (rset g 52 720 (wr ((wr (c2 * 24)) + v3)) (wr (y2 + (Hi_word c2 v4 g))))) rfl ?_
            exact ev_le (L := [some (.inr (.inr 50)), some (.inl c1), some (.inl c2), some (.inl (wr (v3 + 1))), some (.inl (wr (v4 + 1))), none, none]) (by simp [Lle]) (ih18 (wr (v3 + 1)) (wr (v4 + 1)) (rset g 52 720 (wr ((wr (c2 * 24)) + v3)) (wr (y2 + (Hi_word c2 v4 g)))) g' h)
          by_cases hc : ¬ (Op_sayer (Hi_word c2 v4 g)) = c1
          · rw [if_pos hc] at hy2
            refine es (76, [some (.inr (.inr 50)), some (.inl c1), some (.inl c2), some (.inl v3), some (.inl v4), some (.inl (Hi_word c2 v4 g)), none], [], g) (congrArg some (if_pos hc)) ?_
            refine ev_runs 1 (76, [some (.inr (.inr 50)), some (.inl c1), some (.inl c2), some (.inl v3), some (.inl v4), some (.inl (Hi_word c2 v4 g)), none], [], g) (79, [some (.inr (.inr 50)), some (.inl c1), some (.inl c2), some (.inl v3), some (.inl v4), some (.inl (Hi_word c2 v4 g)), none], [.inl 20000], g) rfl ?_
            rw [hy2] at hjy2
            exact ev_le (L := [some (.inr (.inr 50)), some (.inl c1), some (.inl c2), some (.inl v3), some (.inl v4), some (.inl (Hi_word c2 v4 g)), none]) (by simp [Lle]) hjy2
          · rw [if_neg hc] at hy2
            refine es (70, [some (.inr (.inr 50)), some (.inl c1), some (.inl c2), some (.inl v3), some (.inl v4), some (.inl (Hi_word c2 v4 g)), none], [], g) (congrArg some (if_neg hc)) ?_
            refine ev_runs 2 (70, [some (.inr (.inr 50)), some (.inl c1), some (.inl c2), some (.inl v3), some (.inl v4), some (.inl (Hi_word c2 v4 g)), none], [], g) (79, [some (.inr (.inr 50)), some (.inl c1), some (.inl c2), some (.inl v3), some (.inl v4), some (.inl (Hi_word c2 v4 g)), none], [.inl 10000], g) rfl ?_
            rw [hy2] at hjy2
            exact ev_le (L := [some (.inr (.inr 50)), some (.inl c1), some (.inl c2), some (.inl v3), some (.inl v4), some (.inl (Hi_word c2 v4 g)), none]) (by simp [Lle]) hjy2
set_option maxRecDepth 100000 in
set_option maxHeartbeats 4000000 in
theorem ev_Lk_load_l2 (c1 : Int) (K2_123 : Gx → Option Gx) (hK2_123 : ∀ (g : Gx) (g' : Gx), K2_123 g = some g' → Ev 94 123 [none, none, none, none, none, none, none] [] g none g') : ∀ (n2 : Nat) (v2 : Int) (g : Gx) (g' : Gx), Lk_load_l2 c1 K2_123 n2 v2 g = some g' → Ev 94 2 [some (.inr (.inr 50)), some (.inl c1), some (.inl v2), none, none, none, none] [] g none g' := by
  intro n2
  induction n2 with
  | zero => intro v2 g g' h; cases h
  | succ n2 ih2 =>
    intro v2 g g' h
    rw [Lk_load_l2] at h
    refine ev_runs 3 (2, [some (.inr (.inr 50)), some (.inl c1), some (.inl v2), none, none, none, none], [], g) (7, [some (.inr (.inr 50)), some (.inl c1), some (.inl v2), none, none, none, none], [.inr (.inr 33), .inl v2], g) rfl ?_
    refine ec 74 10 [.inr (.inr 33)] [.inl v2] rfl (ev_Hi_size g _ rfl) ?_
    show Ev 94 10 [some (.inr (.inr 50)), some (.inl c1), some (.inl v2), none, none, none, none] [.inl (Hi_size g), .inl v2] g _ _
    by_cases hc : (Hi_size g) ≤ v2
    · rw [if_pos hc] at h
      refine es (123, [some (.inr (.inr 50)), some (.inl c1), some (.inl v2), none, none, none, none], [], g) (congrArg some (if_pos hc)) ?_
      exact ev_le (L := [none, none, none, none, none, none, none]) (by simp [Lle]) (hK2_123 g g' h)
    · rw [if_neg hc] at h
      refine es (13, [some (.inr (.inr 50)), some (.inl c1), some (.inl v2), none, none, none, none], [], g) (congrArg some (if_neg hc)) ?_
      refine ev_runs 4 (13, [some (.inr (.inr 50)), some (.inl c1), some (.inl v2), none, none, none, none], [], g) (18, [some (.inr (.inr 50)), some (.inl c1), some (.inl v2), some (.inl 0), some (.inl 0), none, none], [], g) rfl ?_
      refine ev_le (L := [some (.inr (.inr 50)), some (.inl c1), some (.inl v2), some (.inl 0), some (.inl 0), none, none]) (by simp [Lle]) ?_
      refine ev_Lk_load_l18 c1 v2 _ ?_ fu 0 0 g g' h
      · intro x3 g4 g' h
        refine ev_runs 4 (108, [some (.inr (.inr 50)), some (.inl c1), some (.inl v2), some (.inl x3), none, none, none], [], g4) (114, [some (.inr (.inr 50)), some (.inl c1), some (.inl v2), some (.inl x3), none, none, none], [.inl x3, .inl v2, .inr (.inr 53)], g4) rfl ?_
        refine ec 0 117 [.inr (.inr 53), .inl v2, .inl x3] [] rfl (ev_Row_set rfl rfl _ _ _) ?_
        show Ev 94 117 [some (.inr (.inr 50)), some (.inl c1), some (.inl v2), some (.inl x3), none, none, none] [] (rset g4 54 30 v2 x3) _ _
        refine ev_runs 2 (117, [some (.inr (.inr 50)), some (.inl c1), some (.inl v2), some (.inl x3), none, none, none], [], (rset g4 54 30 v2 x3)) (2, [some (.inr (.inr 50)), some (.inl c1), some (.inl (wr (v2 + 1))), some (.inl x3), none, none, none], [], (rset g4 54 30 v2 x3)) rfl ?_
        exact ev_le (L := [some (.inr (.inr 50)), some (.inl c1), some (.inl (wr (v2 + 1))), none, none, none, none]) (by simp [Lle]) (ih2 (wr (v2 + 1)) (rset g4 54 30 v2 x3) g' h)
set_option maxRecDepth 100000 in
set_option maxHeartbeats 4000000 in
theorem ev_Lk_load (a1 : Int) (g : Gx) (g' : Gx) (h : Lk_load a1 g = some g') : Ev 94 0 [some (.inr (.inr 50)), some (.inl a1), none, none, none, none, none] [] g none g' := by
  rw [Lk_load] at h
  refine ev_runs 2 (0, [some (.inr (.inr 50)), some (.inl a1), none, none, none, none, none], [], g) (2, [some (.inr (.inr 50)), some (.inl a1), some (.inl 0), none, none, none, none], [], g) rfl ?_
  refine ev_le (L := [some (.inr (.inr 50)), some (.inl a1), some (.inl 0), none, none, none, none]) (by simp [Lle]) ?_
  refine ev_Lk_load_l2 a1 _ ?_ fu 0 g g' h
  · intro g5 g' h
    cases h
    exact er rfl
def Lk_length (a1 : Int) (g : Gx) : Int :=
  (rat g 54 30 a1)
set_option maxRecDepth 100000 in
set_option maxHeartbeats 4000000 in
theorem ev_Lk_length (a1 : Int) (g : Gx) (r : Int) (h : Lk_length a1 g = r) : Ev 95 0 [some (.inr (.inr 50)), some (.inl a1)] [] g (some (.inl r)) g := by
  rw [Lk_length] at h
  refine ev_runs 3 (0, [some (.inr (.inr 50)), some (.inl a1)], [], g) (5, [some (.inr (.inr 50)), some (.inl a1)], [.inl a1, .inr (.inr 53)], g) rfl ?_
  refine ec 13 8 [.inr (.inr 53), .inl a1] [] rfl (ev_Row_at rfl rfl _ _) ?_
  show Ev 95 8 [some (.inr (.inr 50)), some (.inl a1)] [.inl (rat g 54 30 a1)] g _ _
  subst h
  exact er rfl
def Lk_act (a1 a2 : Int) (g : Gx) : Int :=
  (rat g 52 720 (wr ((wr (a1 * 24)) + a2)))
set_option maxRecDepth 100000 in
set_option maxHeartbeats 4000000 in
theorem ev_Lk_act (a1 a2 : Int) (g : Gx) (r : Int) (h : Lk_act a1 a2 g = r) : Ev 96 0 [some (.inr (.inr 50)), some (.inl a1), some (.inl a2)] [] g (some (.inl r)) g := by
  rw [Lk_act] at h
  refine ev_runs 7 (0, [some (.inr (.inr 50)), some (.inl a1), some (.inl a2)], [], g) (10, [some (.inr (.inr 50)), some (.inl a1), some (.inl a2)], [.inl (wr ((wr (a1 * 24)) + a2)), .inr (.inr 51)], g) rfl ?_
  refine ec 13 13 [.inr (.inr 51), .inl (wr ((wr (a1 * 24)) + a2))] [] rfl (ev_Row_at rfl rfl _ _) ?_
  show Ev 96 13 [some (.inr (.inr 50)), some (.inl a1), some (.inl a2)] [.inl (rat g 52 720 (wr ((wr (a1 * 24)) + a2)))] g _ _
  subst h
  exact er rfl
